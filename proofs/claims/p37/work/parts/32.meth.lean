theorem gw38 : (Jvm.Cond.selects "NotationPress" ({ cls := "NotationPress", name := "nextUpgrade", desc := "()LNotationPress$Upgrade;" } : Jvm.MethodName) ({ cls := "NotationPress", name := "nextUpgrade", desc := "()LNotationPress$Upgrade;" } : Jvm.MethodName)) ∈ np_gw := np_gwi 38 (by decide +kernel) rfl
theorem gw41 : (Jvm.Cond.selects "NotationPress" ({ cls := "NotationPress", name := "upgradeOf", desc := "(I)LNotationPress$Upgrade;" } : Jvm.MethodName) ({ cls := "NotationPress", name := "upgradeOf", desc := "(I)LNotationPress$Upgrade;" } : Jvm.MethodName)) ∈ np_gw := np_gwi 41 (by decide +kernel) rfl
theorem gw425 : (Jvm.Cond.fieldLinkNest "NotationPress" (413 : Nat) "NotationPress$Upgrade" "length" "I" "NotationPress") ∈ np_nw := np_nwi 425 (by decide +kernel) rfl
theorem gw453 : (Jvm.Cond.fieldLink "NotationPress" (80 : Nat) "NotationPress" "upgrades" "[LNotationPress$Upgrade;") ∈ np_gw := np_gwi 453 (by decide +kernel) rfl
theorem gw454 : (Jvm.Cond.fieldLink "NotationPress" (390 : Nat) "NotationPress" "upgradeCount" "I") ∈ np_gw := np_gwi 454 (by decide +kernel) rfl
theorem gw1311 : (Jvm.Cond.methodLink "NotationPress" (379 : Nat) ({ cls := "NotationPress", name := "nextUpgrade", desc := "()LNotationPress$Upgrade;" } : Jvm.MethodName)) ∈ np_gw := np_gwi 1311 (by decide +kernel) rfl
theorem gw1313 : (Jvm.Cond.instanceMethod ({ cls := "NotationPress", name := "nextUpgrade", desc := "()LNotationPress$Upgrade;" } : Jvm.MethodName)) ∈ np_gw := np_gwi 1313 (by decide +kernel) rfl
theorem gw1314 : (Jvm.Cond.code ({ cls := "NotationPress", name := "nextUpgrade", desc := "()LNotationPress$Upgrade;" } : Jvm.MethodName) prog_1_method_41_code (1 : Nat) (Option.some (Jvm.ClassFile.FieldType.object "NotationPress$Upgrade"))) ∈ np_gw := np_gwi 1314 (by decide +kernel) rfl
theorem gw1316 : (Jvm.Cond.methodLink "NotationPress" (385 : Nat) ({ cls := "NotationPress$Upgrade", name := "buildFrom", desc := "(LNotationPress$UpgradeDraft;)V" } : Jvm.MethodName)) ∈ np_gw := np_gwi 1316 (by decide +kernel) rfl
theorem gw1317 : (Jvm.Cond.instanceMethod ({ cls := "NotationPress$Upgrade", name := "buildFrom", desc := "(LNotationPress$UpgradeDraft;)V" } : Jvm.MethodName)) ∈ np_gw := np_gwi 1317 (by decide +kernel) rfl
theorem gw1318 : (Jvm.Cond.selects "NotationPress$Upgrade" ({ cls := "NotationPress$Upgrade", name := "buildFrom", desc := "(LNotationPress$UpgradeDraft;)V" } : Jvm.MethodName) ({ cls := "NotationPress$Upgrade", name := "buildFrom", desc := "(LNotationPress$UpgradeDraft;)V" } : Jvm.MethodName)) ∈ np_gw := np_gwi 1318 (by decide +kernel) rfl
theorem gw1319 : (Jvm.Cond.code ({ cls := "NotationPress$Upgrade", name := "buildFrom", desc := "(LNotationPress$UpgradeDraft;)V" } : Jvm.MethodName) prog_11_method_8_code (3 : Nat) (Option.none : Option Jvm.ClassFile.FieldType)) ∈ np_gw := np_gwi 1319 (by decide +kernel) rfl
theorem gw1330 : (Jvm.Cond.methodLink "NotationPress" (389 : Nat) ({ cls := "NotationPress$UpgradeDraft", name := "clear", desc := "()V" } : Jvm.MethodName)) ∈ np_gw := np_gwi 1330 (by decide +kernel) rfl
theorem gw1331 : (Jvm.Cond.instanceMethod ({ cls := "NotationPress$UpgradeDraft", name := "clear", desc := "()V" } : Jvm.MethodName)) ∈ np_gw := np_gwi 1331 (by decide +kernel) rfl
theorem gw1332 : (Jvm.Cond.selects "NotationPress$UpgradeDraft" ({ cls := "NotationPress$UpgradeDraft", name := "clear", desc := "()V" } : Jvm.MethodName) ({ cls := "NotationPress$UpgradeDraft", name := "clear", desc := "()V" } : Jvm.MethodName)) ∈ np_gw := np_gwi 1332 (by decide +kernel) rfl
theorem gw1333 : (Jvm.Cond.code ({ cls := "NotationPress$UpgradeDraft", name := "clear", desc := "()V" } : Jvm.MethodName) prog_12_method_3_code (1 : Nat) (Option.none : Option Jvm.ClassFile.FieldType)) ∈ np_gw := np_gwi 1333 (by decide +kernel) rfl
theorem gw1338 : (Jvm.Cond.methodLink "NotationPress" (393 : Nat) ({ cls := "NotationPress", name := "upgradeOf", desc := "(I)LNotationPress$Upgrade;" } : Jvm.MethodName)) ∈ np_gw := np_gwi 1338 (by decide +kernel) rfl
theorem gw1340 : (Jvm.Cond.instanceMethod ({ cls := "NotationPress", name := "upgradeOf", desc := "(I)LNotationPress$Upgrade;" } : Jvm.MethodName)) ∈ np_gw := np_gwi 1340 (by decide +kernel) rfl
theorem gw1341 : (Jvm.Cond.code ({ cls := "NotationPress", name := "upgradeOf", desc := "(I)LNotationPress$Upgrade;" } : Jvm.MethodName) prog_1_method_40_code (2 : Nat) (Option.some (Jvm.ClassFile.FieldType.object "NotationPress$Upgrade"))) ∈ np_gw := np_gwi 1341 (by decide +kernel) rfl
theorem gw1352 : (Jvm.Cond.methodLink "NotationPress" (399 : Nat) ({ cls := "NotationPress$Upgrade", name := "buildComposed", desc := "(LNotationPress$Upgrade;LNotationPress$Upgrade;)Z" } : Jvm.MethodName)) ∈ np_gw := np_gwi 1352 (by decide +kernel) rfl
theorem gw1353 : (Jvm.Cond.instanceMethod ({ cls := "NotationPress$Upgrade", name := "buildComposed", desc := "(LNotationPress$Upgrade;LNotationPress$Upgrade;)Z" } : Jvm.MethodName)) ∈ np_gw := np_gwi 1353 (by decide +kernel) rfl
theorem gw1354 : (Jvm.Cond.selects "NotationPress$Upgrade" ({ cls := "NotationPress$Upgrade", name := "buildComposed", desc := "(LNotationPress$Upgrade;LNotationPress$Upgrade;)Z" } : Jvm.MethodName) ({ cls := "NotationPress$Upgrade", name := "buildComposed", desc := "(LNotationPress$Upgrade;LNotationPress$Upgrade;)Z" } : Jvm.MethodName)) ∈ np_gw := np_gwi 1354 (by decide +kernel) rfl
theorem gw1355 : (Jvm.Cond.code ({ cls := "NotationPress$Upgrade", name := "buildComposed", desc := "(LNotationPress$Upgrade;LNotationPress$Upgrade;)Z" } : Jvm.MethodName) prog_11_method_10_code (4 : Nat) (Option.some Jvm.ClassFile.FieldType.boolean)) ∈ np_gw := np_gwi 1355 (by decide +kernel) rfl
theorem gw1396 : (Jvm.Cond.methodLink "NotationPress" (409 : Nat) ({ cls := "NotationPress$Upgrade", name := "valueFor", desc := "(I[I)I" } : Jvm.MethodName)) ∈ np_gw := np_gwi 1396 (by decide +kernel) rfl
theorem gw1397 : (Jvm.Cond.instanceMethod ({ cls := "NotationPress$Upgrade", name := "valueFor", desc := "(I[I)I" } : Jvm.MethodName)) ∈ np_gw := np_gwi 1397 (by decide +kernel) rfl
theorem gw1398 : (Jvm.Cond.selects "NotationPress$Upgrade" ({ cls := "NotationPress$Upgrade", name := "valueFor", desc := "(I[I)I" } : Jvm.MethodName) ({ cls := "NotationPress$Upgrade", name := "valueFor", desc := "(I[I)I" } : Jvm.MethodName)) ∈ np_gw := np_gwi 1398 (by decide +kernel) rfl
theorem gw1399 : (Jvm.Cond.code ({ cls := "NotationPress$Upgrade", name := "valueFor", desc := "(I[I)I" } : Jvm.MethodName) prog_11_method_20_code (8 : Nat) (Option.some Jvm.ClassFile.FieldType.int)) ∈ np_gw := np_gwi 1399 (by decide +kernel) rfl
theorem gw1427 : (Jvm.Cond.methodLink "NotationPress" (403 : Nat) ({ cls := "NotationPress$Upgrade", name := "buildReversed", desc := "(LNotationPress$Upgrade;)Z" } : Jvm.MethodName)) ∈ np_gw := np_gwi 1427 (by decide +kernel) rfl
theorem gw1428 : (Jvm.Cond.instanceMethod ({ cls := "NotationPress$Upgrade", name := "buildReversed", desc := "(LNotationPress$Upgrade;)Z" } : Jvm.MethodName)) ∈ np_gw := np_gwi 1428 (by decide +kernel) rfl
theorem gw1429 : (Jvm.Cond.selects "NotationPress$Upgrade" ({ cls := "NotationPress$Upgrade", name := "buildReversed", desc := "(LNotationPress$Upgrade;)Z" } : Jvm.MethodName) ({ cls := "NotationPress$Upgrade", name := "buildReversed", desc := "(LNotationPress$Upgrade;)Z" } : Jvm.MethodName)) ∈ np_gw := np_gwi 1429 (by decide +kernel) rfl
theorem gw1430 : (Jvm.Cond.code ({ cls := "NotationPress$Upgrade", name := "buildReversed", desc := "(LNotationPress$Upgrade;)Z" } : Jvm.MethodName) prog_11_method_14_code (3 : Nat) (Option.some Jvm.ClassFile.FieldType.boolean)) ∈ np_gw := np_gwi 1430 (by decide +kernel) rfl
theorem gw1458 : (Jvm.Cond.methodLink "NotationPress" (423 : Nat) ({ cls := "NotationPress$Table", name := "rowByIndex", desc := "(III)I" } : Jvm.MethodName)) ∈ np_gw := np_gwi 1458 (by decide +kernel) rfl
theorem gw1459 : (Jvm.Cond.instanceMethod ({ cls := "NotationPress$Table", name := "rowByIndex", desc := "(III)I" } : Jvm.MethodName)) ∈ np_gw := np_gwi 1459 (by decide +kernel) rfl
theorem gw1460 : (Jvm.Cond.selects "NotationPress$Table" ({ cls := "NotationPress$Table", name := "rowByIndex", desc := "(III)I" } : Jvm.MethodName) ({ cls := "NotationPress$Table", name := "rowByIndex", desc := "(III)I" } : Jvm.MethodName)) ∈ np_gw := np_gwi 1460 (by decide +kernel) rfl
theorem gw1461 : (Jvm.Cond.code ({ cls := "NotationPress$Table", name := "rowByIndex", desc := "(III)I" } : Jvm.MethodName) prog_8_method_13_code (7 : Nat) (Option.some Jvm.ClassFile.FieldType.int)) ∈ np_gw := np_gwi 1461 (by decide +kernel) rfl
theorem gw1466 : (Jvm.Cond.methodLink "NotationPress" (427 : Nat) ({ cls := "NotationPress$Table", name := "rowByLooking", desc := "(III)I" } : Jvm.MethodName)) ∈ np_gw := np_gwi 1466 (by decide +kernel) rfl
theorem gw1467 : (Jvm.Cond.instanceMethod ({ cls := "NotationPress$Table", name := "rowByLooking", desc := "(III)I" } : Jvm.MethodName)) ∈ np_gw := np_gwi 1467 (by decide +kernel) rfl
theorem gw1468 : (Jvm.Cond.selects "NotationPress$Table" ({ cls := "NotationPress$Table", name := "rowByLooking", desc := "(III)I" } : Jvm.MethodName) ({ cls := "NotationPress$Table", name := "rowByLooking", desc := "(III)I" } : Jvm.MethodName)) ∈ np_gw := np_gwi 1468 (by decide +kernel) rfl
theorem gw1469 : (Jvm.Cond.code ({ cls := "NotationPress$Table", name := "rowByLooking", desc := "(III)I" } : Jvm.MethodName) prog_8_method_14_code (6 : Nat) (Option.some Jvm.ClassFile.FieldType.int)) ∈ np_gw := np_gwi 1469 (by decide +kernel) rfl
theorem gw1474 : (Jvm.Cond.methodLink "NotationPress" (414 : Nat) ({ cls := "NotationPress$Table", name := "keysNotIn", desc := "(LNotationPress$Table;I)I" } : Jvm.MethodName)) ∈ np_gw := np_gwi 1474 (by decide +kernel) rfl
theorem gw1475 : (Jvm.Cond.instanceMethod ({ cls := "NotationPress$Table", name := "keysNotIn", desc := "(LNotationPress$Table;I)I" } : Jvm.MethodName)) ∈ np_gw := np_gwi 1475 (by decide +kernel) rfl
theorem gw1476 : (Jvm.Cond.selects "NotationPress$Table" ({ cls := "NotationPress$Table", name := "keysNotIn", desc := "(LNotationPress$Table;I)I" } : Jvm.MethodName) ({ cls := "NotationPress$Table", name := "keysNotIn", desc := "(LNotationPress$Table;I)I" } : Jvm.MethodName)) ∈ np_gw := np_gwi 1476 (by decide +kernel) rfl
theorem gw1477 : (Jvm.Cond.code ({ cls := "NotationPress$Table", name := "keysNotIn", desc := "(LNotationPress$Table;I)I" } : Jvm.MethodName) prog_8_method_17_code (5 : Nat) (Option.some Jvm.ClassFile.FieldType.int)) ∈ np_gw := np_gwi 1477 (by decide +kernel) rfl
theorem gw1486 : (Jvm.Cond.methodLink "NotationPress" (418 : Nat) ({ cls := "NotationPress$Table", name := "keysThatDiffer", desc := "(LNotationPress$Table;I)I" } : Jvm.MethodName)) ∈ np_gw := np_gwi 1486 (by decide +kernel) rfl
theorem gw1487 : (Jvm.Cond.instanceMethod ({ cls := "NotationPress$Table", name := "keysThatDiffer", desc := "(LNotationPress$Table;I)I" } : Jvm.MethodName)) ∈ np_gw := np_gwi 1487 (by decide +kernel) rfl
theorem gw1488 : (Jvm.Cond.selects "NotationPress$Table" ({ cls := "NotationPress$Table", name := "keysThatDiffer", desc := "(LNotationPress$Table;I)I" } : Jvm.MethodName) ({ cls := "NotationPress$Table", name := "keysThatDiffer", desc := "(LNotationPress$Table;I)I" } : Jvm.MethodName)) ∈ np_gw := np_gwi 1488 (by decide +kernel) rfl
theorem gw1489 : (Jvm.Cond.code ({ cls := "NotationPress$Table", name := "keysThatDiffer", desc := "(LNotationPress$Table;I)I" } : Jvm.MethodName) prog_8_method_18_code (6 : Nat) (Option.some Jvm.ClassFile.FieldType.int)) ∈ np_gw := np_gwi 1489 (by decide +kernel) rfl
theorem sw1315 : (Jvm.Cond.stringRef "NotationPress" (383 : Nat) "no more upgrades") ∈ lw_tbl := List.mem_of_getElem? (i := 1315) (by decide +kernel)
theorem sw1342 : (Jvm.Cond.stringRef "NotationPress" (397 : Nat) "no such upgrade") ∈ lw_tbl := List.mem_of_getElem? (i := 1342) (by decide +kernel)
theorem sw1395 : (Jvm.Cond.stringRef "NotationPress" (407 : Nat) "no such upgrade or slot") ∈ lw_tbl := List.mem_of_getElem? (i := 1395) (by decide +kernel)
theorem sw1457 : (Jvm.Cond.stringRef "NotationPress" (421 : Nat) "no such place") ∈ lw_tbl := List.mem_of_getElem? (i := 1457) (by decide +kernel)
theorem dX11_nextUpgrade_0 : decode cX11_nextUpgrade 0 = .ok (.aload_n 0, 1) := by decide +kernel
theorem dX11_nextUpgrade_1 : decode cX11_nextUpgrade 1 = .ok (.getfield 390, 3) := by decide +kernel
theorem dX11_nextUpgrade_4 : decode cX11_nextUpgrade 4 = .ok (.ifCond .lt 27, 3) := by decide +kernel
theorem dX11_nextUpgrade_7 : decode cX11_nextUpgrade 7 = .ok (.aload_n 0, 1) := by decide +kernel
theorem dX11_nextUpgrade_8 : decode cX11_nextUpgrade 8 = .ok (.getfield 390, 3) := by decide +kernel
theorem dX11_nextUpgrade_11 : decode cX11_nextUpgrade 11 = .ok (.aload_n 0, 1) := by decide +kernel
theorem dX11_nextUpgrade_12 : decode cX11_nextUpgrade 12 = .ok (.getfield 80, 3) := by decide +kernel
theorem dX11_nextUpgrade_15 : decode cX11_nextUpgrade 15 = .ok (.arraylength, 1) := by decide +kernel
theorem dX11_nextUpgrade_16 : decode cX11_nextUpgrade 16 = .ok (.if_icmp .ge 15, 3) := by decide +kernel
theorem dX11_nextUpgrade_19 : decode cX11_nextUpgrade 19 = .ok (.aload_n 0, 1) := by decide +kernel
theorem dX11_nextUpgrade_20 : decode cX11_nextUpgrade 20 = .ok (.getfield 80, 3) := by decide +kernel
theorem dX11_nextUpgrade_23 : decode cX11_nextUpgrade 23 = .ok (.aload_n 0, 1) := by decide +kernel
theorem dX11_nextUpgrade_24 : decode cX11_nextUpgrade 24 = .ok (.getfield 390, 3) := by decide +kernel
theorem dX11_nextUpgrade_27 : decode cX11_nextUpgrade 27 = .ok (.aaload, 1) := by decide +kernel
theorem dX11_nextUpgrade_28 : decode cX11_nextUpgrade 28 = .ok (.goto 4, 3) := by decide +kernel
theorem dX11_nextUpgrade_31 : decode cX11_nextUpgrade 31 = .ok (.aconst_null, 1) := by decide +kernel
theorem dX11_nextUpgrade_32 : decode cX11_nextUpgrade 32 = .ok (.areturn, 1) := by decide +kernel
def is_X11_nextUpgrade (Rt : np_Rt) : List (Nat × np_Op) := [(0, np_ald 1 0), (1, nw_getf 11 13), (4, nq_if (fun x => x < 0) 31), (7, np_ald 1 0), (8, nw_getf 11 13), (11, np_ald 1 0), (12, nw_getf 11 12), (15, nw_alen), (16, nq_ic (fun x y => y ≤ x) 31), (19, np_ald 1 0), (20, nw_getf 11 12), (23, np_ald 1 0), (24, nw_getf 11 13), (27, nw_aald "NotationPress$Upgrade"), (28, np_goto 32), (31, np_push 1 .null), (32, np_ret Rt)]
set_option maxRecDepth 20000 in
theorem so_X11_nextUpgrade {X : np_Ctx} {Rt : np_Rt} (hX : np_ok RX11 cX11_nextUpgrade 1 0 0 0 0 .areturn X) (hR : ∀ st w ce sl, Rt st w ce sl → X.2.2.1 st w ce sl) : ∀ q ∈ is_X11_nextUpgrade Rt, np_S X q.1 q.2 :=
  List.forall_mem_cons.mpr ⟨np_s_aload_n hX dX11_nextUpgrade_0 rfl, List.forall_mem_cons.mpr ⟨np_S.mono (op := np_getf 11 13) (np_s_getf hX dX11_nextUpgrade_1 (C := RX11) (T := TX11) (N := 14) rfl guX11 (by decide) gw454) nw_getf_le, List.forall_mem_cons.mpr ⟨np_S.mono (op := np_if (fun x => x < 0) 31) (np_s_if_lt hX dX11_nextUpgrade_4 (by decide)) nq_if_le, List.forall_mem_cons.mpr ⟨np_s_aload_n hX dX11_nextUpgrade_7 rfl, List.forall_mem_cons.mpr ⟨np_S.mono (op := np_getf 11 13) (np_s_getf hX dX11_nextUpgrade_8 (C := RX11) (T := TX11) (N := 14) rfl guX11 (by decide) gw454) nw_getf_le, List.forall_mem_cons.mpr ⟨np_s_aload_n hX dX11_nextUpgrade_11 rfl, List.forall_mem_cons.mpr ⟨np_S.mono (op := np_getf 11 12) (np_s_getf hX dX11_nextUpgrade_12 (C := RX11) (T := TX11) (N := 14) rfl guX11 (by decide) gw453) nw_getf_le, List.forall_mem_cons.mpr ⟨np_S.mono (op := np_alen) (np_s_alen hX dX11_nextUpgrade_15) nw_alen_le, List.forall_mem_cons.mpr ⟨np_S.mono (op := np_ic (fun x y => y ≤ x) 31) (np_s_icmp_ge hX dX11_nextUpgrade_16 (by decide)) nq_ic_le, List.forall_mem_cons.mpr ⟨np_s_aload_n hX dX11_nextUpgrade_19 rfl, List.forall_mem_cons.mpr ⟨np_S.mono (op := np_getf 11 12) (np_s_getf hX dX11_nextUpgrade_20 (C := RX11) (T := TX11) (N := 14) rfl guX11 (by decide) gw453) nw_getf_le, List.forall_mem_cons.mpr ⟨np_s_aload_n hX dX11_nextUpgrade_23 rfl, List.forall_mem_cons.mpr ⟨np_S.mono (op := np_getf 11 13) (np_s_getf hX dX11_nextUpgrade_24 (C := RX11) (T := TX11) (N := 14) rfl guX11 (by decide) gw454) nw_getf_le, List.forall_mem_cons.mpr ⟨np_S.mono (op := np_aald "NotationPress$Upgrade") (np_s_aald hX dX11_nextUpgrade_27) nw_aald_le, List.forall_mem_cons.mpr ⟨np_s_goto hX dX11_nextUpgrade_28 (by decide), List.forall_mem_cons.mpr ⟨np_s_null hX dX11_nextUpgrade_31, List.forall_mem_cons.mpr ⟨np_S.mono (op := np_ret X.2.2.1) (np_s_ret hX dX11_nextUpgrade_32) (nq_ret_le hR), fun _ h => nomatch h⟩⟩⟩⟩⟩⟩⟩⟩⟩⟩⟩⟩⟩⟩⟩⟩⟩
noncomputable def m_X11_nextUpgrade (S : pw_S) (i0 : Nat) : pw_R (Option Nat) :=
 if (S 61 i0 13) < 0 then
 (some (S, none))
 else
 (if 8 ≤ (S 61 i0 13) then
 (some (S, none))
 else
 (pw_c (np_inb (S 61 i0 13) 8) <|
 some (S, some (pw_dn 8 (S 61 i0 13)))))
def sp_X11_nextUpgrade : np_Sp := fun vs w Q => ∃ (q : Nat) (S : pw_S) (i0 : Nat), vs = [.ref (pw_pl 61 i0)] ∧ pw_ok q 61 i0 = true ∧ pw_W q w S ∧ pw_p (m_X11_nextUpgrade S i0) (fun S' r => ∀ f', pw_W q (w.1, f') S' → pw_oo q 57 r = true → Q (some (pw_v 57 r)) (w.1, f'))
set_option maxRecDepth 100000 in
set_option maxHeartbeats 8000000 in
theorem C_X11_nextUpgrade : np_C yX11_nextUpgrade cX11_nextUpgrade 1 (some (.object "NotationPress$Upgrade")) 0 0 0 0 sp_X11_nextUpgrade := by
  refine np_of (by decide) ?_
  intro X vs w Q hsp hX hmn hRt hlt
  obtain ⟨q, S, i0, rfl, hi0, hW, h⟩ := hsp
  obtain ⟨n, f⟩ := w
  unfold m_X11_nextUpgrade at h
  have hR : ∀ st w ce sl, np_rt (some (.object "NotationPress$Upgrade")) 0 0 Q st w ce sl → X.2.2.1 st w ce sl := fun _ _ _ _ h => by rw [hRt]; exact h
  refine np_soundW (so_X11_nextUpgrade hX hR) [] 400 0 _ _ _ _ _ ?_
  conv => whnf
  refine np_rd_i (hW.g hi0) ?_
  conv => whnf
  refine pw_br h (fun _ h => ?_) (fun _ h => ?_)
  · conv => whnf
    exact ⟨Nat.le_of_ble_eq_true rfl, Nat.le_of_ble_eq_true rfl, Or.inl rfl, _, fun _ _ h9 => h9, pw_ps h _ hW rfl⟩
  · conv => whnf
    refine np_rd_i (hW.g hi0) ?_
    conv => whnf
    refine np_rd_i (hW.g hi0) ?_
    conv => whnf
    refine np_rd_i (hW.g rfl) ?_
    conv => whnf
    refine pw_br h (fun _ h => ?_) (fun _ h => ?_)
    · conv => whnf
      exact ⟨Nat.le_of_ble_eq_true rfl, Nat.le_of_ble_eq_true rfl, Or.inl rfl, _, fun _ _ h9 => h9, pw_ps h _ hW rfl⟩
    · conv => whnf
      refine np_rd_i (hW.g hi0) ?_
      conv => whnf
      refine np_rd_i (hW.g hi0) ?_
      conv => whnf
      refine np_rd_i (hW.g rfl) ?_
      conv => whnf
      refine ⟨rfl, ?_⟩
      conv => whnf
      refine pw_ck h (fun hb1 h => ?_)
      conv => whnf
      exact ⟨Nat.le_of_ble_eq_true rfl, Nat.le_of_ble_eq_true rfl, Or.inr ⟨_, rfl⟩, _, fun _ _ h9 => h9, pw_ps h _ hW (pw_okd (a := 57) (n := 8) rfl rfl rfl)⟩
theorem dX11_upgrade_0 : decode cX11_upgrade 0 = .ok (.aload_n 0, 1) := by decide +kernel
theorem dX11_upgrade_1 : decode cX11_upgrade 1 = .ok (.invokevirtual 379, 3) := by decide +kernel
theorem dX11_upgrade_4 : decode cX11_upgrade 4 = .ok (.astore_n 1, 1) := by decide +kernel
theorem dX11_upgrade_5 : decode cX11_upgrade 5 = .ok (.aload_n 1, 1) := by decide +kernel
theorem dX11_upgrade_6 : decode cX11_upgrade 6 = .ok (.ifnonnull 14, 3) := by decide +kernel
theorem dX11_upgrade_9 : decode cX11_upgrade 9 = .ok (.new 116, 3) := by decide +kernel
theorem dX11_upgrade_12 : decode cX11_upgrade 12 = .ok (.dup, 1) := by decide +kernel
theorem dX11_upgrade_13 : decode cX11_upgrade 13 = .ok (.ldc_w 383, 3) := by decide +kernel
theorem dX11_upgrade_16 : decode cX11_upgrade 16 = .ok (.invokespecial 120, 3) := by decide +kernel
theorem dX11_upgrade_19 : decode cX11_upgrade 19 = .ok (.athrow, 1) := by decide +kernel
theorem dX11_upgrade_20 : decode cX11_upgrade 20 = .ok (.aload_n 1, 1) := by decide +kernel
theorem dX11_upgrade_21 : decode cX11_upgrade 21 = .ok (.aload_n 0, 1) := by decide +kernel
theorem dX11_upgrade_22 : decode cX11_upgrade 22 = .ok (.getfield 74, 3) := by decide +kernel
theorem dX11_upgrade_25 : decode cX11_upgrade 25 = .ok (.invokevirtual 385, 3) := by decide +kernel
theorem dX11_upgrade_28 : decode cX11_upgrade 28 = .ok (.aload_n 0, 1) := by decide +kernel
theorem dX11_upgrade_29 : decode cX11_upgrade 29 = .ok (.getfield 74, 3) := by decide +kernel
theorem dX11_upgrade_32 : decode cX11_upgrade 32 = .ok (.invokevirtual 389, 3) := by decide +kernel
theorem dX11_upgrade_35 : decode cX11_upgrade 35 = .ok (.aload_n 0, 1) := by decide +kernel
theorem dX11_upgrade_36 : decode cX11_upgrade 36 = .ok (.dup, 1) := by decide +kernel
theorem dX11_upgrade_37 : decode cX11_upgrade 37 = .ok (.getfield 390, 3) := by decide +kernel
theorem dX11_upgrade_40 : decode cX11_upgrade 40 = .ok (.iconst 1, 1) := by decide +kernel
theorem dX11_upgrade_41 : decode cX11_upgrade 41 = .ok (.iadd, 1) := by decide +kernel
theorem dX11_upgrade_42 : decode cX11_upgrade 42 = .ok (.putfield 390, 3) := by decide +kernel
theorem dX11_upgrade_45 : decode cX11_upgrade 45 = .ok (.aload_n 0, 1) := by decide +kernel
theorem dX11_upgrade_46 : decode cX11_upgrade 46 = .ok (.getfield 390, 3) := by decide +kernel
theorem dX11_upgrade_49 : decode cX11_upgrade 49 = .ok (.iconst 1, 1) := by decide +kernel
theorem dX11_upgrade_50 : decode cX11_upgrade 50 = .ok (.isub, 1) := by decide +kernel
theorem dX11_upgrade_51 : decode cX11_upgrade 51 = .ok (.ireturn, 1) := by decide +kernel
def is_X11_upgrade (Rt : np_Rt) (Th : np_Th) : List (Nat × np_Op) := [(0, np_ald 1 0), (1, nw_callV 11 1 sp_X11_nextUpgrade 1 0 0 1 6), (4, np_ast 1 1), (5, np_ald 1 1), (6, np_ifnonnull 20), (9, nq_throw Th 2), (20, np_ald 1 1), (21, np_ald 1 0), (22, nw_getf 11 11), (25, nw_callV 9 2 sp_X9_buildFrom 3 0 0 1 6), (28, np_ald 1 0), (29, nw_getf 11 11), (32, nw_callV 10 1 sp_X10_clear 1 0 0 1 6), (35, np_ald 1 0), (36, nq_dup), (37, nw_getf 11 13), (40, np_push 1 (.int 1)), (41, np_ib (fun x y => x + y)), (42, nw_putf 11 13 (.int)), (45, np_ald 1 0), (46, nw_getf 11 13), (49, np_push 1 (.int 1)), (50, np_ib (fun x y => x - y)), (51, np_ret Rt)]
set_option maxRecDepth 20000 in
theorem so_X11_upgrade {X : np_Ctx} {Rt : np_Rt} {Th : np_Th} (hX : np_ok RX11 cX11_upgrade 2 6 100 1 6 .ireturn X) (hR : ∀ st w ce sl, Rt st w ce sl → X.2.2.1 st w ce sl) (hT : ∀ i w ce sl, Th i w ce sl → X.2.2.2 i w ce sl) : ∀ q ∈ is_X11_upgrade Rt Th, np_S X q.1 q.2 :=
  List.forall_mem_cons.mpr ⟨np_s_aload_n hX dX11_upgrade_0 rfl, List.forall_mem_cons.mpr ⟨np_S.mono (op := np_callV 11 1 sp_X11_nextUpgrade 1 0 0 1 6) (np_s_callV hX C_X11_nextUpgrade dX11_upgrade_1 (q := (RX11, TX11, 14)) rfl rfl gw1314 gw63 gw1311 gw1313 gw38 ⟨by decide, by decide, by decide⟩ (by decide) (by decide)) nw_callV_le, List.forall_mem_cons.mpr ⟨np_s_astore_n hX dX11_upgrade_4 rfl (by decide), List.forall_mem_cons.mpr ⟨np_s_aload_n hX dX11_upgrade_5 rfl, List.forall_mem_cons.mpr ⟨np_s_ifnonnull hX dX11_upgrade_6 (by decide), List.forall_mem_cons.mpr ⟨np_S.mono (op := np_throw X.2.2.2 2) (np_s_throw hX ⟨116, 383, 120, _, gw610, gw80, sw1315, twX11_120, toX11_120_116, Or.inr ⟨dX11_upgrade_9, dX11_upgrade_12, dX11_upgrade_13, dX11_upgrade_16, dX11_upgrade_19⟩⟩) (nq_throw_le hT), List.forall_mem_cons.mpr ⟨np_s_aload_n hX dX11_upgrade_20 rfl, List.forall_mem_cons.mpr ⟨np_s_aload_n hX dX11_upgrade_21 rfl, List.forall_mem_cons.mpr ⟨np_S.mono (op := np_getf 11 11) (np_s_getf hX dX11_upgrade_22 (C := RX11) (T := TX11) (N := 14) rfl guX11 (by decide) gw452) nw_getf_le, List.forall_mem_cons.mpr ⟨np_S.mono (op := np_callV 9 2 sp_X9_buildFrom 3 0 0 1 6) (np_s_callV hX C_X9_buildFrom dX11_upgrade_25 (q := (RX9, TX9, 7)) rfl rfl gw1319 gw74 gw1316 gw1317 gw1318 ⟨by decide, by decide, by decide⟩ (by decide) (by decide)) nw_callV_le, List.forall_mem_cons.mpr ⟨np_s_aload_n hX dX11_upgrade_28 rfl, List.forall_mem_cons.mpr ⟨np_S.mono (op := np_getf 11 11) (np_s_getf hX dX11_upgrade_29 (C := RX11) (T := TX11) (N := 14) rfl guX11 (by decide) gw452) nw_getf_le, List.forall_mem_cons.mpr ⟨np_S.mono (op := np_callV 10 1 sp_X10_clear 1 0 0 1 6) (np_s_callV hX C_X10_clear dX11_upgrade_32 (q := (RX10, TX10, 3)) rfl rfl gw1333 gw70 gw1330 gw1331 gw1332 ⟨by decide, by decide, by decide⟩ (by decide) (by decide)) nw_callV_le, List.forall_mem_cons.mpr ⟨np_s_aload_n hX dX11_upgrade_35 rfl, List.forall_mem_cons.mpr ⟨np_S.mono (op := np_dup) (np_s_dup hX dX11_upgrade_36) nq_dup_le, List.forall_mem_cons.mpr ⟨np_S.mono (op := np_getf 11 13) (np_s_getf hX dX11_upgrade_37 (C := RX11) (T := TX11) (N := 14) rfl guX11 (by decide) gw454) nw_getf_le, List.forall_mem_cons.mpr ⟨np_s_iconst hX dX11_upgrade_40 (by decide), List.forall_mem_cons.mpr ⟨np_s_iadd hX dX11_upgrade_41, List.forall_mem_cons.mpr ⟨np_S.mono (op := np_putf 11 13 (.int)) (np_s_putf hX dX11_upgrade_42 (C := RX11) (T := TX11) (N := 14) (ty0 := tyX11) rfl guX11 tyX11_ok nmX11 (by decide) gw454 rfl rfl) nw_putf_le, List.forall_mem_cons.mpr ⟨np_s_aload_n hX dX11_upgrade_45 rfl, List.forall_mem_cons.mpr ⟨np_S.mono (op := np_getf 11 13) (np_s_getf hX dX11_upgrade_46 (C := RX11) (T := TX11) (N := 14) rfl guX11 (by decide) gw454) nw_getf_le, List.forall_mem_cons.mpr ⟨np_s_iconst hX dX11_upgrade_49 (by decide), List.forall_mem_cons.mpr ⟨np_s_isub hX dX11_upgrade_50, List.forall_mem_cons.mpr ⟨np_S.mono (op := np_ret X.2.2.1) (np_s_ret hX dX11_upgrade_51) (nq_ret_le hR), fun _ h => nomatch h⟩⟩⟩⟩⟩⟩⟩⟩⟩⟩⟩⟩⟩⟩⟩⟩⟩⟩⟩⟩⟩⟩⟩⟩
noncomputable def m_X11_upgrade (S : pw_S) (i0 : Nat) : pw_R (Int32 ⊕ Nat) :=
 pw_b (m_X11_nextUpgrade S i0) fun S1 r4 =>
 pw_o r4 (
 (some (S1, .inr 2))) (fun j6 =>
 (pw_b (m_X9_buildFrom S1 j6 0) fun S7 r10 =>
 pw_b (m_X10_clear S7 0) fun S12 r15 =>
 pw_l (pw_up S12 61 i0 (upd (S12 61 i0) 13 ((S12 61 i0 13) + 1))) fun S17 =>
 some (S17, .inl ((S17 61 i0 13) - 1))))
def sp_X11_upgrade : np_SpX := fun vs w Q QX => ∃ (q : Nat) (S : pw_S) (i0 : Nat), vs = [.ref (pw_pl 61 i0)] ∧ pw_ok q 61 i0 = true ∧ pw_W q w S ∧ pw_p (m_X11_upgrade S i0) (fun S' rx => ∀ f', pw_W q (w.1, f') S' → match rx with | .inl r => Q (some (.int r)) (w.1, f') | .inr e => QX e (w.1, f'))
set_option maxRecDepth 100000 in
set_option maxHeartbeats 8000000 in
theorem C_X11_upgrade : np_CX yX11_upgrade cX11_upgrade 2 (some .int) 6 100 1 6 sp_X11_upgrade := by
  refine np_ofX (by decide) (by decide) (by decide) ?_
  intro X vs w Q QX hsp hX hmn hRt hTh
  obtain ⟨q, S, i0, rfl, hi0, hW, h⟩ := hsp
  obtain ⟨n, f⟩ := w
  unfold m_X11_upgrade at h
  have hR : ∀ st w ce sl, np_rq (some .int) 1 6 Q st w ce sl → X.2.2.1 st w ce sl := fun _ _ _ _ h => by rw [hRt]; exact h
  have hT : ∀ i w ce sl, np_thq 1 6 QX i w ce sl → X.2.2.2 i w ce sl := fun _ _ _ _ h => by rw [hTh]; exact h
  refine np_soundW (so_X11_upgrade hX hR hT) [] 400 0 _ _ _ _ _ ?_
  conv => whnf
  refine np_rd_i (hW.g hi0) ?_
  conv => whnf
  refine ⟨q, S, i0, rfl, hi0, hW, pw_bd h (fun S1 r4 h f2 hW3 ho5 => ?_)⟩
  rcases r4 with _ | j6
  · replace h := pw_on h
    conv => whnf
    exact ⟨Nat.le_of_ble_eq_true rfl, Nat.le_of_ble_eq_true rfl, pw_ps h _ hW3⟩
  · replace h := pw_os h
    replace ho5 : pw_ok q 57 j6 = true := ho5
    conv => whnf
    refine np_rd_i (hW3.g hi0) ?_
    conv => whnf
    refine np_rd_i (hW3.g ho5) ?_
    conv => whnf
    refine ⟨q, S1, j6, 0, rfl, ho5, rfl, hW3, pw_bd h (fun S7 r10 h f8 hW9 => ?_)⟩
    conv => whnf
    refine np_rd_i (hW9.g hi0) ?_
    conv => whnf
    refine np_rd_i (hW9.g rfl) ?_
    conv => whnf
    refine ⟨q, S7, 0, rfl, rfl, hW9, pw_bd h (fun S12 r15 h f13 hW14 => ?_)⟩
    conv => whnf
    refine np_rd_i (hW14.g hi0) ?_
    conv => whnf
    refine np_rd_i (hW14.g hi0) ?_
    conv => whnf
    refine pw_wr (a := 61) (i := i0) (d := upd (S12 61 i0) 13 ((S12 61 i0 13) + 1)) hW14 hi0 rfl h (fun S17 f18 hW19 h => ?_)
    conv => whnf
    refine np_rd_i (hW19.g hi0) ?_
    conv => whnf
    exact ⟨Nat.le_of_ble_eq_true rfl, Nat.le_of_ble_eq_true rfl, trivial, pw_ps h _ hW19⟩
theorem dX11_upgradeOf_0 : decode cX11_upgradeOf 0 = .ok (.iload_n 1, 1) := by decide +kernel
theorem dX11_upgradeOf_1 : decode cX11_upgradeOf 1 = .ok (.ifCond .lt 29, 3) := by decide +kernel
theorem dX11_upgradeOf_4 : decode cX11_upgradeOf 4 = .ok (.iload_n 1, 1) := by decide +kernel
theorem dX11_upgradeOf_5 : decode cX11_upgradeOf 5 = .ok (.aload_n 0, 1) := by decide +kernel
theorem dX11_upgradeOf_6 : decode cX11_upgradeOf 6 = .ok (.getfield 390, 3) := by decide +kernel
theorem dX11_upgradeOf_9 : decode cX11_upgradeOf 9 = .ok (.if_icmp .ge 21, 3) := by decide +kernel
theorem dX11_upgradeOf_12 : decode cX11_upgradeOf 12 = .ok (.iload_n 1, 1) := by decide +kernel
theorem dX11_upgradeOf_13 : decode cX11_upgradeOf 13 = .ok (.aload_n 0, 1) := by decide +kernel
theorem dX11_upgradeOf_14 : decode cX11_upgradeOf 14 = .ok (.getfield 80, 3) := by decide +kernel
theorem dX11_upgradeOf_17 : decode cX11_upgradeOf 17 = .ok (.arraylength, 1) := by decide +kernel
theorem dX11_upgradeOf_18 : decode cX11_upgradeOf 18 = .ok (.if_icmp .ge 12, 3) := by decide +kernel
theorem dX11_upgradeOf_21 : decode cX11_upgradeOf 21 = .ok (.aload_n 0, 1) := by decide +kernel
theorem dX11_upgradeOf_22 : decode cX11_upgradeOf 22 = .ok (.getfield 80, 3) := by decide +kernel
theorem dX11_upgradeOf_25 : decode cX11_upgradeOf 25 = .ok (.iload_n 1, 1) := by decide +kernel
theorem dX11_upgradeOf_26 : decode cX11_upgradeOf 26 = .ok (.aaload, 1) := by decide +kernel
theorem dX11_upgradeOf_27 : decode cX11_upgradeOf 27 = .ok (.goto 4, 3) := by decide +kernel
theorem dX11_upgradeOf_30 : decode cX11_upgradeOf 30 = .ok (.aconst_null, 1) := by decide +kernel
theorem dX11_upgradeOf_31 : decode cX11_upgradeOf 31 = .ok (.areturn, 1) := by decide +kernel
def is_X11_upgradeOf (Rt : np_Rt) : List (Nat × np_Op) := [(0, np_ild 1 1), (1, nq_if (fun x => x < 0) 30), (4, np_ild 1 1), (5, np_ald 1 0), (6, nw_getf 11 13), (9, nq_ic (fun x y => y ≤ x) 30), (12, np_ild 1 1), (13, np_ald 1 0), (14, nw_getf 11 12), (17, nw_alen), (18, nq_ic (fun x y => y ≤ x) 30), (21, np_ald 1 0), (22, nw_getf 11 12), (25, np_ild 1 1), (26, nw_aald "NotationPress$Upgrade"), (27, np_goto 31), (30, np_push 1 .null), (31, np_ret Rt)]
set_option maxRecDepth 20000 in
theorem so_X11_upgradeOf {X : np_Ctx} {Rt : np_Rt} (hX : np_ok RX11 cX11_upgradeOf 2 0 0 0 0 .areturn X) (hR : ∀ st w ce sl, Rt st w ce sl → X.2.2.1 st w ce sl) : ∀ q ∈ is_X11_upgradeOf Rt, np_S X q.1 q.2 :=
  List.forall_mem_cons.mpr ⟨np_s_iload_n hX dX11_upgradeOf_0 rfl, List.forall_mem_cons.mpr ⟨np_S.mono (op := np_if (fun x => x < 0) 30) (np_s_if_lt hX dX11_upgradeOf_1 (by decide)) nq_if_le, List.forall_mem_cons.mpr ⟨np_s_iload_n hX dX11_upgradeOf_4 rfl, List.forall_mem_cons.mpr ⟨np_s_aload_n hX dX11_upgradeOf_5 rfl, List.forall_mem_cons.mpr ⟨np_S.mono (op := np_getf 11 13) (np_s_getf hX dX11_upgradeOf_6 (C := RX11) (T := TX11) (N := 14) rfl guX11 (by decide) gw454) nw_getf_le, List.forall_mem_cons.mpr ⟨np_S.mono (op := np_ic (fun x y => y ≤ x) 30) (np_s_icmp_ge hX dX11_upgradeOf_9 (by decide)) nq_ic_le, List.forall_mem_cons.mpr ⟨np_s_iload_n hX dX11_upgradeOf_12 rfl, List.forall_mem_cons.mpr ⟨np_s_aload_n hX dX11_upgradeOf_13 rfl, List.forall_mem_cons.mpr ⟨np_S.mono (op := np_getf 11 12) (np_s_getf hX dX11_upgradeOf_14 (C := RX11) (T := TX11) (N := 14) rfl guX11 (by decide) gw453) nw_getf_le, List.forall_mem_cons.mpr ⟨np_S.mono (op := np_alen) (np_s_alen hX dX11_upgradeOf_17) nw_alen_le, List.forall_mem_cons.mpr ⟨np_S.mono (op := np_ic (fun x y => y ≤ x) 30) (np_s_icmp_ge hX dX11_upgradeOf_18 (by decide)) nq_ic_le, List.forall_mem_cons.mpr ⟨np_s_aload_n hX dX11_upgradeOf_21 rfl, List.forall_mem_cons.mpr ⟨np_S.mono (op := np_getf 11 12) (np_s_getf hX dX11_upgradeOf_22 (C := RX11) (T := TX11) (N := 14) rfl guX11 (by decide) gw453) nw_getf_le, List.forall_mem_cons.mpr ⟨np_s_iload_n hX dX11_upgradeOf_25 rfl, List.forall_mem_cons.mpr ⟨np_S.mono (op := np_aald "NotationPress$Upgrade") (np_s_aald hX dX11_upgradeOf_26) nw_aald_le, List.forall_mem_cons.mpr ⟨np_s_goto hX dX11_upgradeOf_27 (by decide), List.forall_mem_cons.mpr ⟨np_s_null hX dX11_upgradeOf_30, List.forall_mem_cons.mpr ⟨np_S.mono (op := np_ret X.2.2.1) (np_s_ret hX dX11_upgradeOf_31) (nq_ret_le hR), fun _ h => nomatch h⟩⟩⟩⟩⟩⟩⟩⟩⟩⟩⟩⟩⟩⟩⟩⟩⟩⟩
noncomputable def m_X11_upgradeOf (S : pw_S) (i0 : Nat) (x1 : Int32) : pw_R (Option Nat) :=
 if x1 < 0 then
 (some (S, none))
 else
 (if (S 61 i0 13) ≤ x1 then
 (some (S, none))
 else
 (if 8 ≤ x1 then
 (some (S, none))
 else
 (pw_c (np_inb x1 8) <|
 some (S, some (pw_dn 8 x1)))))
def sp_X11_upgradeOf : np_Sp := fun vs w Q => ∃ (q : Nat) (S : pw_S) (i0 : Nat) (x1 : Int32), vs = [.ref (pw_pl 61 i0), .int x1] ∧ pw_ok q 61 i0 = true ∧ pw_W q w S ∧ pw_p (m_X11_upgradeOf S i0 x1) (fun S' r => ∀ f', pw_W q (w.1, f') S' → pw_oo q 57 r = true → Q (some (pw_v 57 r)) (w.1, f'))
set_option maxRecDepth 100000 in
set_option maxHeartbeats 8000000 in
theorem C_X11_upgradeOf : np_C yX11_upgradeOf cX11_upgradeOf 2 (some (.object "NotationPress$Upgrade")) 0 0 0 0 sp_X11_upgradeOf := by
  refine np_of (by decide) ?_
  intro X vs w Q hsp hX hmn hRt hlt
  obtain ⟨q, S, i0, x1, rfl, hi0, hW, h⟩ := hsp
  obtain ⟨n, f⟩ := w
  unfold m_X11_upgradeOf at h
  have hR : ∀ st w ce sl, np_rt (some (.object "NotationPress$Upgrade")) 0 0 Q st w ce sl → X.2.2.1 st w ce sl := fun _ _ _ _ h => by rw [hRt]; exact h
  refine np_soundW (so_X11_upgradeOf hX hR) [] 400 0 _ _ _ _ _ ?_
  conv => whnf
  refine pw_br h (fun _ h => ?_) (fun _ h => ?_)
  · conv => whnf
    exact ⟨Nat.le_of_ble_eq_true rfl, Nat.le_of_ble_eq_true rfl, Or.inl rfl, _, fun _ _ h9 => h9, pw_ps h _ hW rfl⟩
  · conv => whnf
    refine np_rd_i (hW.g hi0) ?_
    conv => whnf
    refine pw_br h (fun _ h => ?_) (fun _ h => ?_)
    · conv => whnf
      exact ⟨Nat.le_of_ble_eq_true rfl, Nat.le_of_ble_eq_true rfl, Or.inl rfl, _, fun _ _ h9 => h9, pw_ps h _ hW rfl⟩
    · conv => whnf
      refine np_rd_i (hW.g hi0) ?_
      conv => whnf
      refine np_rd_i (hW.g rfl) ?_
      conv => whnf
      refine pw_br h (fun _ h => ?_) (fun _ h => ?_)
      · conv => whnf
        exact ⟨Nat.le_of_ble_eq_true rfl, Nat.le_of_ble_eq_true rfl, Or.inl rfl, _, fun _ _ h9 => h9, pw_ps h _ hW rfl⟩
      · conv => whnf
        refine np_rd_i (hW.g hi0) ?_
        conv => whnf
        refine np_rd_i (hW.g rfl) ?_
        conv => whnf
        refine ⟨rfl, ?_⟩
        conv => whnf
        refine pw_ck h (fun hb1 h => ?_)
        conv => whnf
        exact ⟨Nat.le_of_ble_eq_true rfl, Nat.le_of_ble_eq_true rfl, Or.inr ⟨_, rfl⟩, _, fun _ _ h9 => h9, pw_ps h _ hW (pw_okd (a := 57) (n := 8) rfl rfl rfl)⟩
theorem dX11_compose_0 : decode cX11_compose 0 = .ok (.aload_n 0, 1) := by decide +kernel
theorem dX11_compose_1 : decode cX11_compose 1 = .ok (.iload_n 1, 1) := by decide +kernel
theorem dX11_compose_2 : decode cX11_compose 2 = .ok (.invokevirtual 393, 3) := by decide +kernel
theorem dX11_compose_5 : decode cX11_compose 5 = .ok (.astore_n 3, 1) := by decide +kernel
theorem dX11_compose_6 : decode cX11_compose 6 = .ok (.aload_n 0, 1) := by decide +kernel
theorem dX11_compose_7 : decode cX11_compose 7 = .ok (.iload_n 2, 1) := by decide +kernel
theorem dX11_compose_8 : decode cX11_compose 8 = .ok (.invokevirtual 393, 3) := by decide +kernel
theorem dX11_compose_11 : decode cX11_compose 11 = .ok (.astore 4, 2) := by decide +kernel
theorem dX11_compose_13 : decode cX11_compose 13 = .ok (.aload_n 3, 1) := by decide +kernel
theorem dX11_compose_14 : decode cX11_compose 14 = .ok (.ifnull 8, 3) := by decide +kernel
theorem dX11_compose_17 : decode cX11_compose 17 = .ok (.aload 4, 2) := by decide +kernel
theorem dX11_compose_19 : decode cX11_compose 19 = .ok (.ifnonnull 14, 3) := by decide +kernel
theorem dX11_compose_22 : decode cX11_compose 22 = .ok (.new 96, 3) := by decide +kernel
theorem dX11_compose_25 : decode cX11_compose 25 = .ok (.dup, 1) := by decide +kernel
theorem dX11_compose_26 : decode cX11_compose 26 = .ok (.ldc_w 397, 3) := by decide +kernel
theorem dX11_compose_29 : decode cX11_compose 29 = .ok (.invokespecial 100, 3) := by decide +kernel
theorem dX11_compose_32 : decode cX11_compose 32 = .ok (.athrow, 1) := by decide +kernel
theorem dX11_compose_33 : decode cX11_compose 33 = .ok (.aload_n 0, 1) := by decide +kernel
theorem dX11_compose_34 : decode cX11_compose 34 = .ok (.invokevirtual 379, 3) := by decide +kernel
theorem dX11_compose_37 : decode cX11_compose 37 = .ok (.astore 5, 2) := by decide +kernel
theorem dX11_compose_39 : decode cX11_compose 39 = .ok (.aload 5, 2) := by decide +kernel
theorem dX11_compose_41 : decode cX11_compose 41 = .ok (.ifnonnull 14, 3) := by decide +kernel
theorem dX11_compose_44 : decode cX11_compose 44 = .ok (.new 116, 3) := by decide +kernel
theorem dX11_compose_47 : decode cX11_compose 47 = .ok (.dup, 1) := by decide +kernel
theorem dX11_compose_48 : decode cX11_compose 48 = .ok (.ldc_w 383, 3) := by decide +kernel
theorem dX11_compose_51 : decode cX11_compose 51 = .ok (.invokespecial 120, 3) := by decide +kernel
theorem dX11_compose_54 : decode cX11_compose 54 = .ok (.athrow, 1) := by decide +kernel
theorem dX11_compose_55 : decode cX11_compose 55 = .ok (.aload 5, 2) := by decide +kernel
theorem dX11_compose_57 : decode cX11_compose 57 = .ok (.aload_n 3, 1) := by decide +kernel
theorem dX11_compose_58 : decode cX11_compose 58 = .ok (.aload 4, 2) := by decide +kernel
theorem dX11_compose_60 : decode cX11_compose 60 = .ok (.invokevirtual 399, 3) := by decide +kernel
theorem dX11_compose_63 : decode cX11_compose 63 = .ok (.ifCond .ne 5, 3) := by decide +kernel
theorem dX11_compose_66 : decode cX11_compose 66 = .ok (.iconst (-1), 1) := by decide +kernel
theorem dX11_compose_67 : decode cX11_compose 67 = .ok (.ireturn, 1) := by decide +kernel
theorem dX11_compose_68 : decode cX11_compose 68 = .ok (.aload_n 0, 1) := by decide +kernel
theorem dX11_compose_69 : decode cX11_compose 69 = .ok (.dup, 1) := by decide +kernel
theorem dX11_compose_70 : decode cX11_compose 70 = .ok (.getfield 390, 3) := by decide +kernel
theorem dX11_compose_73 : decode cX11_compose 73 = .ok (.iconst 1, 1) := by decide +kernel
theorem dX11_compose_74 : decode cX11_compose 74 = .ok (.iadd, 1) := by decide +kernel
theorem dX11_compose_75 : decode cX11_compose 75 = .ok (.putfield 390, 3) := by decide +kernel
theorem dX11_compose_78 : decode cX11_compose 78 = .ok (.aload_n 0, 1) := by decide +kernel
theorem dX11_compose_79 : decode cX11_compose 79 = .ok (.getfield 390, 3) := by decide +kernel
theorem dX11_compose_82 : decode cX11_compose 82 = .ok (.iconst 1, 1) := by decide +kernel
theorem dX11_compose_83 : decode cX11_compose 83 = .ok (.isub, 1) := by decide +kernel
theorem dX11_compose_84 : decode cX11_compose 84 = .ok (.ireturn, 1) := by decide +kernel
def is_X11_compose (Rt : np_Rt) (Th : np_Th) : List (Nat × np_Op) := [(0, np_ald 1 0), (1, np_ild 1 1), (2, nw_callV 11 2 sp_X11_upgradeOf 2 0 0 1 6), (5, np_ast 1 3), (6, np_ald 1 0), (7, np_ild 1 2), (8, nw_callV 11 2 sp_X11_upgradeOf 2 0 0 1 6), (11, np_ast 2 4), (13, np_ald 1 3), (14, np_ifnull 22), (17, np_ald 2 4), (19, np_ifnonnull 33), (22, nq_throw Th 0), (33, np_ald 1 0), (34, nw_callV 11 1 sp_X11_nextUpgrade 1 0 0 1 6), (37, np_ast 2 5), (39, np_ald 2 5), (41, np_ifnonnull 55), (44, nq_throw Th 2), (55, np_ald 2 5), (57, np_ald 1 3), (58, np_ald 2 4), (60, nw_callV 9 3 sp_X9_buildComposed 4 0 0 1 6), (63, nq_ifne 68), (66, np_push 1 (.int (-1))), (67, np_ret Rt), (68, np_ald 1 0), (69, nq_dup), (70, nw_getf 11 13), (73, np_push 1 (.int 1)), (74, np_ib (fun x y => x + y)), (75, nw_putf 11 13 (.int)), (78, np_ald 1 0), (79, nw_getf 11 13), (82, np_push 1 (.int 1)), (83, np_ib (fun x y => x - y)), (84, np_ret Rt)]
set_option maxRecDepth 20000 in
theorem so_X11_compose {X : np_Ctx} {Rt : np_Rt} {Th : np_Th} (hX : np_ok RX11 cX11_compose 6 6 134 1 6 .ireturn X) (hR : ∀ st w ce sl, Rt st w ce sl → X.2.2.1 st w ce sl) (hT : ∀ i w ce sl, Th i w ce sl → X.2.2.2 i w ce sl) : ∀ q ∈ is_X11_compose Rt Th, np_S X q.1 q.2 :=
  List.forall_mem_cons.mpr ⟨np_s_aload_n hX dX11_compose_0 rfl, List.forall_mem_cons.mpr ⟨np_s_iload_n hX dX11_compose_1 rfl, List.forall_mem_cons.mpr ⟨np_S.mono (op := np_callV 11 2 sp_X11_upgradeOf 2 0 0 1 6) (np_s_callV hX C_X11_upgradeOf dX11_compose_2 (q := (RX11, TX11, 14)) rfl rfl gw1341 gw63 gw1338 gw1340 gw41 ⟨by decide, by decide, by decide⟩ (by decide) (by decide)) nw_callV_le, List.forall_mem_cons.mpr ⟨np_s_astore_n hX dX11_compose_5 rfl (by decide), List.forall_mem_cons.mpr ⟨np_s_aload_n hX dX11_compose_6 rfl, List.forall_mem_cons.mpr ⟨np_s_iload_n hX dX11_compose_7 rfl, List.forall_mem_cons.mpr ⟨np_S.mono (op := np_callV 11 2 sp_X11_upgradeOf 2 0 0 1 6) (np_s_callV hX C_X11_upgradeOf dX11_compose_8 (q := (RX11, TX11, 14)) rfl rfl gw1341 gw63 gw1338 gw1340 gw41 ⟨by decide, by decide, by decide⟩ (by decide) (by decide)) nw_callV_le, List.forall_mem_cons.mpr ⟨np_s_astore hX dX11_compose_11 (by decide), List.forall_mem_cons.mpr ⟨np_s_aload_n hX dX11_compose_13 rfl, List.forall_mem_cons.mpr ⟨np_s_ifnull hX dX11_compose_14 (by decide), List.forall_mem_cons.mpr ⟨np_s_aload hX dX11_compose_17, List.forall_mem_cons.mpr ⟨np_s_ifnonnull hX dX11_compose_19 (by decide), List.forall_mem_cons.mpr ⟨np_S.mono (op := np_throw X.2.2.2 0) (np_s_throw hX ⟨96, 397, 100, _, gw516, gw78, sw1342, twX11_100, toX11_100_96, Or.inr ⟨dX11_compose_22, dX11_compose_25, dX11_compose_26, dX11_compose_29, dX11_compose_32⟩⟩) (nq_throw_le hT), List.forall_mem_cons.mpr ⟨np_s_aload_n hX dX11_compose_33 rfl, List.forall_mem_cons.mpr ⟨np_S.mono (op := np_callV 11 1 sp_X11_nextUpgrade 1 0 0 1 6) (np_s_callV hX C_X11_nextUpgrade dX11_compose_34 (q := (RX11, TX11, 14)) rfl rfl gw1314 gw63 gw1311 gw1313 gw38 ⟨by decide, by decide, by decide⟩ (by decide) (by decide)) nw_callV_le, List.forall_mem_cons.mpr ⟨np_s_astore hX dX11_compose_37 (by decide), List.forall_mem_cons.mpr ⟨np_s_aload hX dX11_compose_39, List.forall_mem_cons.mpr ⟨np_s_ifnonnull hX dX11_compose_41 (by decide), List.forall_mem_cons.mpr ⟨np_S.mono (op := np_throw X.2.2.2 2) (np_s_throw hX ⟨116, 383, 120, _, gw610, gw80, sw1315, twX11_120, toX11_120_116, Or.inr ⟨dX11_compose_44, dX11_compose_47, dX11_compose_48, dX11_compose_51, dX11_compose_54⟩⟩) (nq_throw_le hT), List.forall_mem_cons.mpr ⟨np_s_aload hX dX11_compose_55, List.forall_mem_cons.mpr ⟨np_s_aload_n hX dX11_compose_57 rfl, List.forall_mem_cons.mpr ⟨np_s_aload hX dX11_compose_58, List.forall_mem_cons.mpr ⟨np_S.mono (op := np_callV 9 3 sp_X9_buildComposed 4 0 0 1 6) (np_s_callV hX C_X9_buildComposed dX11_compose_60 (q := (RX9, TX9, 7)) rfl rfl gw1355 gw74 gw1352 gw1353 gw1354 ⟨by decide, by decide, by decide⟩ (by decide) (by decide)) nw_callV_le, List.forall_mem_cons.mpr ⟨np_S.mono (op := np_ifne 68) (np_s_if_ne hX dX11_compose_63 (by decide)) nq_ifne_le, List.forall_mem_cons.mpr ⟨np_s_iconst hX dX11_compose_66 (by decide), List.forall_mem_cons.mpr ⟨np_S.mono (op := np_ret X.2.2.1) (np_s_ret hX dX11_compose_67) (nq_ret_le hR), List.forall_mem_cons.mpr ⟨np_s_aload_n hX dX11_compose_68 rfl, List.forall_mem_cons.mpr ⟨np_S.mono (op := np_dup) (np_s_dup hX dX11_compose_69) nq_dup_le, List.forall_mem_cons.mpr ⟨np_S.mono (op := np_getf 11 13) (np_s_getf hX dX11_compose_70 (C := RX11) (T := TX11) (N := 14) rfl guX11 (by decide) gw454) nw_getf_le, List.forall_mem_cons.mpr ⟨np_s_iconst hX dX11_compose_73 (by decide), List.forall_mem_cons.mpr ⟨np_s_iadd hX dX11_compose_74, List.forall_mem_cons.mpr ⟨np_S.mono (op := np_putf 11 13 (.int)) (np_s_putf hX dX11_compose_75 (C := RX11) (T := TX11) (N := 14) (ty0 := tyX11) rfl guX11 tyX11_ok nmX11 (by decide) gw454 rfl rfl) nw_putf_le, List.forall_mem_cons.mpr ⟨np_s_aload_n hX dX11_compose_78 rfl, List.forall_mem_cons.mpr ⟨np_S.mono (op := np_getf 11 13) (np_s_getf hX dX11_compose_79 (C := RX11) (T := TX11) (N := 14) rfl guX11 (by decide) gw454) nw_getf_le, List.forall_mem_cons.mpr ⟨np_s_iconst hX dX11_compose_82 (by decide), List.forall_mem_cons.mpr ⟨np_s_isub hX dX11_compose_83, List.forall_mem_cons.mpr ⟨np_S.mono (op := np_ret X.2.2.1) (np_s_ret hX dX11_compose_84) (nq_ret_le hR), fun _ h => nomatch h⟩⟩⟩⟩⟩⟩⟩⟩⟩⟩⟩⟩⟩⟩⟩⟩⟩⟩⟩⟩⟩⟩⟩⟩⟩⟩⟩⟩⟩⟩⟩⟩⟩⟩⟩⟩⟩
noncomputable def m_X11_compose (S : pw_S) (i0 : Nat) (x1 : Int32) (x2 : Int32) : pw_R (Int32 ⊕ Nat) :=
 pw_b (m_X11_upgradeOf S i0 x1) fun S1 r4 =>
 pw_o r4 (
 (pw_b (m_X11_upgradeOf S1 i0 x2) fun S7 r10 =>
 pw_o r10 (
 (some (S7, .inr 0))) (fun j12 =>
 (some (S7, .inr 0))))) (fun j6 =>
 (pw_b (m_X11_upgradeOf S1 i0 x2) fun S13 r16 =>
 pw_o r16 (
 (some (S13, .inr 0))) (fun j18 =>
 (pw_b (m_X11_nextUpgrade S13 i0) fun S19 r22 =>
 pw_o r22 (
 (some (S19, .inr 2))) (fun j24 =>
 (pw_b (m_X9_buildComposed S19 j24 j6 j18) fun S25 r28 =>
 if r28 = 0 then
 (some (S25, .inl (-1)))
 else
 (pw_l (pw_up S25 61 i0 (upd (S25 61 i0) 13 ((S25 61 i0 13) + 1))) fun S30 =>
 some (S30, .inl ((S30 61 i0 13) - 1)))))))))
def sp_X11_compose : np_SpX := fun vs w Q QX => ∃ (q : Nat) (S : pw_S) (i0 : Nat) (x1 : Int32) (x2 : Int32), vs = [.ref (pw_pl 61 i0), .int x1, .int x2] ∧ pw_ok q 61 i0 = true ∧ pw_W q w S ∧ pw_p (m_X11_compose S i0 x1 x2) (fun S' rx => ∀ f', pw_W q (w.1, f') S' → match rx with | .inl r => Q (some (.int r)) (w.1, f') | .inr e => QX e (w.1, f'))
set_option maxRecDepth 100000 in
set_option maxHeartbeats 8000000 in
theorem C_X11_compose : np_CX yX11_compose cX11_compose 6 (some .int) 6 134 1 6 sp_X11_compose := by
  refine np_ofX (by decide) (by decide) (by decide) ?_
  intro X vs w Q QX hsp hX hmn hRt hTh
  obtain ⟨q, S, i0, x1, x2, rfl, hi0, hW, h⟩ := hsp
  obtain ⟨n, f⟩ := w
  unfold m_X11_compose at h
  have hR : ∀ st w ce sl, np_rq (some .int) 1 6 Q st w ce sl → X.2.2.1 st w ce sl := fun _ _ _ _ h => by rw [hRt]; exact h
  have hT : ∀ i w ce sl, np_thq 1 6 QX i w ce sl → X.2.2.2 i w ce sl := fun _ _ _ _ h => by rw [hTh]; exact h
  refine np_soundW (so_X11_compose hX hR hT) [] 400 0 _ _ _ _ _ ?_
  conv => whnf
  refine np_rd_i (hW.g hi0) ?_
  conv => whnf
  refine ⟨q, S, i0, x1, rfl, hi0, hW, pw_bd h (fun S1 r4 h f2 hW3 ho5 => ?_)⟩
  rcases r4 with _ | j6
  · replace h := pw_on h
    conv => whnf
    refine np_rd_i (hW3.g hi0) ?_
    conv => whnf
    refine ⟨q, S1, i0, x2, rfl, hi0, hW3, pw_bd h (fun S7 r10 h f8 hW9 ho11 => ?_)⟩
    rcases r10 with _ | j12
    · replace h := pw_on h
      conv => whnf
      exact ⟨Nat.le_of_ble_eq_true rfl, Nat.le_of_ble_eq_true rfl, pw_ps h _ hW9⟩
    · replace h := pw_os h
      replace ho11 : pw_ok q 57 j12 = true := ho11
      conv => whnf
      exact ⟨Nat.le_of_ble_eq_true rfl, Nat.le_of_ble_eq_true rfl, pw_ps h _ hW9⟩
  · replace h := pw_os h
    replace ho5 : pw_ok q 57 j6 = true := ho5
    conv => whnf
    refine np_rd_i (hW3.g hi0) ?_
    conv => whnf
    refine ⟨q, S1, i0, x2, rfl, hi0, hW3, pw_bd h (fun S13 r16 h f14 hW15 ho17 => ?_)⟩
    rcases r16 with _ | j18
    · replace h := pw_on h
      conv => whnf
      exact ⟨Nat.le_of_ble_eq_true rfl, Nat.le_of_ble_eq_true rfl, pw_ps h _ hW15⟩
    · replace h := pw_os h
      replace ho17 : pw_ok q 57 j18 = true := ho17
      conv => whnf
      refine np_rd_i (hW15.g hi0) ?_
      conv => whnf
      refine ⟨q, S13, i0, rfl, hi0, hW15, pw_bd h (fun S19 r22 h f20 hW21 ho23 => ?_)⟩
      rcases r22 with _ | j24
      · replace h := pw_on h
        conv => whnf
        exact ⟨Nat.le_of_ble_eq_true rfl, Nat.le_of_ble_eq_true rfl, pw_ps h _ hW21⟩
      · replace h := pw_os h
        replace ho23 : pw_ok q 57 j24 = true := ho23
        conv => whnf
        refine np_rd_i (hW21.g ho23) ?_
        conv => whnf
        refine ⟨q, S19, j24, j6, j18, rfl, ho23, ho5, ho17, hW21, pw_bd h (fun S25 r28 h f26 hW27 => ?_)⟩
        conv => whnf
        refine pw_br h (fun _ h => ?_) (fun _ h => ?_)
        · conv => whnf
          exact ⟨Nat.le_of_ble_eq_true rfl, Nat.le_of_ble_eq_true rfl, trivial, pw_ps h _ hW27⟩
        · conv => whnf
          refine np_rd_i (hW27.g hi0) ?_
          conv => whnf
          refine np_rd_i (hW27.g hi0) ?_
          conv => whnf
          refine pw_wr (a := 61) (i := i0) (d := upd (S25 61 i0) 13 ((S25 61 i0 13) + 1)) hW27 hi0 rfl h (fun S30 f31 hW32 h => ?_)
          conv => whnf
          refine np_rd_i (hW32.g hi0) ?_
          conv => whnf
          exact ⟨Nat.le_of_ble_eq_true rfl, Nat.le_of_ble_eq_true rfl, trivial, pw_ps h _ hW32⟩
theorem dX11_reverse_0 : decode cX11_reverse 0 = .ok (.aload_n 0, 1) := by decide +kernel
theorem dX11_reverse_1 : decode cX11_reverse 1 = .ok (.iload_n 1, 1) := by decide +kernel
theorem dX11_reverse_2 : decode cX11_reverse 2 = .ok (.invokevirtual 393, 3) := by decide +kernel
theorem dX11_reverse_5 : decode cX11_reverse 5 = .ok (.astore_n 2, 1) := by decide +kernel
theorem dX11_reverse_6 : decode cX11_reverse 6 = .ok (.aload_n 2, 1) := by decide +kernel
theorem dX11_reverse_7 : decode cX11_reverse 7 = .ok (.ifnonnull 14, 3) := by decide +kernel
theorem dX11_reverse_10 : decode cX11_reverse 10 = .ok (.new 96, 3) := by decide +kernel
theorem dX11_reverse_13 : decode cX11_reverse 13 = .ok (.dup, 1) := by decide +kernel
theorem dX11_reverse_14 : decode cX11_reverse 14 = .ok (.ldc_w 397, 3) := by decide +kernel
theorem dX11_reverse_17 : decode cX11_reverse 17 = .ok (.invokespecial 100, 3) := by decide +kernel
theorem dX11_reverse_20 : decode cX11_reverse 20 = .ok (.athrow, 1) := by decide +kernel
theorem dX11_reverse_21 : decode cX11_reverse 21 = .ok (.aload_n 0, 1) := by decide +kernel
theorem dX11_reverse_22 : decode cX11_reverse 22 = .ok (.invokevirtual 379, 3) := by decide +kernel
theorem dX11_reverse_25 : decode cX11_reverse 25 = .ok (.astore_n 3, 1) := by decide +kernel
theorem dX11_reverse_26 : decode cX11_reverse 26 = .ok (.aload_n 3, 1) := by decide +kernel
theorem dX11_reverse_27 : decode cX11_reverse 27 = .ok (.ifnonnull 14, 3) := by decide +kernel
theorem dX11_reverse_30 : decode cX11_reverse 30 = .ok (.new 116, 3) := by decide +kernel
theorem dX11_reverse_33 : decode cX11_reverse 33 = .ok (.dup, 1) := by decide +kernel
theorem dX11_reverse_34 : decode cX11_reverse 34 = .ok (.ldc_w 383, 3) := by decide +kernel
theorem dX11_reverse_37 : decode cX11_reverse 37 = .ok (.invokespecial 120, 3) := by decide +kernel
theorem dX11_reverse_40 : decode cX11_reverse 40 = .ok (.athrow, 1) := by decide +kernel
theorem dX11_reverse_41 : decode cX11_reverse 41 = .ok (.aload_n 3, 1) := by decide +kernel
theorem dX11_reverse_42 : decode cX11_reverse 42 = .ok (.aload_n 2, 1) := by decide +kernel
theorem dX11_reverse_43 : decode cX11_reverse 43 = .ok (.invokevirtual 403, 3) := by decide +kernel
theorem dX11_reverse_46 : decode cX11_reverse 46 = .ok (.ifCond .ne 5, 3) := by decide +kernel
theorem dX11_reverse_49 : decode cX11_reverse 49 = .ok (.iconst (-1), 1) := by decide +kernel
theorem dX11_reverse_50 : decode cX11_reverse 50 = .ok (.ireturn, 1) := by decide +kernel
theorem dX11_reverse_51 : decode cX11_reverse 51 = .ok (.aload_n 0, 1) := by decide +kernel
theorem dX11_reverse_52 : decode cX11_reverse 52 = .ok (.dup, 1) := by decide +kernel
theorem dX11_reverse_53 : decode cX11_reverse 53 = .ok (.getfield 390, 3) := by decide +kernel
theorem dX11_reverse_56 : decode cX11_reverse 56 = .ok (.iconst 1, 1) := by decide +kernel
theorem dX11_reverse_57 : decode cX11_reverse 57 = .ok (.iadd, 1) := by decide +kernel
theorem dX11_reverse_58 : decode cX11_reverse 58 = .ok (.putfield 390, 3) := by decide +kernel
theorem dX11_reverse_61 : decode cX11_reverse 61 = .ok (.aload_n 0, 1) := by decide +kernel
theorem dX11_reverse_62 : decode cX11_reverse 62 = .ok (.getfield 390, 3) := by decide +kernel
theorem dX11_reverse_65 : decode cX11_reverse 65 = .ok (.iconst 1, 1) := by decide +kernel
theorem dX11_reverse_66 : decode cX11_reverse 66 = .ok (.isub, 1) := by decide +kernel
theorem dX11_reverse_67 : decode cX11_reverse 67 = .ok (.ireturn, 1) := by decide +kernel
def is_X11_reverse (Rt : np_Rt) (Th : np_Th) : List (Nat × np_Op) := [(0, np_ald 1 0), (1, np_ild 1 1), (2, nw_callV 11 2 sp_X11_upgradeOf 2 0 0 1 6), (5, np_ast 1 2), (6, np_ald 1 2), (7, np_ifnonnull 21), (10, nq_throw Th 0), (21, np_ald 1 0), (22, nw_callV 11 1 sp_X11_nextUpgrade 1 0 0 1 6), (25, np_ast 1 3), (26, np_ald 1 3), (27, np_ifnonnull 41), (30, nq_throw Th 2), (41, np_ald 1 3), (42, np_ald 1 2), (43, nw_callV 9 2 sp_X9_buildReversed 3 0 0 1 6), (46, nq_ifne 51), (49, np_push 1 (.int (-1))), (50, np_ret Rt), (51, np_ald 1 0), (52, nq_dup), (53, nw_getf 11 13), (56, np_push 1 (.int 1)), (57, np_ib (fun x y => x + y)), (58, nw_putf 11 13 (.int)), (61, np_ald 1 0), (62, nw_getf 11 13), (65, np_push 1 (.int 1)), (66, np_ib (fun x y => x - y)), (67, np_ret Rt)]
set_option maxRecDepth 20000 in
theorem so_X11_reverse {X : np_Ctx} {Rt : np_Rt} {Th : np_Th} (hX : np_ok RX11 cX11_reverse 4 6 138 1 6 .ireturn X) (hR : ∀ st w ce sl, Rt st w ce sl → X.2.2.1 st w ce sl) (hT : ∀ i w ce sl, Th i w ce sl → X.2.2.2 i w ce sl) : ∀ q ∈ is_X11_reverse Rt Th, np_S X q.1 q.2 :=
  List.forall_mem_cons.mpr ⟨np_s_aload_n hX dX11_reverse_0 rfl, List.forall_mem_cons.mpr ⟨np_s_iload_n hX dX11_reverse_1 rfl, List.forall_mem_cons.mpr ⟨np_S.mono (op := np_callV 11 2 sp_X11_upgradeOf 2 0 0 1 6) (np_s_callV hX C_X11_upgradeOf dX11_reverse_2 (q := (RX11, TX11, 14)) rfl rfl gw1341 gw63 gw1338 gw1340 gw41 ⟨by decide, by decide, by decide⟩ (by decide) (by decide)) nw_callV_le, List.forall_mem_cons.mpr ⟨np_s_astore_n hX dX11_reverse_5 rfl (by decide), List.forall_mem_cons.mpr ⟨np_s_aload_n hX dX11_reverse_6 rfl, List.forall_mem_cons.mpr ⟨np_s_ifnonnull hX dX11_reverse_7 (by decide), List.forall_mem_cons.mpr ⟨np_S.mono (op := np_throw X.2.2.2 0) (np_s_throw hX ⟨96, 397, 100, _, gw516, gw78, sw1342, twX11_100, toX11_100_96, Or.inr ⟨dX11_reverse_10, dX11_reverse_13, dX11_reverse_14, dX11_reverse_17, dX11_reverse_20⟩⟩) (nq_throw_le hT), List.forall_mem_cons.mpr ⟨np_s_aload_n hX dX11_reverse_21 rfl, List.forall_mem_cons.mpr ⟨np_S.mono (op := np_callV 11 1 sp_X11_nextUpgrade 1 0 0 1 6) (np_s_callV hX C_X11_nextUpgrade dX11_reverse_22 (q := (RX11, TX11, 14)) rfl rfl gw1314 gw63 gw1311 gw1313 gw38 ⟨by decide, by decide, by decide⟩ (by decide) (by decide)) nw_callV_le, List.forall_mem_cons.mpr ⟨np_s_astore_n hX dX11_reverse_25 rfl (by decide), List.forall_mem_cons.mpr ⟨np_s_aload_n hX dX11_reverse_26 rfl, List.forall_mem_cons.mpr ⟨np_s_ifnonnull hX dX11_reverse_27 (by decide), List.forall_mem_cons.mpr ⟨np_S.mono (op := np_throw X.2.2.2 2) (np_s_throw hX ⟨116, 383, 120, _, gw610, gw80, sw1315, twX11_120, toX11_120_116, Or.inr ⟨dX11_reverse_30, dX11_reverse_33, dX11_reverse_34, dX11_reverse_37, dX11_reverse_40⟩⟩) (nq_throw_le hT), List.forall_mem_cons.mpr ⟨np_s_aload_n hX dX11_reverse_41 rfl, List.forall_mem_cons.mpr ⟨np_s_aload_n hX dX11_reverse_42 rfl, List.forall_mem_cons.mpr ⟨np_S.mono (op := np_callV 9 2 sp_X9_buildReversed 3 0 0 1 6) (np_s_callV hX C_X9_buildReversed dX11_reverse_43 (q := (RX9, TX9, 7)) rfl rfl gw1430 gw74 gw1427 gw1428 gw1429 ⟨by decide, by decide, by decide⟩ (by decide) (by decide)) nw_callV_le, List.forall_mem_cons.mpr ⟨np_S.mono (op := np_ifne 51) (np_s_if_ne hX dX11_reverse_46 (by decide)) nq_ifne_le, List.forall_mem_cons.mpr ⟨np_s_iconst hX dX11_reverse_49 (by decide), List.forall_mem_cons.mpr ⟨np_S.mono (op := np_ret X.2.2.1) (np_s_ret hX dX11_reverse_50) (nq_ret_le hR), List.forall_mem_cons.mpr ⟨np_s_aload_n hX dX11_reverse_51 rfl, List.forall_mem_cons.mpr ⟨np_S.mono (op := np_dup) (np_s_dup hX dX11_reverse_52) nq_dup_le, List.forall_mem_cons.mpr ⟨np_S.mono (op := np_getf 11 13) (np_s_getf hX dX11_reverse_53 (C := RX11) (T := TX11) (N := 14) rfl guX11 (by decide) gw454) nw_getf_le, List.forall_mem_cons.mpr ⟨np_s_iconst hX dX11_reverse_56 (by decide), List.forall_mem_cons.mpr ⟨np_s_iadd hX dX11_reverse_57, List.forall_mem_cons.mpr ⟨np_S.mono (op := np_putf 11 13 (.int)) (np_s_putf hX dX11_reverse_58 (C := RX11) (T := TX11) (N := 14) (ty0 := tyX11) rfl guX11 tyX11_ok nmX11 (by decide) gw454 rfl rfl) nw_putf_le, List.forall_mem_cons.mpr ⟨np_s_aload_n hX dX11_reverse_61 rfl, List.forall_mem_cons.mpr ⟨np_S.mono (op := np_getf 11 13) (np_s_getf hX dX11_reverse_62 (C := RX11) (T := TX11) (N := 14) rfl guX11 (by decide) gw454) nw_getf_le, List.forall_mem_cons.mpr ⟨np_s_iconst hX dX11_reverse_65 (by decide), List.forall_mem_cons.mpr ⟨np_s_isub hX dX11_reverse_66, List.forall_mem_cons.mpr ⟨np_S.mono (op := np_ret X.2.2.1) (np_s_ret hX dX11_reverse_67) (nq_ret_le hR), fun _ h => nomatch h⟩⟩⟩⟩⟩⟩⟩⟩⟩⟩⟩⟩⟩⟩⟩⟩⟩⟩⟩⟩⟩⟩⟩⟩⟩⟩⟩⟩⟩⟩
noncomputable def m_X11_reverse (S : pw_S) (i0 : Nat) (x1 : Int32) : pw_R (Int32 ⊕ Nat) :=
 pw_b (m_X11_upgradeOf S i0 x1) fun S1 r4 =>
 pw_o r4 (
 (some (S1, .inr 0))) (fun j6 =>
 (pw_b (m_X11_nextUpgrade S1 i0) fun S7 r10 =>
 pw_o r10 (
 (some (S7, .inr 2))) (fun j12 =>
 (pw_b (m_X9_buildReversed S7 j12 j6) fun S13 r16 =>
 if r16 = 0 then
 (some (S13, .inl (-1)))
 else
 (pw_l (pw_up S13 61 i0 (upd (S13 61 i0) 13 ((S13 61 i0 13) + 1))) fun S18 =>
 some (S18, .inl ((S18 61 i0 13) - 1)))))))
def sp_X11_reverse : np_SpX := fun vs w Q QX => ∃ (q : Nat) (S : pw_S) (i0 : Nat) (x1 : Int32), vs = [.ref (pw_pl 61 i0), .int x1] ∧ pw_ok q 61 i0 = true ∧ pw_W q w S ∧ pw_p (m_X11_reverse S i0 x1) (fun S' rx => ∀ f', pw_W q (w.1, f') S' → match rx with | .inl r => Q (some (.int r)) (w.1, f') | .inr e => QX e (w.1, f'))
set_option maxRecDepth 100000 in
set_option maxHeartbeats 8000000 in
theorem C_X11_reverse : np_CX yX11_reverse cX11_reverse 4 (some .int) 6 138 1 6 sp_X11_reverse := by
  refine np_ofX (by decide) (by decide) (by decide) ?_
  intro X vs w Q QX hsp hX hmn hRt hTh
  obtain ⟨q, S, i0, x1, rfl, hi0, hW, h⟩ := hsp
  obtain ⟨n, f⟩ := w
  unfold m_X11_reverse at h
  have hR : ∀ st w ce sl, np_rq (some .int) 1 6 Q st w ce sl → X.2.2.1 st w ce sl := fun _ _ _ _ h => by rw [hRt]; exact h
  have hT : ∀ i w ce sl, np_thq 1 6 QX i w ce sl → X.2.2.2 i w ce sl := fun _ _ _ _ h => by rw [hTh]; exact h
  refine np_soundW (so_X11_reverse hX hR hT) [] 400 0 _ _ _ _ _ ?_
  conv => whnf
  refine np_rd_i (hW.g hi0) ?_
  conv => whnf
  refine ⟨q, S, i0, x1, rfl, hi0, hW, pw_bd h (fun S1 r4 h f2 hW3 ho5 => ?_)⟩
  rcases r4 with _ | j6
  · replace h := pw_on h
    conv => whnf
    exact ⟨Nat.le_of_ble_eq_true rfl, Nat.le_of_ble_eq_true rfl, pw_ps h _ hW3⟩
  · replace h := pw_os h
    replace ho5 : pw_ok q 57 j6 = true := ho5
    conv => whnf
    refine np_rd_i (hW3.g hi0) ?_
    conv => whnf
    refine ⟨q, S1, i0, rfl, hi0, hW3, pw_bd h (fun S7 r10 h f8 hW9 ho11 => ?_)⟩
    rcases r10 with _ | j12
    · replace h := pw_on h
      conv => whnf
      exact ⟨Nat.le_of_ble_eq_true rfl, Nat.le_of_ble_eq_true rfl, pw_ps h _ hW9⟩
    · replace h := pw_os h
      replace ho11 : pw_ok q 57 j12 = true := ho11
      conv => whnf
      refine np_rd_i (hW9.g ho11) ?_
      conv => whnf
      refine ⟨q, S7, j12, j6, rfl, ho11, ho5, hW9, pw_bd h (fun S13 r16 h f14 hW15 => ?_)⟩
      conv => whnf
      refine pw_br h (fun _ h => ?_) (fun _ h => ?_)
      · conv => whnf
        exact ⟨Nat.le_of_ble_eq_true rfl, Nat.le_of_ble_eq_true rfl, trivial, pw_ps h _ hW15⟩
      · conv => whnf
        refine np_rd_i (hW15.g hi0) ?_
        conv => whnf
        refine np_rd_i (hW15.g hi0) ?_
        conv => whnf
        refine pw_wr (a := 61) (i := i0) (d := upd (S13 61 i0) 13 ((S13 61 i0 13) + 1)) hW15 hi0 rfl h (fun S18 f19 hW20 h => ?_)
        conv => whnf
        refine np_rd_i (hW20.g hi0) ?_
        conv => whnf
        exact ⟨Nat.le_of_ble_eq_true rfl, Nat.le_of_ble_eq_true rfl, trivial, pw_ps h _ hW20⟩
theorem dX11_upgraded_0 : decode cX11_upgraded 0 = .ok (.aload_n 0, 1) := by decide +kernel
theorem dX11_upgraded_1 : decode cX11_upgraded 1 = .ok (.iload_n 1, 1) := by decide +kernel
theorem dX11_upgraded_2 : decode cX11_upgraded 2 = .ok (.invokevirtual 393, 3) := by decide +kernel
theorem dX11_upgraded_5 : decode cX11_upgraded 5 = .ok (.astore_n 3, 1) := by decide +kernel
theorem dX11_upgraded_6 : decode cX11_upgraded 6 = .ok (.aload_n 3, 1) := by decide +kernel
theorem dX11_upgraded_7 : decode cX11_upgraded 7 = .ok (.ifnull 10, 3) := by decide +kernel
theorem dX11_upgraded_10 : decode cX11_upgraded 10 = .ok (.iload_n 2, 1) := by decide +kernel
theorem dX11_upgraded_11 : decode cX11_upgraded 11 = .ok (.invokestatic 93, 3) := by decide +kernel
theorem dX11_upgraded_14 : decode cX11_upgraded 14 = .ok (.ifCond .ne 14, 3) := by decide +kernel
theorem dX11_upgraded_17 : decode cX11_upgraded 17 = .ok (.new 96, 3) := by decide +kernel
theorem dX11_upgraded_20 : decode cX11_upgraded 20 = .ok (.dup, 1) := by decide +kernel
theorem dX11_upgraded_21 : decode cX11_upgraded 21 = .ok (.ldc_w 407, 3) := by decide +kernel
theorem dX11_upgraded_24 : decode cX11_upgraded 24 = .ok (.invokespecial 100, 3) := by decide +kernel
theorem dX11_upgraded_27 : decode cX11_upgraded 27 = .ok (.athrow, 1) := by decide +kernel
theorem dX11_upgraded_28 : decode cX11_upgraded 28 = .ok (.aload_n 3, 1) := by decide +kernel
theorem dX11_upgraded_29 : decode cX11_upgraded 29 = .ok (.iload_n 2, 1) := by decide +kernel
theorem dX11_upgraded_30 : decode cX11_upgraded 30 = .ok (.aload_n 0, 1) := by decide +kernel
theorem dX11_upgraded_31 : decode cX11_upgraded 31 = .ok (.getfield 28, 3) := by decide +kernel
theorem dX11_upgraded_34 : decode cX11_upgraded 34 = .ok (.invokevirtual 409, 3) := by decide +kernel
theorem dX11_upgraded_37 : decode cX11_upgraded 37 = .ok (.ireturn, 1) := by decide +kernel
def is_X11_upgraded (Rt : np_Rt) (Th : np_Th) : List (Nat × np_Op) := [(0, np_ald 1 0), (1, np_ild 1 1), (2, nw_callV 11 2 sp_X11_upgradeOf 2 0 0 1 6), (5, np_ast 1 3), (6, np_ald 1 3), (7, np_ifnull 17), (10, np_ild 1 2), (11, nq_call 1 sp_X11_isSlot 1 0 0 1 6), (14, nq_ifne 28), (17, nq_throw Th 0), (28, np_ald 1 3), (29, np_ild 1 2), (30, np_ald 1 0), (31, nw_getf 11 3), (34, nw_callV 9 3 sp_X9_valueFor 8 0 0 1 6), (37, np_ret Rt)]
set_option maxRecDepth 20000 in
theorem so_X11_upgraded {X : np_Ctx} {Rt : np_Rt} {Th : np_Th} (hX : np_ok RX11 cX11_upgraded 4 6 109 1 6 .ireturn X) (hR : ∀ st w ce sl, Rt st w ce sl → X.2.2.1 st w ce sl) (hT : ∀ i w ce sl, Th i w ce sl → X.2.2.2 i w ce sl) : ∀ q ∈ is_X11_upgraded Rt Th, np_S X q.1 q.2 :=
  List.forall_mem_cons.mpr ⟨np_s_aload_n hX dX11_upgraded_0 rfl, List.forall_mem_cons.mpr ⟨np_s_iload_n hX dX11_upgraded_1 rfl, List.forall_mem_cons.mpr ⟨np_S.mono (op := np_callV 11 2 sp_X11_upgradeOf 2 0 0 1 6) (np_s_callV hX C_X11_upgradeOf dX11_upgraded_2 (q := (RX11, TX11, 14)) rfl rfl gw1341 gw63 gw1338 gw1340 gw41 ⟨by decide, by decide, by decide⟩ (by decide) (by decide)) nw_callV_le, List.forall_mem_cons.mpr ⟨np_s_astore_n hX dX11_upgraded_5 rfl (by decide), List.forall_mem_cons.mpr ⟨np_s_aload_n hX dX11_upgraded_6 rfl, List.forall_mem_cons.mpr ⟨np_s_ifnull hX dX11_upgraded_7 (by decide), List.forall_mem_cons.mpr ⟨np_s_iload_n hX dX11_upgraded_10 rfl, List.forall_mem_cons.mpr ⟨np_S.mono (op := np_call 1 sp_X11_isSlot 1 0 0 1 6) (np_s_callS hX C_X11_isSlot dX11_upgraded_11 gw515 gw63 gw513 gw514 ⟨by decide, by decide, by decide⟩ (by decide) (by decide)) nq_call_le, List.forall_mem_cons.mpr ⟨np_S.mono (op := np_ifne 28) (np_s_if_ne hX dX11_upgraded_14 (by decide)) nq_ifne_le, List.forall_mem_cons.mpr ⟨np_S.mono (op := np_throw X.2.2.2 0) (np_s_throw hX ⟨96, 407, 100, _, gw516, gw78, sw1395, twX11_100, toX11_100_96, Or.inr ⟨dX11_upgraded_17, dX11_upgraded_20, dX11_upgraded_21, dX11_upgraded_24, dX11_upgraded_27⟩⟩) (nq_throw_le hT), List.forall_mem_cons.mpr ⟨np_s_aload_n hX dX11_upgraded_28 rfl, List.forall_mem_cons.mpr ⟨np_s_iload_n hX dX11_upgraded_29 rfl, List.forall_mem_cons.mpr ⟨np_s_aload_n hX dX11_upgraded_30 rfl, List.forall_mem_cons.mpr ⟨np_S.mono (op := np_getf 11 3) (np_s_getf hX dX11_upgraded_31 (C := RX11) (T := TX11) (N := 14) rfl guX11 (by decide) gw444) nw_getf_le, List.forall_mem_cons.mpr ⟨np_S.mono (op := np_callV 9 3 sp_X9_valueFor 8 0 0 1 6) (np_s_callV hX C_X9_valueFor dX11_upgraded_34 (q := (RX9, TX9, 7)) rfl rfl gw1399 gw74 gw1396 gw1397 gw1398 ⟨by decide, by decide, by decide⟩ (by decide) (by decide)) nw_callV_le, List.forall_mem_cons.mpr ⟨np_S.mono (op := np_ret X.2.2.1) (np_s_ret hX dX11_upgraded_37) (nq_ret_le hR), fun _ h => nomatch h⟩⟩⟩⟩⟩⟩⟩⟩⟩⟩⟩⟩⟩⟩⟩⟩
noncomputable def m_X11_upgraded (S : pw_S) (i0 : Nat) (x1 : Int32) (x2 : Int32) : pw_R (Int32 ⊕ Nat) :=
 pw_b (m_X11_upgradeOf S i0 x1) fun S1 r4 =>
 pw_o r4 (
 (some (S1, .inr 0))) (fun j6 =>
 (pw_b (m_X11_isSlot S1 x2) fun S7 r10 =>
 if r10 = 0 then
 (some (S7, .inr 0))
 else
 (pw_b (m_X9_valueFor S7 j6 x2 35 0) fun S12 r15 =>
 some (S12, .inl r15))))
def sp_X11_upgraded : np_SpX := fun vs w Q QX => ∃ (q : Nat) (S : pw_S) (i0 : Nat) (x1 : Int32) (x2 : Int32), vs = [.ref (pw_pl 61 i0), .int x1, .int x2] ∧ pw_ok q 61 i0 = true ∧ pw_W q w S ∧ pw_p (m_X11_upgraded S i0 x1 x2) (fun S' rx => ∀ f', pw_W q (w.1, f') S' → match rx with | .inl r => Q (some (.int r)) (w.1, f') | .inr e => QX e (w.1, f'))
set_option maxRecDepth 100000 in
set_option maxHeartbeats 8000000 in
theorem C_X11_upgraded : np_CX yX11_upgraded cX11_upgraded 4 (some .int) 6 109 1 6 sp_X11_upgraded := by
  refine np_ofX (by decide) (by decide) (by decide) ?_
  intro X vs w Q QX hsp hX hmn hRt hTh
  obtain ⟨q, S, i0, x1, x2, rfl, hi0, hW, h⟩ := hsp
  obtain ⟨n, f⟩ := w
  unfold m_X11_upgraded at h
  have hR : ∀ st w ce sl, np_rq (some .int) 1 6 Q st w ce sl → X.2.2.1 st w ce sl := fun _ _ _ _ h => by rw [hRt]; exact h
  have hT : ∀ i w ce sl, np_thq 1 6 QX i w ce sl → X.2.2.2 i w ce sl := fun _ _ _ _ h => by rw [hTh]; exact h
  refine np_soundW (so_X11_upgraded hX hR hT) [] 400 0 _ _ _ _ _ ?_
  conv => whnf
  refine np_rd_i (hW.g hi0) ?_
  conv => whnf
  refine ⟨q, S, i0, x1, rfl, hi0, hW, pw_bd h (fun S1 r4 h f2 hW3 ho5 => ?_)⟩
  rcases r4 with _ | j6
  · replace h := pw_on h
    conv => whnf
    exact ⟨Nat.le_of_ble_eq_true rfl, Nat.le_of_ble_eq_true rfl, pw_ps h _ hW3⟩
  · replace h := pw_os h
    replace ho5 : pw_ok q 57 j6 = true := ho5
    conv => whnf
    refine ⟨q, S1, x2, rfl, hW3, pw_bd h (fun S7 r10 h f8 hW9 => ?_)⟩
    conv => whnf
    refine pw_br h (fun _ h => ?_) (fun _ h => ?_)
    · conv => whnf
      exact ⟨Nat.le_of_ble_eq_true rfl, Nat.le_of_ble_eq_true rfl, pw_ps h _ hW9⟩
    · conv => whnf
      refine np_rd_i (hW9.g hi0) ?_
      conv => whnf
      refine np_rd_i (hW9.g ho5) ?_
      conv => whnf
      refine ⟨q, S7, j6, x2, 35, 0, rfl, ho5, rfl, rfl, hW9, pw_bd h (fun S12 r15 h f13 hW14 => ?_)⟩
      conv => whnf
      exact ⟨Nat.le_of_ble_eq_true rfl, Nat.le_of_ble_eq_true rfl, trivial, pw_ps h _ hW14⟩
theorem dX11_parts_0 : decode cX11_parts 0 = .ok (.aload_n 0, 1) := by decide +kernel
theorem dX11_parts_1 : decode cX11_parts 1 = .ok (.iload_n 1, 1) := by decide +kernel
theorem dX11_parts_2 : decode cX11_parts 2 = .ok (.invokevirtual 393, 3) := by decide +kernel
theorem dX11_parts_5 : decode cX11_parts 5 = .ok (.astore_n 2, 1) := by decide +kernel
theorem dX11_parts_6 : decode cX11_parts 6 = .ok (.aload_n 2, 1) := by decide +kernel
theorem dX11_parts_7 : decode cX11_parts 7 = .ok (.ifnonnull 14, 3) := by decide +kernel
theorem dX11_parts_10 : decode cX11_parts 10 = .ok (.new 96, 3) := by decide +kernel
theorem dX11_parts_13 : decode cX11_parts 13 = .ok (.dup, 1) := by decide +kernel
theorem dX11_parts_14 : decode cX11_parts 14 = .ok (.ldc_w 397, 3) := by decide +kernel
theorem dX11_parts_17 : decode cX11_parts 17 = .ok (.invokespecial 100, 3) := by decide +kernel
theorem dX11_parts_20 : decode cX11_parts 20 = .ok (.athrow, 1) := by decide +kernel
theorem dX11_parts_21 : decode cX11_parts 21 = .ok (.aload_n 2, 1) := by decide +kernel
theorem dX11_parts_22 : decode cX11_parts 22 = .ok (.getfield 413, 3) := by decide +kernel
theorem dX11_parts_25 : decode cX11_parts 25 = .ok (.ireturn, 1) := by decide +kernel
def is_X11_parts (Rt : np_Rt) (Th : np_Th) : List (Nat × np_Op) := [(0, np_ald 1 0), (1, np_ild 1 1), (2, nw_callV 11 2 sp_X11_upgradeOf 2 0 0 1 6), (5, np_ast 1 2), (6, np_ald 1 2), (7, np_ifnonnull 21), (10, nq_throw Th 0), (21, np_ald 1 2), (22, nw_getf 9 6), (25, np_ret Rt)]
set_option maxRecDepth 20000 in
theorem so_X11_parts {X : np_Ctx} {Rt : np_Rt} {Th : np_Th} (hX : np_ok RX11 cX11_parts 3 6 100 1 6 .ireturn X) (hR : ∀ st w ce sl, Rt st w ce sl → X.2.2.1 st w ce sl) (hT : ∀ i w ce sl, Th i w ce sl → X.2.2.2 i w ce sl) : ∀ q ∈ is_X11_parts Rt Th, np_S X q.1 q.2 :=
  List.forall_mem_cons.mpr ⟨np_s_aload_n hX dX11_parts_0 rfl, List.forall_mem_cons.mpr ⟨np_s_iload_n hX dX11_parts_1 rfl, List.forall_mem_cons.mpr ⟨np_S.mono (op := np_callV 11 2 sp_X11_upgradeOf 2 0 0 1 6) (np_s_callV hX C_X11_upgradeOf dX11_parts_2 (q := (RX11, TX11, 14)) rfl rfl gw1341 gw63 gw1338 gw1340 gw41 ⟨by decide, by decide, by decide⟩ (by decide) (by decide)) nw_callV_le, List.forall_mem_cons.mpr ⟨np_s_astore_n hX dX11_parts_5 rfl (by decide), List.forall_mem_cons.mpr ⟨np_s_aload_n hX dX11_parts_6 rfl, List.forall_mem_cons.mpr ⟨np_s_ifnonnull hX dX11_parts_7 (by decide), List.forall_mem_cons.mpr ⟨np_S.mono (op := np_throw X.2.2.2 0) (np_s_throw hX ⟨96, 397, 100, _, gw516, gw78, sw1342, twX11_100, toX11_100_96, Or.inr ⟨dX11_parts_10, dX11_parts_13, dX11_parts_14, dX11_parts_17, dX11_parts_20⟩⟩) (nq_throw_le hT), List.forall_mem_cons.mpr ⟨np_s_aload_n hX dX11_parts_21 rfl, List.forall_mem_cons.mpr ⟨np_S.mono (op := np_getf 9 6) (np_s_getN hX dX11_parts_22 (C := RX9) (T := TX9) (N := 7) rfl guX9 (by decide) gw425) nw_getf_le, List.forall_mem_cons.mpr ⟨np_S.mono (op := np_ret X.2.2.1) (np_s_ret hX dX11_parts_25) (nq_ret_le hR), fun _ h => nomatch h⟩⟩⟩⟩⟩⟩⟩⟩⟩⟩
noncomputable def m_X11_parts (S : pw_S) (i0 : Nat) (x1 : Int32) : pw_R (Int32 ⊕ Nat) :=
 pw_b (m_X11_upgradeOf S i0 x1) fun S1 r4 =>
 pw_o r4 (
 (some (S1, .inr 0))) (fun j6 =>
 (some (S1, .inl (S1 57 j6 6))))
def sp_X11_parts : np_SpX := fun vs w Q QX => ∃ (q : Nat) (S : pw_S) (i0 : Nat) (x1 : Int32), vs = [.ref (pw_pl 61 i0), .int x1] ∧ pw_ok q 61 i0 = true ∧ pw_W q w S ∧ pw_p (m_X11_parts S i0 x1) (fun S' rx => ∀ f', pw_W q (w.1, f') S' → match rx with | .inl r => Q (some (.int r)) (w.1, f') | .inr e => QX e (w.1, f'))
set_option maxRecDepth 100000 in
set_option maxHeartbeats 8000000 in
theorem C_X11_parts : np_CX yX11_parts cX11_parts 3 (some .int) 6 100 1 6 sp_X11_parts := by
  refine np_ofX (by decide) (by decide) (by decide) ?_
  intro X vs w Q QX hsp hX hmn hRt hTh
  obtain ⟨q, S, i0, x1, rfl, hi0, hW, h⟩ := hsp
  obtain ⟨n, f⟩ := w
  unfold m_X11_parts at h
  have hR : ∀ st w ce sl, np_rq (some .int) 1 6 Q st w ce sl → X.2.2.1 st w ce sl := fun _ _ _ _ h => by rw [hRt]; exact h
  have hT : ∀ i w ce sl, np_thq 1 6 QX i w ce sl → X.2.2.2 i w ce sl := fun _ _ _ _ h => by rw [hTh]; exact h
  refine np_soundW (so_X11_parts hX hR hT) [] 400 0 _ _ _ _ _ ?_
  conv => whnf
  refine np_rd_i (hW.g hi0) ?_
  conv => whnf
  refine ⟨q, S, i0, x1, rfl, hi0, hW, pw_bd h (fun S1 r4 h f2 hW3 ho5 => ?_)⟩
  rcases r4 with _ | j6
  · replace h := pw_on h
    conv => whnf
    exact ⟨Nat.le_of_ble_eq_true rfl, Nat.le_of_ble_eq_true rfl, pw_ps h _ hW3⟩
  · replace h := pw_os h
    replace ho5 : pw_ok q 57 j6 = true := ho5
    conv => whnf
    refine np_rd_i (hW3.g ho5) ?_
    conv => whnf
    exact ⟨Nat.le_of_ble_eq_true rfl, Nat.le_of_ble_eq_true rfl, trivial, pw_ps h _ hW3⟩
theorem dX11_compare_0 : decode cX11_compare 0 = .ok (.aload_n 0, 1) := by decide +kernel
theorem dX11_compare_1 : decode cX11_compare 1 = .ok (.iconst 0, 1) := by decide +kernel
theorem dX11_compare_2 : decode cX11_compare 2 = .ok (.invokevirtual 283, 3) := by decide +kernel
theorem dX11_compare_5 : decode cX11_compare 5 = .ok (.astore_n 2, 1) := by decide +kernel
theorem dX11_compare_6 : decode cX11_compare 6 = .ok (.aload_n 0, 1) := by decide +kernel
theorem dX11_compare_7 : decode cX11_compare 7 = .ok (.iconst 1, 1) := by decide +kernel
theorem dX11_compare_8 : decode cX11_compare 8 = .ok (.invokevirtual 283, 3) := by decide +kernel
theorem dX11_compare_11 : decode cX11_compare 11 = .ok (.astore_n 3, 1) := by decide +kernel
theorem dX11_compare_12 : decode cX11_compare 12 = .ok (.aload_n 2, 1) := by decide +kernel
theorem dX11_compare_13 : decode cX11_compare 13 = .ok (.ifnull 14, 3) := by decide +kernel
theorem dX11_compare_16 : decode cX11_compare 16 = .ok (.aload_n 3, 1) := by decide +kernel
theorem dX11_compare_17 : decode cX11_compare 17 = .ok (.ifnull 10, 3) := by decide +kernel
theorem dX11_compare_20 : decode cX11_compare 20 = .ok (.iload_n 1, 1) := by decide +kernel
theorem dX11_compare_21 : decode cX11_compare 21 = .ok (.invokestatic 93, 3) := by decide +kernel
theorem dX11_compare_24 : decode cX11_compare 24 = .ok (.ifCond .ne 13, 3) := by decide +kernel
theorem dX11_compare_27 : decode cX11_compare 27 = .ok (.new 96, 3) := by decide +kernel
theorem dX11_compare_30 : decode cX11_compare 30 = .ok (.dup, 1) := by decide +kernel
theorem dX11_compare_31 : decode cX11_compare 31 = .ok (.ldc 98, 2) := by decide +kernel
theorem dX11_compare_33 : decode cX11_compare 33 = .ok (.invokespecial 100, 3) := by decide +kernel
theorem dX11_compare_36 : decode cX11_compare 36 = .ok (.athrow, 1) := by decide +kernel
theorem dX11_compare_37 : decode cX11_compare 37 = .ok (.sipush 10000, 3) := by decide +kernel
theorem dX11_compare_40 : decode cX11_compare 40 = .ok (.aload_n 3, 1) := by decide +kernel
theorem dX11_compare_41 : decode cX11_compare 41 = .ok (.aload_n 2, 1) := by decide +kernel
theorem dX11_compare_42 : decode cX11_compare 42 = .ok (.iload_n 1, 1) := by decide +kernel
theorem dX11_compare_43 : decode cX11_compare 43 = .ok (.invokevirtual 414, 3) := by decide +kernel
theorem dX11_compare_46 : decode cX11_compare 46 = .ok (.imul, 1) := by decide +kernel
theorem dX11_compare_47 : decode cX11_compare 47 = .ok (.bipush 100, 2) := by decide +kernel
theorem dX11_compare_49 : decode cX11_compare 49 = .ok (.aload_n 2, 1) := by decide +kernel
theorem dX11_compare_50 : decode cX11_compare 50 = .ok (.aload_n 3, 1) := by decide +kernel
theorem dX11_compare_51 : decode cX11_compare 51 = .ok (.iload_n 1, 1) := by decide +kernel
theorem dX11_compare_52 : decode cX11_compare 52 = .ok (.invokevirtual 414, 3) := by decide +kernel
theorem dX11_compare_55 : decode cX11_compare 55 = .ok (.imul, 1) := by decide +kernel
theorem dX11_compare_56 : decode cX11_compare 56 = .ok (.iadd, 1) := by decide +kernel
theorem dX11_compare_57 : decode cX11_compare 57 = .ok (.aload_n 2, 1) := by decide +kernel
theorem dX11_compare_58 : decode cX11_compare 58 = .ok (.aload_n 3, 1) := by decide +kernel
theorem dX11_compare_59 : decode cX11_compare 59 = .ok (.iload_n 1, 1) := by decide +kernel
theorem dX11_compare_60 : decode cX11_compare 60 = .ok (.invokevirtual 418, 3) := by decide +kernel
theorem dX11_compare_63 : decode cX11_compare 63 = .ok (.iadd, 1) := by decide +kernel
theorem dX11_compare_64 : decode cX11_compare 64 = .ok (.ireturn, 1) := by decide +kernel
def is_X11_compare (Rt : np_Rt) (Th : np_Th) : List (Nat × np_Op) := [(0, np_ald 1 0), (1, np_push 1 (.int 0)), (2, nw_callV 11 2 sp_X11_tableOf 2 0 0 1 6), (5, np_ast 1 2), (6, np_ald 1 0), (7, np_push 1 (.int 1)), (8, nw_callV 11 2 sp_X11_tableOf 2 0 0 1 6), (11, np_ast 1 3), (12, np_ald 1 2), (13, np_ifnull 27), (16, np_ald 1 3), (17, np_ifnull 27), (20, np_ild 1 1), (21, nq_call 1 sp_X11_isSlot 1 0 0 1 6), (24, nq_ifne 37), (27, nq_throw Th 0), (37, np_push 3 (.int 10000)), (40, np_ald 1 3), (41, np_ald 1 2), (42, np_ild 1 1), (43, nw_callV 6 3 sp_X6_keysNotIn 5 0 0 1 6), (46, np_ib (fun x y => x * y)), (47, np_push 2 (.int 100)), (49, np_ald 1 2), (50, np_ald 1 3), (51, np_ild 1 1), (52, nw_callV 6 3 sp_X6_keysNotIn 5 0 0 1 6), (55, np_ib (fun x y => x * y)), (56, np_ib (fun x y => x + y)), (57, np_ald 1 2), (58, np_ald 1 3), (59, np_ild 1 1), (60, nw_callV 6 3 sp_X6_keysThatDiffer 6 0 0 1 6), (63, np_ib (fun x y => x + y)), (64, np_ret Rt)]
set_option maxRecDepth 20000 in
theorem so_X11_compare {X : np_Ctx} {Rt : np_Rt} {Th : np_Th} (hX : np_ok RX11 cX11_compare 4 6 137 1 6 .ireturn X) (hR : ∀ st w ce sl, Rt st w ce sl → X.2.2.1 st w ce sl) (hT : ∀ i w ce sl, Th i w ce sl → X.2.2.2 i w ce sl) : ∀ q ∈ is_X11_compare Rt Th, np_S X q.1 q.2 :=
  List.forall_mem_cons.mpr ⟨np_s_aload_n hX dX11_compare_0 rfl, List.forall_mem_cons.mpr ⟨np_s_iconst hX dX11_compare_1 (by decide), List.forall_mem_cons.mpr ⟨np_S.mono (op := np_callV 11 2 sp_X11_tableOf 2 0 0 1 6) (np_s_callV hX C_X11_tableOf dX11_compare_2 (q := (RX11, TX11, 14)) rfl rfl gw977 gw63 gw974 gw976 gw18 ⟨by decide, by decide, by decide⟩ (by decide) (by decide)) nw_callV_le, List.forall_mem_cons.mpr ⟨np_s_astore_n hX dX11_compare_5 rfl (by decide), List.forall_mem_cons.mpr ⟨np_s_aload_n hX dX11_compare_6 rfl, List.forall_mem_cons.mpr ⟨np_s_iconst hX dX11_compare_7 (by decide), List.forall_mem_cons.mpr ⟨np_S.mono (op := np_callV 11 2 sp_X11_tableOf 2 0 0 1 6) (np_s_callV hX C_X11_tableOf dX11_compare_8 (q := (RX11, TX11, 14)) rfl rfl gw977 gw63 gw974 gw976 gw18 ⟨by decide, by decide, by decide⟩ (by decide) (by decide)) nw_callV_le, List.forall_mem_cons.mpr ⟨np_s_astore_n hX dX11_compare_11 rfl (by decide), List.forall_mem_cons.mpr ⟨np_s_aload_n hX dX11_compare_12 rfl, List.forall_mem_cons.mpr ⟨np_s_ifnull hX dX11_compare_13 (by decide), List.forall_mem_cons.mpr ⟨np_s_aload_n hX dX11_compare_16 rfl, List.forall_mem_cons.mpr ⟨np_s_ifnull hX dX11_compare_17 (by decide), List.forall_mem_cons.mpr ⟨np_s_iload_n hX dX11_compare_20 rfl, List.forall_mem_cons.mpr ⟨np_S.mono (op := np_call 1 sp_X11_isSlot 1 0 0 1 6) (np_s_callS hX C_X11_isSlot dX11_compare_21 gw515 gw63 gw513 gw514 ⟨by decide, by decide, by decide⟩ (by decide) (by decide)) nq_call_le, List.forall_mem_cons.mpr ⟨np_S.mono (op := np_ifne 37) (np_s_if_ne hX dX11_compare_24 (by decide)) nq_ifne_le, List.forall_mem_cons.mpr ⟨np_S.mono (op := np_throw X.2.2.2 0) (np_s_throw hX ⟨96, 98, 100, _, gw516, gw78, sw557, twX11_100, toX11_100_96, Or.inl ⟨dX11_compare_27, dX11_compare_30, dX11_compare_31, dX11_compare_33, dX11_compare_36⟩⟩) (nq_throw_le hT), List.forall_mem_cons.mpr ⟨np_s_sipush hX dX11_compare_37 (by decide), List.forall_mem_cons.mpr ⟨np_s_aload_n hX dX11_compare_40 rfl, List.forall_mem_cons.mpr ⟨np_s_aload_n hX dX11_compare_41 rfl, List.forall_mem_cons.mpr ⟨np_s_iload_n hX dX11_compare_42 rfl, List.forall_mem_cons.mpr ⟨np_S.mono (op := np_callV 6 3 sp_X6_keysNotIn 5 0 0 1 6) (np_s_callV hX C_X6_keysNotIn dX11_compare_43 (q := (RX6, TX6, 12)) rfl rfl gw1477 gw72 gw1474 gw1475 gw1476 ⟨by decide, by decide, by decide⟩ (by decide) (by decide)) nw_callV_le, List.forall_mem_cons.mpr ⟨np_s_imul hX dX11_compare_46, List.forall_mem_cons.mpr ⟨np_s_bipush hX dX11_compare_47 (by decide), List.forall_mem_cons.mpr ⟨np_s_aload_n hX dX11_compare_49 rfl, List.forall_mem_cons.mpr ⟨np_s_aload_n hX dX11_compare_50 rfl, List.forall_mem_cons.mpr ⟨np_s_iload_n hX dX11_compare_51 rfl, List.forall_mem_cons.mpr ⟨np_S.mono (op := np_callV 6 3 sp_X6_keysNotIn 5 0 0 1 6) (np_s_callV hX C_X6_keysNotIn dX11_compare_52 (q := (RX6, TX6, 12)) rfl rfl gw1477 gw72 gw1474 gw1475 gw1476 ⟨by decide, by decide, by decide⟩ (by decide) (by decide)) nw_callV_le, List.forall_mem_cons.mpr ⟨np_s_imul hX dX11_compare_55, List.forall_mem_cons.mpr ⟨np_s_iadd hX dX11_compare_56, List.forall_mem_cons.mpr ⟨np_s_aload_n hX dX11_compare_57 rfl, List.forall_mem_cons.mpr ⟨np_s_aload_n hX dX11_compare_58 rfl, List.forall_mem_cons.mpr ⟨np_s_iload_n hX dX11_compare_59 rfl, List.forall_mem_cons.mpr ⟨np_S.mono (op := np_callV 6 3 sp_X6_keysThatDiffer 6 0 0 1 6) (np_s_callV hX C_X6_keysThatDiffer dX11_compare_60 (q := (RX6, TX6, 12)) rfl rfl gw1489 gw72 gw1486 gw1487 gw1488 ⟨by decide, by decide, by decide⟩ (by decide) (by decide)) nw_callV_le, List.forall_mem_cons.mpr ⟨np_s_iadd hX dX11_compare_63, List.forall_mem_cons.mpr ⟨np_S.mono (op := np_ret X.2.2.1) (np_s_ret hX dX11_compare_64) (nq_ret_le hR), fun _ h => nomatch h⟩⟩⟩⟩⟩⟩⟩⟩⟩⟩⟩⟩⟩⟩⟩⟩⟩⟩⟩⟩⟩⟩⟩⟩⟩⟩⟩⟩⟩⟩⟩⟩⟩⟩⟩
noncomputable def m_X11_compare (S : pw_S) (i0 : Nat) (x1 : Int32) : pw_R (Int32 ⊕ Nat) :=
 pw_b (m_X11_tableOf S i0 0) fun S1 r4 =>
 pw_o r4 (
 (pw_b (m_X11_tableOf S1 i0 1) fun S7 r10 =>
 pw_o r10 (
 (some (S7, .inr 0))) (fun j12 =>
 (some (S7, .inr 0))))) (fun j6 =>
 (pw_b (m_X11_tableOf S1 i0 1) fun S13 r16 =>
 pw_o r16 (
 (some (S13, .inr 0))) (fun j18 =>
 (pw_b (m_X11_isSlot S13 x1) fun S19 r22 =>
 if r22 = 0 then
 (some (S19, .inr 0))
 else
 (pw_b (m_X6_keysNotIn S19 j18 j6 x1) fun S24 r27 =>
 pw_b (m_X6_keysNotIn S24 j6 j18 x1) fun S29 r32 =>
 pw_b (m_X6_keysThatDiffer S29 j6 j18 x1) fun S34 r37 =>
 some (S34, .inl (((10000 * r27) + (100 * r32)) + r37)))))))
def sp_X11_compare : np_SpX := fun vs w Q QX => ∃ (q : Nat) (S : pw_S) (i0 : Nat) (x1 : Int32), vs = [.ref (pw_pl 61 i0), .int x1] ∧ pw_ok q 61 i0 = true ∧ pw_W q w S ∧ pw_p (m_X11_compare S i0 x1) (fun S' rx => ∀ f', pw_W q (w.1, f') S' → match rx with | .inl r => Q (some (.int r)) (w.1, f') | .inr e => QX e (w.1, f'))
set_option maxRecDepth 100000 in
set_option maxHeartbeats 8000000 in
theorem C_X11_compare : np_CX yX11_compare cX11_compare 4 (some .int) 6 137 1 6 sp_X11_compare := by
  refine np_ofX (by decide) (by decide) (by decide) ?_
  intro X vs w Q QX hsp hX hmn hRt hTh
  obtain ⟨q, S, i0, x1, rfl, hi0, hW, h⟩ := hsp
  obtain ⟨n, f⟩ := w
  unfold m_X11_compare at h
  have hR : ∀ st w ce sl, np_rq (some .int) 1 6 Q st w ce sl → X.2.2.1 st w ce sl := fun _ _ _ _ h => by rw [hRt]; exact h
  have hT : ∀ i w ce sl, np_thq 1 6 QX i w ce sl → X.2.2.2 i w ce sl := fun _ _ _ _ h => by rw [hTh]; exact h
  refine np_soundW (so_X11_compare hX hR hT) [] 400 0 _ _ _ _ _ ?_
  conv => whnf
  refine np_rd_i (hW.g hi0) ?_
  conv => whnf
  refine ⟨q, S, i0, 0, rfl, hi0, hW, pw_bd h (fun S1 r4 h f2 hW3 ho5 => ?_)⟩
  rcases r4 with _ | j6
  · replace h := pw_on h
    conv => whnf
    refine np_rd_i (hW3.g hi0) ?_
    conv => whnf
    refine ⟨q, S1, i0, 1, rfl, hi0, hW3, pw_bd h (fun S7 r10 h f8 hW9 ho11 => ?_)⟩
    rcases r10 with _ | j12
    · replace h := pw_on h
      conv => whnf
      exact ⟨Nat.le_of_ble_eq_true rfl, Nat.le_of_ble_eq_true rfl, pw_ps h _ hW9⟩
    · replace h := pw_os h
      replace ho11 : pw_ok q 54 j12 = true := ho11
      conv => whnf
      exact ⟨Nat.le_of_ble_eq_true rfl, Nat.le_of_ble_eq_true rfl, pw_ps h _ hW9⟩
  · replace h := pw_os h
    replace ho5 : pw_ok q 54 j6 = true := ho5
    conv => whnf
    refine np_rd_i (hW3.g hi0) ?_
    conv => whnf
    refine ⟨q, S1, i0, 1, rfl, hi0, hW3, pw_bd h (fun S13 r16 h f14 hW15 ho17 => ?_)⟩
    rcases r16 with _ | j18
    · replace h := pw_on h
      conv => whnf
      exact ⟨Nat.le_of_ble_eq_true rfl, Nat.le_of_ble_eq_true rfl, pw_ps h _ hW15⟩
    · replace h := pw_os h
      replace ho17 : pw_ok q 54 j18 = true := ho17
      conv => whnf
      refine ⟨q, S13, x1, rfl, hW15, pw_bd h (fun S19 r22 h f20 hW21 => ?_)⟩
      conv => whnf
      refine pw_br h (fun _ h => ?_) (fun _ h => ?_)
      · conv => whnf
        exact ⟨Nat.le_of_ble_eq_true rfl, Nat.le_of_ble_eq_true rfl, pw_ps h _ hW21⟩
      · conv => whnf
        refine np_rd_i (hW21.g ho17) ?_
        conv => whnf
        refine ⟨q, S19, j18, j6, x1, rfl, ho17, ho5, hW21, pw_bd h (fun S24 r27 h f25 hW26 => ?_)⟩
        conv => whnf
        refine np_rd_i (hW26.g ho5) ?_
        conv => whnf
        refine ⟨q, S24, j6, j18, x1, rfl, ho5, ho17, hW26, pw_bd h (fun S29 r32 h f30 hW31 => ?_)⟩
        conv => whnf
        refine np_rd_i (hW31.g ho5) ?_
        conv => whnf
        refine ⟨q, S29, j6, j18, x1, rfl, ho5, ho17, hW31, pw_bd h (fun S34 r37 h f35 hW36 => ?_)⟩
        conv => whnf
        exact ⟨Nat.le_of_ble_eq_true rfl, Nat.le_of_ble_eq_true rfl, trivial, pw_ps h _ hW36⟩
theorem dX11_find_0 : decode cX11_find 0 = .ok (.aload_n 0, 1) := by decide +kernel
theorem dX11_find_1 : decode cX11_find 1 = .ok (.iload_n 1, 1) := by decide +kernel
theorem dX11_find_2 : decode cX11_find 2 = .ok (.invokevirtual 283, 3) := by decide +kernel
theorem dX11_find_5 : decode cX11_find 5 = .ok (.astore 5, 2) := by decide +kernel
theorem dX11_find_7 : decode cX11_find 7 = .ok (.aload 5, 2) := by decide +kernel
theorem dX11_find_9 : decode cX11_find 9 = .ok (.ifnull 10, 3) := by decide +kernel
theorem dX11_find_12 : decode cX11_find 12 = .ok (.iload_n 2, 1) := by decide +kernel
theorem dX11_find_13 : decode cX11_find 13 = .ok (.invokestatic 93, 3) := by decide +kernel
theorem dX11_find_16 : decode cX11_find 16 = .ok (.ifCond .ne 14, 3) := by decide +kernel
theorem dX11_find_19 : decode cX11_find 19 = .ok (.new 96, 3) := by decide +kernel
theorem dX11_find_22 : decode cX11_find 22 = .ok (.dup, 1) := by decide +kernel
theorem dX11_find_23 : decode cX11_find 23 = .ok (.ldc_w 342, 3) := by decide +kernel
theorem dX11_find_26 : decode cX11_find 26 = .ok (.invokespecial 100, 3) := by decide +kernel
theorem dX11_find_29 : decode cX11_find 29 = .ok (.athrow, 1) := by decide +kernel
theorem dX11_find_30 : decode cX11_find 30 = .ok (.iload 4, 2) := by decide +kernel
theorem dX11_find_32 : decode cX11_find 32 = .ok (.ifCond .ge 14, 3) := by decide +kernel
theorem dX11_find_35 : decode cX11_find 35 = .ok (.new 96, 3) := by decide +kernel
theorem dX11_find_38 : decode cX11_find 38 = .ok (.dup, 1) := by decide +kernel
theorem dX11_find_39 : decode cX11_find 39 = .ok (.ldc_w 421, 3) := by decide +kernel
theorem dX11_find_42 : decode cX11_find 42 = .ok (.invokespecial 100, 3) := by decide +kernel
theorem dX11_find_45 : decode cX11_find 45 = .ok (.athrow, 1) := by decide +kernel
theorem dX11_find_46 : decode cX11_find 46 = .ok (.aload 5, 2) := by decide +kernel
theorem dX11_find_48 : decode cX11_find 48 = .ok (.iload_n 2, 1) := by decide +kernel
theorem dX11_find_49 : decode cX11_find 49 = .ok (.iload_n 3, 1) := by decide +kernel
theorem dX11_find_50 : decode cX11_find 50 = .ok (.iload 4, 2) := by decide +kernel
theorem dX11_find_52 : decode cX11_find 52 = .ok (.invokevirtual 423, 3) := by decide +kernel
theorem dX11_find_55 : decode cX11_find 55 = .ok (.ireturn, 1) := by decide +kernel
def is_X11_find (Rt : np_Rt) (Th : np_Th) : List (Nat × np_Op) := [(0, np_ald 1 0), (1, np_ild 1 1), (2, nw_callV 11 2 sp_X11_tableOf 2 0 0 1 6), (5, np_ast 2 5), (7, np_ald 2 5), (9, np_ifnull 19), (12, np_ild 1 2), (13, nq_call 1 sp_X11_isSlot 1 0 0 1 6), (16, nq_ifne 30), (19, nq_throw Th 0), (30, np_ild 2 4), (32, nq_if (fun x => 0 ≤ x) 46), (35, nq_throw Th 0), (46, np_ald 2 5), (48, np_ild 1 2), (49, np_ild 1 3), (50, np_ild 2 4), (52, nw_callV 6 4 sp_X6_rowByIndex 7 0 0 1 6), (55, np_ret Rt)]
set_option maxRecDepth 20000 in
theorem so_X11_find {X : np_Ctx} {Rt : np_Rt} {Th : np_Th} (hX : np_ok RX11 cX11_find 6 6 100 1 6 .ireturn X) (hR : ∀ st w ce sl, Rt st w ce sl → X.2.2.1 st w ce sl) (hT : ∀ i w ce sl, Th i w ce sl → X.2.2.2 i w ce sl) : ∀ q ∈ is_X11_find Rt Th, np_S X q.1 q.2 :=
  List.forall_mem_cons.mpr ⟨np_s_aload_n hX dX11_find_0 rfl, List.forall_mem_cons.mpr ⟨np_s_iload_n hX dX11_find_1 rfl, List.forall_mem_cons.mpr ⟨np_S.mono (op := np_callV 11 2 sp_X11_tableOf 2 0 0 1 6) (np_s_callV hX C_X11_tableOf dX11_find_2 (q := (RX11, TX11, 14)) rfl rfl gw977 gw63 gw974 gw976 gw18 ⟨by decide, by decide, by decide⟩ (by decide) (by decide)) nw_callV_le, List.forall_mem_cons.mpr ⟨np_s_astore hX dX11_find_5 (by decide), List.forall_mem_cons.mpr ⟨np_s_aload hX dX11_find_7, List.forall_mem_cons.mpr ⟨np_s_ifnull hX dX11_find_9 (by decide), List.forall_mem_cons.mpr ⟨np_s_iload_n hX dX11_find_12 rfl, List.forall_mem_cons.mpr ⟨np_S.mono (op := np_call 1 sp_X11_isSlot 1 0 0 1 6) (np_s_callS hX C_X11_isSlot dX11_find_13 gw515 gw63 gw513 gw514 ⟨by decide, by decide, by decide⟩ (by decide) (by decide)) nq_call_le, List.forall_mem_cons.mpr ⟨np_S.mono (op := np_ifne 30) (np_s_if_ne hX dX11_find_16 (by decide)) nq_ifne_le, List.forall_mem_cons.mpr ⟨np_S.mono (op := np_throw X.2.2.2 0) (np_s_throw hX ⟨96, 342, 100, _, gw516, gw78, sw1276, twX11_100, toX11_100_96, Or.inr ⟨dX11_find_19, dX11_find_22, dX11_find_23, dX11_find_26, dX11_find_29⟩⟩) (nq_throw_le hT), List.forall_mem_cons.mpr ⟨np_s_iload hX dX11_find_30, List.forall_mem_cons.mpr ⟨np_S.mono (op := np_if (fun x => 0 ≤ x) 46) (np_s_if_ge hX dX11_find_32 (by decide)) nq_if_le, List.forall_mem_cons.mpr ⟨np_S.mono (op := np_throw X.2.2.2 0) (np_s_throw hX ⟨96, 421, 100, _, gw516, gw78, sw1457, twX11_100, toX11_100_96, Or.inr ⟨dX11_find_35, dX11_find_38, dX11_find_39, dX11_find_42, dX11_find_45⟩⟩) (nq_throw_le hT), List.forall_mem_cons.mpr ⟨np_s_aload hX dX11_find_46, List.forall_mem_cons.mpr ⟨np_s_iload_n hX dX11_find_48 rfl, List.forall_mem_cons.mpr ⟨np_s_iload_n hX dX11_find_49 rfl, List.forall_mem_cons.mpr ⟨np_s_iload hX dX11_find_50, List.forall_mem_cons.mpr ⟨np_S.mono (op := np_callV 6 4 sp_X6_rowByIndex 7 0 0 1 6) (np_s_callV hX C_X6_rowByIndex dX11_find_52 (q := (RX6, TX6, 12)) rfl rfl gw1461 gw72 gw1458 gw1459 gw1460 ⟨by decide, by decide, by decide⟩ (by decide) (by decide)) nw_callV_le, List.forall_mem_cons.mpr ⟨np_S.mono (op := np_ret X.2.2.1) (np_s_ret hX dX11_find_55) (nq_ret_le hR), fun _ h => nomatch h⟩⟩⟩⟩⟩⟩⟩⟩⟩⟩⟩⟩⟩⟩⟩⟩⟩⟩⟩
noncomputable def m_X11_find (S : pw_S) (i0 : Nat) (x1 : Int32) (x2 : Int32) (x3 : Int32) (x4 : Int32) : pw_R (Int32 ⊕ Nat) :=
 pw_b (m_X11_tableOf S i0 x1) fun S1 r4 =>
 pw_o r4 (
 (some (S1, .inr 0))) (fun j6 =>
 (pw_b (m_X11_isSlot S1 x2) fun S7 r10 =>
 if r10 = 0 then
 (some (S7, .inr 0))
 else
 (if 0 ≤ x4 then
 (pw_b (m_X6_rowByIndex S7 j6 x2 x3 x4) fun S12 r15 =>
 some (S12, .inl r15))
 else
 (some (S7, .inr 0)))))
def sp_X11_find : np_SpX := fun vs w Q QX => ∃ (q : Nat) (S : pw_S) (i0 : Nat) (x1 : Int32) (x2 : Int32) (x3 : Int32) (x4 : Int32), vs = [.ref (pw_pl 61 i0), .int x1, .int x2, .int x3, .int x4] ∧ pw_ok q 61 i0 = true ∧ pw_W q w S ∧ pw_p (m_X11_find S i0 x1 x2 x3 x4) (fun S' rx => ∀ f', pw_W q (w.1, f') S' → match rx with | .inl r => Q (some (.int r)) (w.1, f') | .inr e => QX e (w.1, f'))
set_option maxRecDepth 100000 in
set_option maxHeartbeats 8000000 in
theorem C_X11_find : np_CX yX11_find cX11_find 6 (some .int) 6 100 1 6 sp_X11_find := by
  refine np_ofX (by decide) (by decide) (by decide) ?_
  intro X vs w Q QX hsp hX hmn hRt hTh
  obtain ⟨q, S, i0, x1, x2, x3, x4, rfl, hi0, hW, h⟩ := hsp
  obtain ⟨n, f⟩ := w
  unfold m_X11_find at h
  have hR : ∀ st w ce sl, np_rq (some .int) 1 6 Q st w ce sl → X.2.2.1 st w ce sl := fun _ _ _ _ h => by rw [hRt]; exact h
  have hT : ∀ i w ce sl, np_thq 1 6 QX i w ce sl → X.2.2.2 i w ce sl := fun _ _ _ _ h => by rw [hTh]; exact h
  refine np_soundW (so_X11_find hX hR hT) [] 400 0 _ _ _ _ _ ?_
  conv => whnf
  refine np_rd_i (hW.g hi0) ?_
  conv => whnf
  refine ⟨q, S, i0, x1, rfl, hi0, hW, pw_bd h (fun S1 r4 h f2 hW3 ho5 => ?_)⟩
  rcases r4 with _ | j6
  · replace h := pw_on h
    conv => whnf
    exact ⟨Nat.le_of_ble_eq_true rfl, Nat.le_of_ble_eq_true rfl, pw_ps h _ hW3⟩
  · replace h := pw_os h
    replace ho5 : pw_ok q 54 j6 = true := ho5
    conv => whnf
    refine ⟨q, S1, x2, rfl, hW3, pw_bd h (fun S7 r10 h f8 hW9 => ?_)⟩
    conv => whnf
    refine pw_br h (fun _ h => ?_) (fun _ h => ?_)
    · conv => whnf
      exact ⟨Nat.le_of_ble_eq_true rfl, Nat.le_of_ble_eq_true rfl, pw_ps h _ hW9⟩
    · conv => whnf
      refine pw_br h (fun _ h => ?_) (fun _ h => ?_)
      · conv => whnf
        refine np_rd_i (hW9.g ho5) ?_
        conv => whnf
        refine ⟨q, S7, j6, x2, x3, x4, rfl, ho5, hW9, pw_bd h (fun S12 r15 h f13 hW14 => ?_)⟩
        conv => whnf
        exact ⟨Nat.le_of_ble_eq_true rfl, Nat.le_of_ble_eq_true rfl, trivial, pw_ps h _ hW14⟩
      · conv => whnf
        exact ⟨Nat.le_of_ble_eq_true rfl, Nat.le_of_ble_eq_true rfl, pw_ps h _ hW9⟩
theorem dX11_findAnew_0 : decode cX11_findAnew 0 = .ok (.aload_n 0, 1) := by decide +kernel
theorem dX11_findAnew_1 : decode cX11_findAnew 1 = .ok (.iload_n 1, 1) := by decide +kernel
theorem dX11_findAnew_2 : decode cX11_findAnew 2 = .ok (.invokevirtual 283, 3) := by decide +kernel
theorem dX11_findAnew_5 : decode cX11_findAnew 5 = .ok (.astore 5, 2) := by decide +kernel
theorem dX11_findAnew_7 : decode cX11_findAnew 7 = .ok (.aload 5, 2) := by decide +kernel
theorem dX11_findAnew_9 : decode cX11_findAnew 9 = .ok (.ifnull 10, 3) := by decide +kernel
theorem dX11_findAnew_12 : decode cX11_findAnew 12 = .ok (.iload_n 2, 1) := by decide +kernel
theorem dX11_findAnew_13 : decode cX11_findAnew 13 = .ok (.invokestatic 93, 3) := by decide +kernel
theorem dX11_findAnew_16 : decode cX11_findAnew 16 = .ok (.ifCond .ne 14, 3) := by decide +kernel
theorem dX11_findAnew_19 : decode cX11_findAnew 19 = .ok (.new 96, 3) := by decide +kernel
theorem dX11_findAnew_22 : decode cX11_findAnew 22 = .ok (.dup, 1) := by decide +kernel
theorem dX11_findAnew_23 : decode cX11_findAnew 23 = .ok (.ldc_w 342, 3) := by decide +kernel
theorem dX11_findAnew_26 : decode cX11_findAnew 26 = .ok (.invokespecial 100, 3) := by decide +kernel
theorem dX11_findAnew_29 : decode cX11_findAnew 29 = .ok (.athrow, 1) := by decide +kernel
theorem dX11_findAnew_30 : decode cX11_findAnew 30 = .ok (.iload 4, 2) := by decide +kernel
theorem dX11_findAnew_32 : decode cX11_findAnew 32 = .ok (.ifCond .ge 14, 3) := by decide +kernel
theorem dX11_findAnew_35 : decode cX11_findAnew 35 = .ok (.new 96, 3) := by decide +kernel
theorem dX11_findAnew_38 : decode cX11_findAnew 38 = .ok (.dup, 1) := by decide +kernel
theorem dX11_findAnew_39 : decode cX11_findAnew 39 = .ok (.ldc_w 421, 3) := by decide +kernel
theorem dX11_findAnew_42 : decode cX11_findAnew 42 = .ok (.invokespecial 100, 3) := by decide +kernel
theorem dX11_findAnew_45 : decode cX11_findAnew 45 = .ok (.athrow, 1) := by decide +kernel
theorem dX11_findAnew_46 : decode cX11_findAnew 46 = .ok (.aload 5, 2) := by decide +kernel
theorem dX11_findAnew_48 : decode cX11_findAnew 48 = .ok (.iload_n 2, 1) := by decide +kernel
theorem dX11_findAnew_49 : decode cX11_findAnew 49 = .ok (.iload_n 3, 1) := by decide +kernel
theorem dX11_findAnew_50 : decode cX11_findAnew 50 = .ok (.iload 4, 2) := by decide +kernel
theorem dX11_findAnew_52 : decode cX11_findAnew 52 = .ok (.invokevirtual 427, 3) := by decide +kernel
theorem dX11_findAnew_55 : decode cX11_findAnew 55 = .ok (.ireturn, 1) := by decide +kernel
def is_X11_findAnew (Rt : np_Rt) (Th : np_Th) : List (Nat × np_Op) := [(0, np_ald 1 0), (1, np_ild 1 1), (2, nw_callV 11 2 sp_X11_tableOf 2 0 0 1 6), (5, np_ast 2 5), (7, np_ald 2 5), (9, np_ifnull 19), (12, np_ild 1 2), (13, nq_call 1 sp_X11_isSlot 1 0 0 1 6), (16, nq_ifne 30), (19, nq_throw Th 0), (30, np_ild 2 4), (32, nq_if (fun x => 0 ≤ x) 46), (35, nq_throw Th 0), (46, np_ald 2 5), (48, np_ild 1 2), (49, np_ild 1 3), (50, np_ild 2 4), (52, nw_callV 6 4 sp_X6_rowByLooking 6 0 0 1 6), (55, np_ret Rt)]
set_option maxRecDepth 20000 in
theorem so_X11_findAnew {X : np_Ctx} {Rt : np_Rt} {Th : np_Th} (hX : np_ok RX11 cX11_findAnew 6 6 100 1 6 .ireturn X) (hR : ∀ st w ce sl, Rt st w ce sl → X.2.2.1 st w ce sl) (hT : ∀ i w ce sl, Th i w ce sl → X.2.2.2 i w ce sl) : ∀ q ∈ is_X11_findAnew Rt Th, np_S X q.1 q.2 :=
  List.forall_mem_cons.mpr ⟨np_s_aload_n hX dX11_findAnew_0 rfl, List.forall_mem_cons.mpr ⟨np_s_iload_n hX dX11_findAnew_1 rfl, List.forall_mem_cons.mpr ⟨np_S.mono (op := np_callV 11 2 sp_X11_tableOf 2 0 0 1 6) (np_s_callV hX C_X11_tableOf dX11_findAnew_2 (q := (RX11, TX11, 14)) rfl rfl gw977 gw63 gw974 gw976 gw18 ⟨by decide, by decide, by decide⟩ (by decide) (by decide)) nw_callV_le, List.forall_mem_cons.mpr ⟨np_s_astore hX dX11_findAnew_5 (by decide), List.forall_mem_cons.mpr ⟨np_s_aload hX dX11_findAnew_7, List.forall_mem_cons.mpr ⟨np_s_ifnull hX dX11_findAnew_9 (by decide), List.forall_mem_cons.mpr ⟨np_s_iload_n hX dX11_findAnew_12 rfl, List.forall_mem_cons.mpr ⟨np_S.mono (op := np_call 1 sp_X11_isSlot 1 0 0 1 6) (np_s_callS hX C_X11_isSlot dX11_findAnew_13 gw515 gw63 gw513 gw514 ⟨by decide, by decide, by decide⟩ (by decide) (by decide)) nq_call_le, List.forall_mem_cons.mpr ⟨np_S.mono (op := np_ifne 30) (np_s_if_ne hX dX11_findAnew_16 (by decide)) nq_ifne_le, List.forall_mem_cons.mpr ⟨np_S.mono (op := np_throw X.2.2.2 0) (np_s_throw hX ⟨96, 342, 100, _, gw516, gw78, sw1276, twX11_100, toX11_100_96, Or.inr ⟨dX11_findAnew_19, dX11_findAnew_22, dX11_findAnew_23, dX11_findAnew_26, dX11_findAnew_29⟩⟩) (nq_throw_le hT), List.forall_mem_cons.mpr ⟨np_s_iload hX dX11_findAnew_30, List.forall_mem_cons.mpr ⟨np_S.mono (op := np_if (fun x => 0 ≤ x) 46) (np_s_if_ge hX dX11_findAnew_32 (by decide)) nq_if_le, List.forall_mem_cons.mpr ⟨np_S.mono (op := np_throw X.2.2.2 0) (np_s_throw hX ⟨96, 421, 100, _, gw516, gw78, sw1457, twX11_100, toX11_100_96, Or.inr ⟨dX11_findAnew_35, dX11_findAnew_38, dX11_findAnew_39, dX11_findAnew_42, dX11_findAnew_45⟩⟩) (nq_throw_le hT), List.forall_mem_cons.mpr ⟨np_s_aload hX dX11_findAnew_46, List.forall_mem_cons.mpr ⟨np_s_iload_n hX dX11_findAnew_48 rfl, List.forall_mem_cons.mpr ⟨np_s_iload_n hX dX11_findAnew_49 rfl, List.forall_mem_cons.mpr ⟨np_s_iload hX dX11_findAnew_50, List.forall_mem_cons.mpr ⟨np_S.mono (op := np_callV 6 4 sp_X6_rowByLooking 6 0 0 1 6) (np_s_callV hX C_X6_rowByLooking dX11_findAnew_52 (q := (RX6, TX6, 12)) rfl rfl gw1469 gw72 gw1466 gw1467 gw1468 ⟨by decide, by decide, by decide⟩ (by decide) (by decide)) nw_callV_le, List.forall_mem_cons.mpr ⟨np_S.mono (op := np_ret X.2.2.1) (np_s_ret hX dX11_findAnew_55) (nq_ret_le hR), fun _ h => nomatch h⟩⟩⟩⟩⟩⟩⟩⟩⟩⟩⟩⟩⟩⟩⟩⟩⟩⟩⟩
noncomputable def m_X11_findAnew (S : pw_S) (i0 : Nat) (x1 : Int32) (x2 : Int32) (x3 : Int32) (x4 : Int32) : pw_R (Int32 ⊕ Nat) :=
 pw_b (m_X11_tableOf S i0 x1) fun S1 r4 =>
 pw_o r4 (
 (some (S1, .inr 0))) (fun j6 =>
 (pw_b (m_X11_isSlot S1 x2) fun S7 r10 =>
 if r10 = 0 then
 (some (S7, .inr 0))
 else
 (if 0 ≤ x4 then
 (pw_b (m_X6_rowByLooking S7 j6 x2 x3 x4) fun S12 r15 =>
 some (S12, .inl r15))
 else
 (some (S7, .inr 0)))))
def sp_X11_findAnew : np_SpX := fun vs w Q QX => ∃ (q : Nat) (S : pw_S) (i0 : Nat) (x1 : Int32) (x2 : Int32) (x3 : Int32) (x4 : Int32), vs = [.ref (pw_pl 61 i0), .int x1, .int x2, .int x3, .int x4] ∧ pw_ok q 61 i0 = true ∧ pw_W q w S ∧ pw_p (m_X11_findAnew S i0 x1 x2 x3 x4) (fun S' rx => ∀ f', pw_W q (w.1, f') S' → match rx with | .inl r => Q (some (.int r)) (w.1, f') | .inr e => QX e (w.1, f'))
set_option maxRecDepth 100000 in
set_option maxHeartbeats 8000000 in
theorem C_X11_findAnew : np_CX yX11_findAnew cX11_findAnew 6 (some .int) 6 100 1 6 sp_X11_findAnew := by
  refine np_ofX (by decide) (by decide) (by decide) ?_
  intro X vs w Q QX hsp hX hmn hRt hTh
  obtain ⟨q, S, i0, x1, x2, x3, x4, rfl, hi0, hW, h⟩ := hsp
  obtain ⟨n, f⟩ := w
  unfold m_X11_findAnew at h
  have hR : ∀ st w ce sl, np_rq (some .int) 1 6 Q st w ce sl → X.2.2.1 st w ce sl := fun _ _ _ _ h => by rw [hRt]; exact h
  have hT : ∀ i w ce sl, np_thq 1 6 QX i w ce sl → X.2.2.2 i w ce sl := fun _ _ _ _ h => by rw [hTh]; exact h
  refine np_soundW (so_X11_findAnew hX hR hT) [] 400 0 _ _ _ _ _ ?_
  conv => whnf
  refine np_rd_i (hW.g hi0) ?_
  conv => whnf
  refine ⟨q, S, i0, x1, rfl, hi0, hW, pw_bd h (fun S1 r4 h f2 hW3 ho5 => ?_)⟩
  rcases r4 with _ | j6
  · replace h := pw_on h
    conv => whnf
    exact ⟨Nat.le_of_ble_eq_true rfl, Nat.le_of_ble_eq_true rfl, pw_ps h _ hW3⟩
  · replace h := pw_os h
    replace ho5 : pw_ok q 54 j6 = true := ho5
    conv => whnf
    refine ⟨q, S1, x2, rfl, hW3, pw_bd h (fun S7 r10 h f8 hW9 => ?_)⟩
    conv => whnf
    refine pw_br h (fun _ h => ?_) (fun _ h => ?_)
    · conv => whnf
      exact ⟨Nat.le_of_ble_eq_true rfl, Nat.le_of_ble_eq_true rfl, pw_ps h _ hW9⟩
    · conv => whnf
      refine pw_br h (fun _ h => ?_) (fun _ h => ?_)
      · conv => whnf
        refine np_rd_i (hW9.g ho5) ?_
        conv => whnf
        refine ⟨q, S7, j6, x2, x3, x4, rfl, ho5, hW9, pw_bd h (fun S12 r15 h f13 hW14 => ?_)⟩
        conv => whnf
        exact ⟨Nat.le_of_ble_eq_true rfl, Nat.le_of_ble_eq_true rfl, trivial, pw_ps h _ hW14⟩
      · conv => whnf
        exact ⟨Nat.le_of_ble_eq_true rfl, Nat.le_of_ble_eq_true rfl, pw_ps h _ hW9⟩
