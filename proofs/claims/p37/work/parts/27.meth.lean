theorem gw34 : (Jvm.Cond.selects "NotationPress$Table" ({ cls := "NotationPress$Table", name := "addToIndex", desc := "(II)V" } : Jvm.MethodName) ({ cls := "NotationPress$Table", name := "addToIndex", desc := "(II)V" } : Jvm.MethodName)) ∈ np_gw := np_gwi 34 (by decide +kernel) rfl
theorem gw44 : (Jvm.Cond.selects "NotationPress$Upgrade" ({ cls := "NotationPress$Upgrade", name := "end", desc := "(I)I" } : Jvm.MethodName) ({ cls := "NotationPress$Upgrade", name := "end", desc := "(I)I" } : Jvm.MethodName)) ∈ np_gw := np_gwi 44 (by decide +kernel) rfl
theorem gw54 : (Jvm.Cond.selects "NotationPress$Table" ({ cls := "NotationPress$Table", name := "isLastOfKey", desc := "(II)Z" } : Jvm.MethodName) ({ cls := "NotationPress$Table", name := "isLastOfKey", desc := "(II)Z" } : Jvm.MethodName)) ∈ np_gw := np_gwi 54 (by decide +kernel) rfl
theorem gw55 : (Jvm.Cond.selects "NotationPress$Table" ({ cls := "NotationPress$Table", name := "lastRowOf", desc := "(II)I" } : Jvm.MethodName) ({ cls := "NotationPress$Table", name := "lastRowOf", desc := "(II)I" } : Jvm.MethodName)) ∈ np_gw := np_gwi 55 (by decide +kernel) rfl
theorem gw56 : (Jvm.Cond.selects "NotationPress$Table" ({ cls := "NotationPress$Table", name := "differs", desc := "(ILNotationPress$Table;I)Z" } : Jvm.MethodName) ({ cls := "NotationPress$Table", name := "differs", desc := "(ILNotationPress$Table;I)Z" } : Jvm.MethodName)) ∈ np_gw := np_gwi 56 (by decide +kernel) rfl
theorem gw74 : (Jvm.Cond.initialized "NotationPress$Upgrade") ∈ np_gw := np_gwi 74 (by decide +kernel) rfl
theorem gw212 : (Jvm.Cond.fieldLink "NotationPress$Text" (15 : Nat) "NotationPress$Text" "open" "Z") ∈ np_gw := np_gwi 212 (by decide +kernel) rfl
theorem gw347 : (Jvm.Cond.fieldLink "NotationPress$Table" (15 : Nat) "NotationPress$Table" "ledger" "[I") ∈ np_gw := np_gwi 347 (by decide +kernel) rfl
theorem gw351 : (Jvm.Cond.fieldLink "NotationPress$Table" (24 : Nat) "NotationPress$Table" "nextInBucket" "[I") ∈ np_gw := np_gwi 351 (by decide +kernel) rfl
theorem gw420 : (Jvm.Cond.fieldLink "NotationPress$Upgrade" (18 : Nat) "NotationPress$Upgrade" "ends" "[I") ∈ np_gw := np_gwi 420 (by decide +kernel) rfl
theorem gw426 : (Jvm.Cond.laysFinal "NotationPress$Upgrade" "NotationPress$Upgrade" "kinds" "[I") ∈ np_gw := np_gwi 426 (by decide +kernel) rfl
theorem gw428 : (Jvm.Cond.laysFinal "NotationPress$Upgrade" "NotationPress$Upgrade" "numbers" "[I") ∈ np_gw := np_gwi 428 (by decide +kernel) rfl
theorem gw430 : (Jvm.Cond.laysFinal "NotationPress$Upgrade" "NotationPress$Upgrade" "ends" "[I") ∈ np_gw := np_gwi 430 (by decide +kernel) rfl
theorem gw432 : (Jvm.Cond.laysFinal "NotationPress$Upgrade" "NotationPress$Upgrade" "stack" "[I") ∈ np_gw := np_gwi 432 (by decide +kernel) rfl
theorem gw434 : (Jvm.Cond.laysFinal "NotationPress$Upgrade" "NotationPress$Upgrade" "pathKinds" "[I") ∈ np_gw := np_gwi 434 (by decide +kernel) rfl
theorem gw436 : (Jvm.Cond.laysFinal "NotationPress$Upgrade" "NotationPress$Upgrade" "pathNumbers" "[I") ∈ np_gw := np_gwi 436 (by decide +kernel) rfl
theorem gw438 : (Jvm.Cond.lays "NotationPress$Upgrade" "NotationPress$Upgrade" "length" "I") ∈ np_gw := np_gwi 438 (by decide +kernel) rfl
theorem gw983 : (Jvm.Cond.methodLink "NotationPress$Text" (23 : Nat) ({ cls := "java/lang/Math", name := "max", desc := "(II)I" } : Jvm.MethodName)) ∈ np_gw := np_gwi 983 (by decide +kernel) rfl
theorem gw986 : (Jvm.Cond.methodLink "NotationPress$Text" (29 : Nat) ({ cls := "NotationPress$Text", name := "unitAt", desc := "(I)I" } : Jvm.MethodName)) ∈ np_gw := np_gwi 986 (by decide +kernel) rfl
theorem gw1104 : (Jvm.Cond.methodLink "NotationPress$Table" (80 : Nat) ({ cls := "NotationPress$Table", name := "addToIndex", desc := "(II)V" } : Jvm.MethodName)) ∈ np_gw := np_gwi 1104 (by decide +kernel) rfl
theorem gw1106 : (Jvm.Cond.instanceMethod ({ cls := "NotationPress$Table", name := "addToIndex", desc := "(II)V" } : Jvm.MethodName)) ∈ np_gw := np_gwi 1106 (by decide +kernel) rfl
theorem gw1107 : (Jvm.Cond.code ({ cls := "NotationPress$Table", name := "addToIndex", desc := "(II)V" } : Jvm.MethodName) prog_8_method_12_code (6 : Nat) (Option.none : Option Jvm.ClassFile.FieldType)) ∈ np_gw := np_gwi 1107 (by decide +kernel) rfl
theorem gw1108 : (Jvm.Cond.methodLink "NotationPress$Table" (89 : Nat) ({ cls := "NotationPress$Table", name := "key", desc := "(II)I" } : Jvm.MethodName)) ∈ np_gw := np_gwi 1108 (by decide +kernel) rfl
theorem gw1123 : (Jvm.Cond.methodLink "NotationPress$Table" (92 : Nat) ({ cls := "NotationPress$Table", name := "bucketOf", desc := "(II)I" } : Jvm.MethodName)) ∈ np_gw := np_gwi 1123 (by decide +kernel) rfl
theorem gw1124 : (Jvm.Cond.static ({ cls := "NotationPress$Table", name := "bucketOf", desc := "(II)I" } : Jvm.MethodName)) ∈ np_gw := np_gwi 1124 (by decide +kernel) rfl
theorem gw1125 : (Jvm.Cond.code ({ cls := "NotationPress$Table", name := "bucketOf", desc := "(II)I" } : Jvm.MethodName) prog_8_method_10_code (2 : Nat) (Option.some Jvm.ClassFile.FieldType.int)) ∈ np_gw := np_gwi 1125 (by decide +kernel) rfl
theorem gw1126 : (Jvm.Cond.methodLinkNest "NotationPress$Table" (85 : Nat) ({ cls := "NotationPress", name := "put", desc := "([III)V" } : Jvm.MethodName) "NotationPress") ∈ np_nw := np_nwi 1126 (by decide +kernel) rfl
theorem gw1127 : (Jvm.Cond.methodLink "NotationPress$Table" (95 : Nat) ({ cls := "NotationPress$Table", name := "linkOf", desc := "(II)I" } : Jvm.MethodName)) ∈ np_gw := np_gwi 1127 (by decide +kernel) rfl
theorem gw1128 : (Jvm.Cond.static ({ cls := "NotationPress$Table", name := "linkOf", desc := "(II)I" } : Jvm.MethodName)) ∈ np_gw := np_gwi 1128 (by decide +kernel) rfl
theorem gw1129 : (Jvm.Cond.code ({ cls := "NotationPress$Table", name := "linkOf", desc := "(II)I" } : Jvm.MethodName) prog_8_method_11_code (2 : Nat) (Option.some Jvm.ClassFile.FieldType.int)) ∈ np_gw := np_gwi 1129 (by decide +kernel) rfl
theorem gw1130 : (Jvm.Cond.constant "NotationPress$Table" (84 : Nat) (1000000 : Int32)) ∈ np_gw := np_gwi 1130 (by decide +kernel) rfl
theorem gw1320 : (Jvm.Cond.methodLinkNest "NotationPress$Upgrade" (34 : Nat) ({ cls := "NotationPress", name := "at", desc := "([III)I" } : Jvm.MethodName) "NotationPress") ∈ np_nw := np_nwi 1320 (by decide +kernel) rfl
theorem gw1364 : (Jvm.Cond.methodLink "NotationPress$Upgrade" (30 : Nat) ({ cls := "NotationPress$Upgrade", name := "end", desc := "(I)I" } : Jvm.MethodName)) ∈ np_gw := np_gwi 1364 (by decide +kernel) rfl
theorem gw1366 : (Jvm.Cond.instanceMethod ({ cls := "NotationPress$Upgrade", name := "end", desc := "(I)I" } : Jvm.MethodName)) ∈ np_gw := np_gwi 1366 (by decide +kernel) rfl
theorem gw1367 : (Jvm.Cond.code ({ cls := "NotationPress$Upgrade", name := "end", desc := "(I)I" } : Jvm.MethodName) prog_11_method_3_code (2 : Nat) (Option.some Jvm.ClassFile.FieldType.int)) ∈ np_gw := np_gwi 1367 (by decide +kernel) rfl
theorem gw1478 : (Jvm.Cond.methodLink "NotationPress$Table" (101 : Nat) ({ cls := "NotationPress$Table", name := "isLastOfKey", desc := "(II)Z" } : Jvm.MethodName)) ∈ np_gw := np_gwi 1478 (by decide +kernel) rfl
theorem gw1480 : (Jvm.Cond.instanceMethod ({ cls := "NotationPress$Table", name := "isLastOfKey", desc := "(II)Z" } : Jvm.MethodName)) ∈ np_gw := np_gwi 1480 (by decide +kernel) rfl
theorem gw1481 : (Jvm.Cond.code ({ cls := "NotationPress$Table", name := "isLastOfKey", desc := "(II)Z" } : Jvm.MethodName) prog_8_method_16_code (4 : Nat) (Option.some Jvm.ClassFile.FieldType.boolean)) ∈ np_gw := np_gwi 1481 (by decide +kernel) rfl
theorem gw1482 : (Jvm.Cond.methodLink "NotationPress$Table" (98 : Nat) ({ cls := "NotationPress$Table", name := "lastRowOf", desc := "(II)I" } : Jvm.MethodName)) ∈ np_gw := np_gwi 1482 (by decide +kernel) rfl
theorem gw1484 : (Jvm.Cond.instanceMethod ({ cls := "NotationPress$Table", name := "lastRowOf", desc := "(II)I" } : Jvm.MethodName)) ∈ np_gw := np_gwi 1484 (by decide +kernel) rfl
theorem gw1485 : (Jvm.Cond.code ({ cls := "NotationPress$Table", name := "lastRowOf", desc := "(II)I" } : Jvm.MethodName) prog_8_method_15_code (4 : Nat) (Option.some Jvm.ClassFile.FieldType.int)) ∈ np_gw := np_gwi 1485 (by decide +kernel) rfl
theorem gw1490 : (Jvm.Cond.methodLink "NotationPress$Table" (105 : Nat) ({ cls := "NotationPress$Table", name := "differs", desc := "(ILNotationPress$Table;I)Z" } : Jvm.MethodName)) ∈ np_gw := np_gwi 1490 (by decide +kernel) rfl
theorem gw1492 : (Jvm.Cond.instanceMethod ({ cls := "NotationPress$Table", name := "differs", desc := "(ILNotationPress$Table;I)Z" } : Jvm.MethodName)) ∈ np_gw := np_gwi 1492 (by decide +kernel) rfl
theorem gw1493 : (Jvm.Cond.code ({ cls := "NotationPress$Table", name := "differs", desc := "(ILNotationPress$Table;I)Z" } : Jvm.MethodName) prog_8_method_19_code (5 : Nat) (Option.some Jvm.ClassFile.FieldType.boolean)) ∈ np_gw := np_gwi 1493 (by decide +kernel) rfl
set_option maxRecDepth 20000 in
theorem guX9 : ∀ w ∈ u_ws RX9 TX9 7, w ∈ np_gw := by
  show ∀ w ∈ [(Jvm.Cond.laysFinal "NotationPress$Upgrade" "NotationPress$Upgrade" "kinds" "[I"), (Jvm.Cond.laysFinal "NotationPress$Upgrade" "NotationPress$Upgrade" "numbers" "[I"), (Jvm.Cond.laysFinal "NotationPress$Upgrade" "NotationPress$Upgrade" "ends" "[I"), (Jvm.Cond.laysFinal "NotationPress$Upgrade" "NotationPress$Upgrade" "stack" "[I"), (Jvm.Cond.laysFinal "NotationPress$Upgrade" "NotationPress$Upgrade" "pathKinds" "[I"), (Jvm.Cond.laysFinal "NotationPress$Upgrade" "NotationPress$Upgrade" "pathNumbers" "[I"), (Jvm.Cond.lays "NotationPress$Upgrade" "NotationPress$Upgrade" "length" "I")], w ∈ np_gw
  exact List.forall_mem_cons.mpr ⟨gw426, List.forall_mem_cons.mpr ⟨gw428, List.forall_mem_cons.mpr ⟨gw430, List.forall_mem_cons.mpr ⟨gw432, List.forall_mem_cons.mpr ⟨gw434, List.forall_mem_cons.mpr ⟨gw436, List.forall_mem_cons.mpr ⟨gw438, fun _ h => nomatch h⟩⟩⟩⟩⟩⟩⟩
theorem ndX9 : ∀ j, j < 7 → defaultValue (tyX9 j) = vp_V [.null, .null, .null, .null, .null, .null, .int 0] j := by decide +kernel
theorem nfX9 : ∀ v ∈ ([.null, .null, .null, .null, .null, .null, .int 0] : List Value), ∀ ad : Nat → Nat, np_v ad v = v := by
  intro v hv ad
  simp only [List.mem_cons, List.not_mem_nil, or_false] at hv
  rcases hv with rfl | rfl | rfl | rfl | rfl | rfl | rfl <;> rfl
theorem dX6_bucketOf_0 : decode cX6_bucketOf 0 = .ok (.iload_n 0, 1) := by decide +kernel
theorem dX6_bucketOf_1 : decode cX6_bucketOf 1 = .ok (.bipush 32, 2) := by decide +kernel
theorem dX6_bucketOf_3 : decode cX6_bucketOf 3 = .ok (.imul, 1) := by decide +kernel
theorem dX6_bucketOf_4 : decode cX6_bucketOf 4 = .ok (.iload_n 1, 1) := by decide +kernel
theorem dX6_bucketOf_5 : decode cX6_bucketOf 5 = .ok (.bipush 31, 2) := by decide +kernel
theorem dX6_bucketOf_7 : decode cX6_bucketOf 7 = .ok (.iand, 1) := by decide +kernel
theorem dX6_bucketOf_8 : decode cX6_bucketOf 8 = .ok (.iadd, 1) := by decide +kernel
theorem dX6_bucketOf_9 : decode cX6_bucketOf 9 = .ok (.ireturn, 1) := by decide +kernel
def is_X6_bucketOf (Rt : np_Rt) : List (Nat × np_Op) := [(0, np_ild 1 0), (1, np_push 2 (.int 32)), (3, np_ib (fun x y => x * y)), (4, np_ild 1 1), (5, np_push 2 (.int 31)), (7, np_ib (fun x y => x &&& y)), (8, np_ib (fun x y => x + y)), (9, np_ret Rt)]
set_option maxRecDepth 20000 in
theorem so_X6_bucketOf {X : np_Ctx} {Rt : np_Rt} (hX : np_ok RX6 cX6_bucketOf 2 0 0 0 0 .ireturn X) (hR : ∀ st w ce sl, Rt st w ce sl → X.2.2.1 st w ce sl) : ∀ q ∈ is_X6_bucketOf Rt, np_S X q.1 q.2 :=
  List.forall_mem_cons.mpr ⟨np_s_iload_n hX dX6_bucketOf_0 rfl, List.forall_mem_cons.mpr ⟨np_s_bipush hX dX6_bucketOf_1 (by decide), List.forall_mem_cons.mpr ⟨np_s_imul hX dX6_bucketOf_3, List.forall_mem_cons.mpr ⟨np_s_iload_n hX dX6_bucketOf_4 rfl, List.forall_mem_cons.mpr ⟨np_s_bipush hX dX6_bucketOf_5 (by decide), List.forall_mem_cons.mpr ⟨np_s_iand hX dX6_bucketOf_7, List.forall_mem_cons.mpr ⟨np_s_iadd hX dX6_bucketOf_8, List.forall_mem_cons.mpr ⟨np_S.mono (op := np_ret X.2.2.1) (np_s_ret hX dX6_bucketOf_9) (nq_ret_le hR), fun _ h => nomatch h⟩⟩⟩⟩⟩⟩⟩⟩
noncomputable def m_X6_bucketOf (S : pw_S) (x0 : Int32) (x1 : Int32) : pw_R Int32 :=
 some (S, ((x0 * 32) + (x1 &&& 31)))
def sp_X6_bucketOf : np_Sp := fun vs w Q => ∃ (q : Nat) (S : pw_S) (x0 : Int32) (x1 : Int32), vs = [.int x0, .int x1] ∧ pw_W q w S ∧ pw_p (m_X6_bucketOf S x0 x1) (fun S' r => ∀ f', pw_W q (w.1, f') S' → Q (some (.int r)) (w.1, f'))
set_option maxRecDepth 100000 in
set_option maxHeartbeats 8000000 in
theorem C_X6_bucketOf : np_C yX6_bucketOf cX6_bucketOf 2 (some .int) 0 0 0 0 sp_X6_bucketOf := by
  refine np_of (by decide) ?_
  intro X vs w Q hsp hX hmn hRt hlt
  obtain ⟨q, S, x0, x1, rfl, hW, h⟩ := hsp
  obtain ⟨n, f⟩ := w
  unfold m_X6_bucketOf at h
  have hR : ∀ st w ce sl, np_rt (some .int) 0 0 Q st w ce sl → X.2.2.1 st w ce sl := fun _ _ _ _ h => by rw [hRt]; exact h
  refine np_soundW (so_X6_bucketOf hX hR) [] 400 0 _ _ _ _ _ ?_
  conv => whnf
  exact ⟨Nat.le_of_ble_eq_true rfl, Nat.le_of_ble_eq_true rfl, ⟨_, rfl⟩, _, fun _ _ h9 => h9, pw_ps h _ hW⟩
theorem dX6_linkOf_0 : decode cX6_linkOf 0 = .ok (.iload_n 0, 1) := by decide +kernel
theorem dX6_linkOf_1 : decode cX6_linkOf 1 = .ok (.bipush 24, 2) := by decide +kernel
theorem dX6_linkOf_3 : decode cX6_linkOf 3 = .ok (.imul, 1) := by decide +kernel
theorem dX6_linkOf_4 : decode cX6_linkOf 4 = .ok (.iload_n 1, 1) := by decide +kernel
theorem dX6_linkOf_5 : decode cX6_linkOf 5 = .ok (.iadd, 1) := by decide +kernel
theorem dX6_linkOf_6 : decode cX6_linkOf 6 = .ok (.ireturn, 1) := by decide +kernel
def is_X6_linkOf (Rt : np_Rt) : List (Nat × np_Op) := [(0, np_ild 1 0), (1, np_push 2 (.int 24)), (3, np_ib (fun x y => x * y)), (4, np_ild 1 1), (5, np_ib (fun x y => x + y)), (6, np_ret Rt)]
set_option maxRecDepth 20000 in
theorem so_X6_linkOf {X : np_Ctx} {Rt : np_Rt} (hX : np_ok RX6 cX6_linkOf 2 0 0 0 0 .ireturn X) (hR : ∀ st w ce sl, Rt st w ce sl → X.2.2.1 st w ce sl) : ∀ q ∈ is_X6_linkOf Rt, np_S X q.1 q.2 :=
  List.forall_mem_cons.mpr ⟨np_s_iload_n hX dX6_linkOf_0 rfl, List.forall_mem_cons.mpr ⟨np_s_bipush hX dX6_linkOf_1 (by decide), List.forall_mem_cons.mpr ⟨np_s_imul hX dX6_linkOf_3, List.forall_mem_cons.mpr ⟨np_s_iload_n hX dX6_linkOf_4 rfl, List.forall_mem_cons.mpr ⟨np_s_iadd hX dX6_linkOf_5, List.forall_mem_cons.mpr ⟨np_S.mono (op := np_ret X.2.2.1) (np_s_ret hX dX6_linkOf_6) (nq_ret_le hR), fun _ h => nomatch h⟩⟩⟩⟩⟩⟩
noncomputable def m_X6_linkOf (S : pw_S) (x0 : Int32) (x1 : Int32) : pw_R Int32 :=
 some (S, ((x0 * 24) + x1))
def sp_X6_linkOf : np_Sp := fun vs w Q => ∃ (q : Nat) (S : pw_S) (x0 : Int32) (x1 : Int32), vs = [.int x0, .int x1] ∧ pw_W q w S ∧ pw_p (m_X6_linkOf S x0 x1) (fun S' r => ∀ f', pw_W q (w.1, f') S' → Q (some (.int r)) (w.1, f'))
set_option maxRecDepth 100000 in
set_option maxHeartbeats 8000000 in
theorem C_X6_linkOf : np_C yX6_linkOf cX6_linkOf 2 (some .int) 0 0 0 0 sp_X6_linkOf := by
  refine np_of (by decide) ?_
  intro X vs w Q hsp hX hmn hRt hlt
  obtain ⟨q, S, x0, x1, rfl, hW, h⟩ := hsp
  obtain ⟨n, f⟩ := w
  unfold m_X6_linkOf at h
  have hR : ∀ st w ce sl, np_rt (some .int) 0 0 Q st w ce sl → X.2.2.1 st w ce sl := fun _ _ _ _ h => by rw [hRt]; exact h
  refine np_soundW (so_X6_linkOf hX hR) [] 400 0 _ _ _ _ _ ?_
  conv => whnf
  exact ⟨Nat.le_of_ble_eq_true rfl, Nat.le_of_ble_eq_true rfl, ⟨_, rfl⟩, _, fun _ _ h9 => h9, pw_ps h _ hW⟩
theorem dX6_addToIndex_0 : decode cX6_addToIndex 0 = .ok (.aload_n 0, 1) := by decide +kernel
theorem dX6_addToIndex_1 : decode cX6_addToIndex 1 = .ok (.iload_n 2, 1) := by decide +kernel
theorem dX6_addToIndex_2 : decode cX6_addToIndex 2 = .ok (.iload_n 1, 1) := by decide +kernel
theorem dX6_addToIndex_3 : decode cX6_addToIndex 3 = .ok (.invokevirtual 89, 3) := by decide +kernel
theorem dX6_addToIndex_6 : decode cX6_addToIndex 6 = .ok (.istore_n 3, 1) := by decide +kernel
theorem dX6_addToIndex_7 : decode cX6_addToIndex 7 = .ok (.iload_n 3, 1) := by decide +kernel
theorem dX6_addToIndex_8 : decode cX6_addToIndex 8 = .ok (.ldc 52, 2) := by decide +kernel
theorem dX6_addToIndex_10 : decode cX6_addToIndex 10 = .ok (.if_icmp .ne 4, 3) := by decide +kernel
theorem dX6_addToIndex_13 : decode cX6_addToIndex 13 = .ok (.return_, 1) := by decide +kernel
theorem dX6_addToIndex_14 : decode cX6_addToIndex 14 = .ok (.iload_n 1, 1) := by decide +kernel
theorem dX6_addToIndex_15 : decode cX6_addToIndex 15 = .ok (.iload_n 3, 1) := by decide +kernel
theorem dX6_addToIndex_16 : decode cX6_addToIndex 16 = .ok (.invokestatic 92, 3) := by decide +kernel
theorem dX6_addToIndex_19 : decode cX6_addToIndex 19 = .ok (.istore 4, 2) := by decide +kernel
theorem dX6_addToIndex_21 : decode cX6_addToIndex 21 = .ok (.aload_n 0, 1) := by decide +kernel
theorem dX6_addToIndex_22 : decode cX6_addToIndex 22 = .ok (.getfield 21, 3) := by decide +kernel
theorem dX6_addToIndex_25 : decode cX6_addToIndex 25 = .ok (.iload 4, 2) := by decide +kernel
theorem dX6_addToIndex_27 : decode cX6_addToIndex 27 = .ok (.iconst (-1), 1) := by decide +kernel
theorem dX6_addToIndex_28 : decode cX6_addToIndex 28 = .ok (.invokestatic 53, 3) := by decide +kernel
theorem dX6_addToIndex_31 : decode cX6_addToIndex 31 = .ok (.istore 5, 2) := by decide +kernel
theorem dX6_addToIndex_33 : decode cX6_addToIndex 33 = .ok (.iload 5, 2) := by decide +kernel
theorem dX6_addToIndex_35 : decode cX6_addToIndex 35 = .ok (.iconst (-1), 1) := by decide +kernel
theorem dX6_addToIndex_36 : decode cX6_addToIndex 36 = .ok (.if_icmp .ne 16, 3) := by decide +kernel
theorem dX6_addToIndex_39 : decode cX6_addToIndex 39 = .ok (.aload_n 0, 1) := by decide +kernel
theorem dX6_addToIndex_40 : decode cX6_addToIndex 40 = .ok (.getfield 18, 3) := by decide +kernel
theorem dX6_addToIndex_43 : decode cX6_addToIndex 43 = .ok (.iload 4, 2) := by decide +kernel
theorem dX6_addToIndex_45 : decode cX6_addToIndex 45 = .ok (.iload_n 2, 1) := by decide +kernel
theorem dX6_addToIndex_46 : decode cX6_addToIndex 46 = .ok (.invokestatic 85, 3) := by decide +kernel
theorem dX6_addToIndex_49 : decode cX6_addToIndex 49 = .ok (.goto 17, 3) := by decide +kernel
theorem dX6_addToIndex_52 : decode cX6_addToIndex 52 = .ok (.aload_n 0, 1) := by decide +kernel
theorem dX6_addToIndex_53 : decode cX6_addToIndex 53 = .ok (.getfield 24, 3) := by decide +kernel
theorem dX6_addToIndex_56 : decode cX6_addToIndex 56 = .ok (.iload_n 1, 1) := by decide +kernel
theorem dX6_addToIndex_57 : decode cX6_addToIndex 57 = .ok (.iload 5, 2) := by decide +kernel
theorem dX6_addToIndex_59 : decode cX6_addToIndex 59 = .ok (.invokestatic 95, 3) := by decide +kernel
theorem dX6_addToIndex_62 : decode cX6_addToIndex 62 = .ok (.iload_n 2, 1) := by decide +kernel
theorem dX6_addToIndex_63 : decode cX6_addToIndex 63 = .ok (.invokestatic 85, 3) := by decide +kernel
theorem dX6_addToIndex_66 : decode cX6_addToIndex 66 = .ok (.aload_n 0, 1) := by decide +kernel
theorem dX6_addToIndex_67 : decode cX6_addToIndex 67 = .ok (.getfield 21, 3) := by decide +kernel
theorem dX6_addToIndex_70 : decode cX6_addToIndex 70 = .ok (.iload 4, 2) := by decide +kernel
theorem dX6_addToIndex_72 : decode cX6_addToIndex 72 = .ok (.iload_n 2, 1) := by decide +kernel
theorem dX6_addToIndex_73 : decode cX6_addToIndex 73 = .ok (.invokestatic 85, 3) := by decide +kernel
theorem dX6_addToIndex_76 : decode cX6_addToIndex 76 = .ok (.aload_n 0, 1) := by decide +kernel
theorem dX6_addToIndex_77 : decode cX6_addToIndex 77 = .ok (.getfield 24, 3) := by decide +kernel
theorem dX6_addToIndex_80 : decode cX6_addToIndex 80 = .ok (.iload_n 1, 1) := by decide +kernel
theorem dX6_addToIndex_81 : decode cX6_addToIndex 81 = .ok (.iload_n 2, 1) := by decide +kernel
theorem dX6_addToIndex_82 : decode cX6_addToIndex 82 = .ok (.invokestatic 95, 3) := by decide +kernel
theorem dX6_addToIndex_85 : decode cX6_addToIndex 85 = .ok (.iconst (-1), 1) := by decide +kernel
theorem dX6_addToIndex_86 : decode cX6_addToIndex 86 = .ok (.invokestatic 85, 3) := by decide +kernel
theorem dX6_addToIndex_89 : decode cX6_addToIndex 89 = .ok (.return_, 1) := by decide +kernel
def is_X6_addToIndex (Rt : np_Rt) : List (Nat × np_Op) := [(0, np_ald 1 0), (1, np_ild 1 2), (2, np_ild 1 1), (3, nw_callV 6 3 sp_X6_key 3 0 0 0 0), (6, nw_ist 1 3), (7, np_ild 1 3), (8, np_push 2 (.int (-2147483648))), (10, nq_icne 14), (13, np_ret Rt), (14, np_ild 1 1), (15, np_ild 1 3), (16, nq_call 2 sp_X6_bucketOf 2 0 0 0 0), (19, nw_ist 2 4), (21, np_ald 1 0), (22, nw_getf 6 3), (25, np_ild 2 4), (27, np_push 1 (.int (-1))), (28, nq_call 3 sp_X11_at 3 0 0 0 0), (31, nw_ist 2 5), (33, np_ild 2 5), (35, np_push 1 (.int (-1))), (36, nq_icne 52), (39, np_ald 1 0), (40, nw_getf 6 2), (43, np_ild 2 4), (45, np_ild 1 2), (46, nq_call 3 sp_X11_put 3 0 0 0 0), (49, np_goto 66), (52, np_ald 1 0), (53, nw_getf 6 4), (56, np_ild 1 1), (57, np_ild 2 5), (59, nq_call 2 sp_X6_linkOf 2 0 0 0 0), (62, np_ild 1 2), (63, nq_call 3 sp_X11_put 3 0 0 0 0), (66, np_ald 1 0), (67, nw_getf 6 3), (70, np_ild 2 4), (72, np_ild 1 2), (73, nq_call 3 sp_X11_put 3 0 0 0 0), (76, np_ald 1 0), (77, nw_getf 6 4), (80, np_ild 1 1), (81, np_ild 1 2), (82, nq_call 2 sp_X6_linkOf 2 0 0 0 0), (85, np_push 1 (.int (-1))), (86, nq_call 3 sp_X11_put 3 0 0 0 0), (89, np_ret Rt)]
set_option maxRecDepth 20000 in
theorem so_X6_addToIndex {X : np_Ctx} {Rt : np_Rt} (hX : np_ok RX6 cX6_addToIndex 6 3 66 0 0 .return_ X) (hR : ∀ st w ce sl, Rt st w ce sl → X.2.2.1 st w ce sl) : ∀ q ∈ is_X6_addToIndex Rt, np_S X q.1 q.2 :=
  List.forall_mem_cons.mpr ⟨np_s_aload_n hX dX6_addToIndex_0 rfl, List.forall_mem_cons.mpr ⟨np_s_iload_n hX dX6_addToIndex_1 rfl, List.forall_mem_cons.mpr ⟨np_s_iload_n hX dX6_addToIndex_2 rfl, List.forall_mem_cons.mpr ⟨np_S.mono (op := np_callV 6 3 sp_X6_key 3 0 0 0 0) (np_s_callV hX C_X6_key dX6_addToIndex_3 (q := (RX6, TX6, 12)) rfl rfl gw1111 gw72 gw1108 gw1109 gw1110 ⟨by decide, by decide, by decide⟩ (by decide) (by decide)) nw_callV_le, List.forall_mem_cons.mpr ⟨np_S.mono (op := np_ist 1 3) (np_s_istore_n hX dX6_addToIndex_6 rfl (by decide)) nw_ist_le, List.forall_mem_cons.mpr ⟨np_s_iload_n hX dX6_addToIndex_7 rfl, List.forall_mem_cons.mpr ⟨np_s_ldc hX dX6_addToIndex_8 gw1121, List.forall_mem_cons.mpr ⟨np_S.mono (op := np_icne 14) (np_s_icmp_ne hX dX6_addToIndex_10 (by decide)) nq_icne_le, List.forall_mem_cons.mpr ⟨np_S.mono (op := np_ret X.2.2.1) (np_s_ret hX dX6_addToIndex_13) (nq_ret_le hR), List.forall_mem_cons.mpr ⟨np_s_iload_n hX dX6_addToIndex_14 rfl, List.forall_mem_cons.mpr ⟨np_s_iload_n hX dX6_addToIndex_15 rfl, List.forall_mem_cons.mpr ⟨np_S.mono (op := np_call 2 sp_X6_bucketOf 2 0 0 0 0) (np_s_callS hX C_X6_bucketOf dX6_addToIndex_16 gw1125 gw72 gw1123 gw1124 ⟨by decide, by decide, by decide⟩ (by decide) (by decide)) nq_call_le, List.forall_mem_cons.mpr ⟨np_S.mono (op := np_ist 2 4) (np_s_istore hX dX6_addToIndex_19 (by decide)) nw_ist_le, List.forall_mem_cons.mpr ⟨np_s_aload_n hX dX6_addToIndex_21 rfl, List.forall_mem_cons.mpr ⟨np_S.mono (op := np_getf 6 3) (np_s_getf hX dX6_addToIndex_22 (C := RX6) (T := TX6) (N := 12) rfl guX6 (by decide) gw350) nw_getf_le, List.forall_mem_cons.mpr ⟨np_s_iload hX dX6_addToIndex_25, List.forall_mem_cons.mpr ⟨np_s_iconst hX dX6_addToIndex_27 (by decide), List.forall_mem_cons.mpr ⟨np_S.mono (op := np_call 3 sp_X11_at 3 0 0 0 0) (np_s_callSN hX C_X11_at dX6_addToIndex_28 gw653 gw63 gw1122 gw652 ⟨by decide, by decide, by decide⟩ (by decide) (by decide)) nq_call_le, List.forall_mem_cons.mpr ⟨np_S.mono (op := np_ist 2 5) (np_s_istore hX dX6_addToIndex_31 (by decide)) nw_ist_le, List.forall_mem_cons.mpr ⟨np_s_iload hX dX6_addToIndex_33, List.forall_mem_cons.mpr ⟨np_s_iconst hX dX6_addToIndex_35 (by decide), List.forall_mem_cons.mpr ⟨np_S.mono (op := np_icne 52) (np_s_icmp_ne hX dX6_addToIndex_36 (by decide)) nq_icne_le, List.forall_mem_cons.mpr ⟨np_s_aload_n hX dX6_addToIndex_39 rfl, List.forall_mem_cons.mpr ⟨np_S.mono (op := np_getf 6 2) (np_s_getf hX dX6_addToIndex_40 (C := RX6) (T := TX6) (N := 12) rfl guX6 (by decide) gw349) nw_getf_le, List.forall_mem_cons.mpr ⟨np_s_iload hX dX6_addToIndex_43, List.forall_mem_cons.mpr ⟨np_s_iload_n hX dX6_addToIndex_45 rfl, List.forall_mem_cons.mpr ⟨np_S.mono (op := np_call 3 sp_X11_put 3 0 0 0 0) (np_s_callSN hX C_X11_put dX6_addToIndex_46 gw632 gw63 gw1126 gw631 ⟨by decide, by decide, by decide⟩ (by decide) (by decide)) nq_call_le, List.forall_mem_cons.mpr ⟨np_s_goto hX dX6_addToIndex_49 (by decide), List.forall_mem_cons.mpr ⟨np_s_aload_n hX dX6_addToIndex_52 rfl, List.forall_mem_cons.mpr ⟨np_S.mono (op := np_getf 6 4) (np_s_getf hX dX6_addToIndex_53 (C := RX6) (T := TX6) (N := 12) rfl guX6 (by decide) gw351) nw_getf_le, List.forall_mem_cons.mpr ⟨np_s_iload_n hX dX6_addToIndex_56 rfl, List.forall_mem_cons.mpr ⟨np_s_iload hX dX6_addToIndex_57, List.forall_mem_cons.mpr ⟨np_S.mono (op := np_call 2 sp_X6_linkOf 2 0 0 0 0) (np_s_callS hX C_X6_linkOf dX6_addToIndex_59 gw1129 gw72 gw1127 gw1128 ⟨by decide, by decide, by decide⟩ (by decide) (by decide)) nq_call_le, List.forall_mem_cons.mpr ⟨np_s_iload_n hX dX6_addToIndex_62 rfl, List.forall_mem_cons.mpr ⟨np_S.mono (op := np_call 3 sp_X11_put 3 0 0 0 0) (np_s_callSN hX C_X11_put dX6_addToIndex_63 gw632 gw63 gw1126 gw631 ⟨by decide, by decide, by decide⟩ (by decide) (by decide)) nq_call_le, List.forall_mem_cons.mpr ⟨np_s_aload_n hX dX6_addToIndex_66 rfl, List.forall_mem_cons.mpr ⟨np_S.mono (op := np_getf 6 3) (np_s_getf hX dX6_addToIndex_67 (C := RX6) (T := TX6) (N := 12) rfl guX6 (by decide) gw350) nw_getf_le, List.forall_mem_cons.mpr ⟨np_s_iload hX dX6_addToIndex_70, List.forall_mem_cons.mpr ⟨np_s_iload_n hX dX6_addToIndex_72 rfl, List.forall_mem_cons.mpr ⟨np_S.mono (op := np_call 3 sp_X11_put 3 0 0 0 0) (np_s_callSN hX C_X11_put dX6_addToIndex_73 gw632 gw63 gw1126 gw631 ⟨by decide, by decide, by decide⟩ (by decide) (by decide)) nq_call_le, List.forall_mem_cons.mpr ⟨np_s_aload_n hX dX6_addToIndex_76 rfl, List.forall_mem_cons.mpr ⟨np_S.mono (op := np_getf 6 4) (np_s_getf hX dX6_addToIndex_77 (C := RX6) (T := TX6) (N := 12) rfl guX6 (by decide) gw351) nw_getf_le, List.forall_mem_cons.mpr ⟨np_s_iload_n hX dX6_addToIndex_80 rfl, List.forall_mem_cons.mpr ⟨np_s_iload_n hX dX6_addToIndex_81 rfl, List.forall_mem_cons.mpr ⟨np_S.mono (op := np_call 2 sp_X6_linkOf 2 0 0 0 0) (np_s_callS hX C_X6_linkOf dX6_addToIndex_82 gw1129 gw72 gw1127 gw1128 ⟨by decide, by decide, by decide⟩ (by decide) (by decide)) nq_call_le, List.forall_mem_cons.mpr ⟨np_s_iconst hX dX6_addToIndex_85 (by decide), List.forall_mem_cons.mpr ⟨np_S.mono (op := np_call 3 sp_X11_put 3 0 0 0 0) (np_s_callSN hX C_X11_put dX6_addToIndex_86 gw632 gw63 gw1126 gw631 ⟨by decide, by decide, by decide⟩ (by decide) (by decide)) nq_call_le, List.forall_mem_cons.mpr ⟨np_S.mono (op := np_ret X.2.2.1) (np_s_ret hX dX6_addToIndex_89) (nq_ret_le hR), fun _ h => nomatch h⟩⟩⟩⟩⟩⟩⟩⟩⟩⟩⟩⟩⟩⟩⟩⟩⟩⟩⟩⟩⟩⟩⟩⟩⟩⟩⟩⟩⟩⟩⟩⟩⟩⟩⟩⟩⟩⟩⟩⟩⟩⟩⟩⟩⟩⟩⟩⟩
noncomputable def m_X6_addToIndex (S : pw_S) (i0 : Nat) (x1 : Int32) (x2 : Int32) : pw_R Unit :=
 pw_b (m_X6_key S i0 x2 x1) fun S1 r4 =>
 pw_l (r4 : Int32) fun z6 =>
 if z6 = (-2147483648) then
 (some (S1, ()))
 else
 (pw_b (m_X6_bucketOf S1 x1 z6) fun S7 r10 =>
 pw_l (r10 : Int32) fun z12 =>
 pw_b (m_X11_at S7 15 i0 z12 (-1)) fun S13 r16 =>
 pw_l (r16 : Int32) fun z18 =>
 if z18 = (-1) then
 (pw_b (m_X11_put S13 14 i0 z12 x2) fun S19 r22 =>
 pw_b (m_X11_put S19 15 i0 z12 x2) fun S24 r27 =>
 pw_b (m_X6_linkOf S24 x1 x2) fun S29 r32 =>
 pw_b (m_X11_put S29 16 i0 r32 (-1)) fun S34 r37 =>
 some (S34, ()))
 else
 (pw_b (m_X6_linkOf S13 x1 z18) fun S39 r42 =>
 pw_b (m_X11_put S39 16 i0 r42 x2) fun S44 r47 =>
 pw_b (m_X11_put S44 15 i0 z12 x2) fun S49 r52 =>
 pw_b (m_X6_linkOf S49 x1 x2) fun S54 r57 =>
 pw_b (m_X11_put S54 16 i0 r57 (-1)) fun S59 r62 =>
 some (S59, ())))
def sp_X6_addToIndex : np_Sp := fun vs w Q => ∃ (q : Nat) (S : pw_S) (i0 : Nat) (x1 : Int32) (x2 : Int32), vs = [.ref (pw_pl 54 i0), .int x1, .int x2] ∧ pw_ok q 54 i0 = true ∧ pw_W q w S ∧ pw_p (m_X6_addToIndex S i0 x1 x2) (fun S' r => ∀ f', pw_W q (w.1, f') S' → Q none (w.1, f'))
set_option maxRecDepth 100000 in
set_option maxHeartbeats 8000000 in
theorem C_X6_addToIndex : np_C yX6_addToIndex cX6_addToIndex 6 none 3 66 0 0 sp_X6_addToIndex := by
  refine np_of (by decide) ?_
  intro X vs w Q hsp hX hmn hRt hlt
  obtain ⟨q, S, i0, x1, x2, rfl, hi0, hW, h⟩ := hsp
  obtain ⟨n, f⟩ := w
  unfold m_X6_addToIndex at h
  have hR : ∀ st w ce sl, np_rt none 0 0 Q st w ce sl → X.2.2.1 st w ce sl := fun _ _ _ _ h => by rw [hRt]; exact h
  refine np_soundW (so_X6_addToIndex hX hR) [] 400 0 _ _ _ _ _ ?_
  conv => whnf
  refine np_rd_i (hW.g hi0) ?_
  conv => whnf
  refine ⟨q, S, i0, x2, x1, rfl, hi0, hW, pw_bd h (fun S1 r4 h f2 hW3 => ?_)⟩
  conv => whnf
  refine pw_st h (fun z6 h => ?_)
  conv => whnf
  refine pw_br h (fun _ h => ?_) (fun _ h => ?_)
  · conv => whnf
    exact ⟨Nat.le_of_ble_eq_true rfl, Nat.le_of_ble_eq_true rfl, rfl, _, fun _ _ h9 => h9, pw_ps h _ hW3⟩
  · conv => whnf
    refine ⟨q, S1, x1, z6, rfl, hW3, pw_bd h (fun S7 r10 h f8 hW9 => ?_)⟩
    conv => whnf
    refine pw_st h (fun z12 h => ?_)
    conv => whnf
    refine np_rd_i (hW9.g hi0) ?_
    conv => whnf
    refine ⟨q, S7, 15, i0, z12, (-1), rfl, rfl, hi0, hW9, pw_bd h (fun S13 r16 h f14 hW15 => ?_)⟩
    conv => whnf
    refine pw_st h (fun z18 h => ?_)
    conv => whnf
    refine pw_br h (fun _ h => ?_) (fun _ h => ?_)
    · conv => whnf
      refine np_rd_i (hW15.g hi0) ?_
      conv => whnf
      refine ⟨q, S13, 14, i0, z12, x2, rfl, rfl, hi0, hW15, pw_bd h (fun S19 r22 h f20 hW21 => ?_)⟩
      conv => whnf
      refine np_rd_i (hW21.g hi0) ?_
      conv => whnf
      refine ⟨q, S19, 15, i0, z12, x2, rfl, rfl, hi0, hW21, pw_bd h (fun S24 r27 h f25 hW26 => ?_)⟩
      conv => whnf
      refine np_rd_i (hW26.g hi0) ?_
      conv => whnf
      refine ⟨q, S24, x1, x2, rfl, hW26, pw_bd h (fun S29 r32 h f30 hW31 => ?_)⟩
      conv => whnf
      refine ⟨q, S29, 16, i0, r32, (-1), rfl, rfl, hi0, hW31, pw_bd h (fun S34 r37 h f35 hW36 => ?_)⟩
      conv => whnf
      exact ⟨Nat.le_of_ble_eq_true rfl, Nat.le_of_ble_eq_true rfl, rfl, _, fun _ _ h9 => h9, pw_ps h _ hW36⟩
    · conv => whnf
      refine np_rd_i (hW15.g hi0) ?_
      conv => whnf
      refine ⟨q, S13, x1, z18, rfl, hW15, pw_bd h (fun S39 r42 h f40 hW41 => ?_)⟩
      conv => whnf
      refine ⟨q, S39, 16, i0, r42, x2, rfl, rfl, hi0, hW41, pw_bd h (fun S44 r47 h f45 hW46 => ?_)⟩
      conv => whnf
      refine np_rd_i (hW46.g hi0) ?_
      conv => whnf
      refine ⟨q, S44, 15, i0, z12, x2, rfl, rfl, hi0, hW46, pw_bd h (fun S49 r52 h f50 hW51 => ?_)⟩
      conv => whnf
      refine np_rd_i (hW51.g hi0) ?_
      conv => whnf
      refine ⟨q, S49, x1, x2, rfl, hW51, pw_bd h (fun S54 r57 h f55 hW56 => ?_)⟩
      conv => whnf
      refine ⟨q, S54, 16, i0, r57, (-1), rfl, rfl, hi0, hW56, pw_bd h (fun S59 r62 h f60 hW61 => ?_)⟩
      conv => whnf
      exact ⟨Nat.le_of_ble_eq_true rfl, Nat.le_of_ble_eq_true rfl, rfl, _, fun _ _ h9 => h9, pw_ps h _ hW61⟩
theorem dX6_endLine_0 : decode cX6_endLine 0 = .ok (.aload_n 0, 1) := by decide +kernel
theorem dX6_endLine_1 : decode cX6_endLine 1 = .ok (.getfield 64, 3) := by decide +kernel
theorem dX6_endLine_4 : decode cX6_endLine 4 = .ok (.ifCond .le 11, 3) := by decide +kernel
theorem dX6_endLine_7 : decode cX6_endLine 7 = .ok (.iload_n 1, 1) := by decide +kernel
theorem dX6_endLine_8 : decode cX6_endLine 8 = .ok (.ifCond .ne 7, 3) := by decide +kernel
theorem dX6_endLine_11 : decode cX6_endLine 11 = .ok (.iconst 1, 1) := by decide +kernel
theorem dX6_endLine_12 : decode cX6_endLine 12 = .ok (.goto 4, 3) := by decide +kernel
theorem dX6_endLine_15 : decode cX6_endLine 15 = .ok (.iconst 0, 1) := by decide +kernel
theorem dX6_endLine_16 : decode cX6_endLine 16 = .ok (.istore_n 3, 1) := by decide +kernel
theorem dX6_endLine_17 : decode cX6_endLine 17 = .ok (.iload_n 3, 1) := by decide +kernel
theorem dX6_endLine_18 : decode cX6_endLine 18 = .ok (.ifCond .eq 62, 3) := by decide +kernel
theorem dX6_endLine_21 : decode cX6_endLine 21 = .ok (.aload_n 0, 1) := by decide +kernel
theorem dX6_endLine_22 : decode cX6_endLine 22 = .ok (.dup, 1) := by decide +kernel
theorem dX6_endLine_23 : decode cX6_endLine 23 = .ok (.getfield 39, 3) := by decide +kernel
theorem dX6_endLine_26 : decode cX6_endLine 26 = .ok (.iconst 1, 1) := by decide +kernel
theorem dX6_endLine_27 : decode cX6_endLine 27 = .ok (.iadd, 1) := by decide +kernel
theorem dX6_endLine_28 : decode cX6_endLine 28 = .ok (.putfield 39, 3) := by decide +kernel
theorem dX6_endLine_31 : decode cX6_endLine 31 = .ok (.aload_n 0, 1) := by decide +kernel
theorem dX6_endLine_32 : decode cX6_endLine 32 = .ok (.getfield 64, 3) := by decide +kernel
theorem dX6_endLine_35 : decode cX6_endLine 35 = .ok (.iconst 1, 1) := by decide +kernel
theorem dX6_endLine_36 : decode cX6_endLine 36 = .ok (.if_icmp .le 13, 3) := by decide +kernel
theorem dX6_endLine_39 : decode cX6_endLine 39 = .ok (.aload_n 0, 1) := by decide +kernel
theorem dX6_endLine_40 : decode cX6_endLine 40 = .ok (.dup, 1) := by decide +kernel
theorem dX6_endLine_41 : decode cX6_endLine 41 = .ok (.getfield 42, 3) := by decide +kernel
theorem dX6_endLine_44 : decode cX6_endLine 44 = .ok (.iconst 1, 1) := by decide +kernel
theorem dX6_endLine_45 : decode cX6_endLine 45 = .ok (.iadd, 1) := by decide +kernel
theorem dX6_endLine_46 : decode cX6_endLine 46 = .ok (.putfield 42, 3) := by decide +kernel
theorem dX6_endLine_49 : decode cX6_endLine 49 = .ok (.iconst 0, 1) := by decide +kernel
theorem dX6_endLine_50 : decode cX6_endLine 50 = .ok (.istore 4, 2) := by decide +kernel
theorem dX6_endLine_52 : decode cX6_endLine 52 = .ok (.iload 4, 2) := by decide +kernel
theorem dX6_endLine_54 : decode cX6_endLine 54 = .ok (.bipush 8, 2) := by decide +kernel
theorem dX6_endLine_56 : decode cX6_endLine 56 = .ok (.if_icmp .ge 21, 3) := by decide +kernel
theorem dX6_endLine_59 : decode cX6_endLine 59 = .ok (.aload_n 0, 1) := by decide +kernel
theorem dX6_endLine_60 : decode cX6_endLine 60 = .ok (.iload 4, 2) := by decide +kernel
theorem dX6_endLine_62 : decode cX6_endLine 62 = .ok (.aload_n 0, 1) := by decide +kernel
theorem dX6_endLine_63 : decode cX6_endLine 63 = .ok (.getfield 39, 3) := by decide +kernel
theorem dX6_endLine_66 : decode cX6_endLine 66 = .ok (.iconst 1, 1) := by decide +kernel
theorem dX6_endLine_67 : decode cX6_endLine 67 = .ok (.isub, 1) := by decide +kernel
theorem dX6_endLine_68 : decode cX6_endLine 68 = .ok (.invokevirtual 80, 3) := by decide +kernel
theorem dX6_endLine_71 : decode cX6_endLine 71 = .ok (.iinc 4 1, 3) := by decide +kernel
theorem dX6_endLine_74 : decode cX6_endLine 74 = .ok (.goto (-22), 3) := by decide +kernel
theorem dX6_endLine_77 : decode cX6_endLine 77 = .ok (.goto 51, 3) := by decide +kernel
theorem dX6_endLine_80 : decode cX6_endLine 80 = .ok (.aload_n 0, 1) := by decide +kernel
theorem dX6_endLine_81 : decode cX6_endLine 81 = .ok (.getfield 15, 3) := by decide +kernel
theorem dX6_endLine_84 : decode cX6_endLine 84 = .ok (.aload_n 0, 1) := by decide +kernel
theorem dX6_endLine_85 : decode cX6_endLine 85 = .ok (.getfield 45, 3) := by decide +kernel
theorem dX6_endLine_88 : decode cX6_endLine 88 = .ok (.ldc 84, 2) := by decide +kernel
theorem dX6_endLine_90 : decode cX6_endLine 90 = .ok (.iload_n 1, 1) := by decide +kernel
theorem dX6_endLine_91 : decode cX6_endLine 91 = .ok (.ifCond .eq 8, 3) := by decide +kernel
theorem dX6_endLine_94 : decode cX6_endLine 94 = .ok (.bipush 100, 2) := by decide +kernel
theorem dX6_endLine_96 : decode cX6_endLine 96 = .ok (.goto 7, 3) := by decide +kernel
theorem dX6_endLine_99 : decode cX6_endLine 99 = .ok (.aload_n 0, 1) := by decide +kernel
theorem dX6_endLine_100 : decode cX6_endLine 100 = .ok (.getfield 67, 3) := by decide +kernel
theorem dX6_endLine_103 : decode cX6_endLine 103 = .ok (.imul, 1) := by decide +kernel
theorem dX6_endLine_104 : decode cX6_endLine 104 = .ok (.sipush 1000, 3) := by decide +kernel
theorem dX6_endLine_107 : decode cX6_endLine 107 = .ok (.aload_n 0, 1) := by decide +kernel
theorem dX6_endLine_108 : decode cX6_endLine 108 = .ok (.getfield 35, 3) := by decide +kernel
theorem dX6_endLine_111 : decode cX6_endLine 111 = .ok (.imul, 1) := by decide +kernel
theorem dX6_endLine_112 : decode cX6_endLine 112 = .ok (.iadd, 1) := by decide +kernel
theorem dX6_endLine_113 : decode cX6_endLine 113 = .ok (.iload_n 2, 1) := by decide +kernel
theorem dX6_endLine_114 : decode cX6_endLine 114 = .ok (.iadd, 1) := by decide +kernel
theorem dX6_endLine_115 : decode cX6_endLine 115 = .ok (.invokestatic 85, 3) := by decide +kernel
theorem dX6_endLine_118 : decode cX6_endLine 118 = .ok (.aload_n 0, 1) := by decide +kernel
theorem dX6_endLine_119 : decode cX6_endLine 119 = .ok (.dup, 1) := by decide +kernel
theorem dX6_endLine_120 : decode cX6_endLine 120 = .ok (.getfield 45, 3) := by decide +kernel
theorem dX6_endLine_123 : decode cX6_endLine 123 = .ok (.iconst 1, 1) := by decide +kernel
theorem dX6_endLine_124 : decode cX6_endLine 124 = .ok (.iadd, 1) := by decide +kernel
theorem dX6_endLine_125 : decode cX6_endLine 125 = .ok (.putfield 45, 3) := by decide +kernel
theorem dX6_endLine_128 : decode cX6_endLine 128 = .ok (.aload_n 0, 1) := by decide +kernel
theorem dX6_endLine_129 : decode cX6_endLine 129 = .ok (.iload_n 2, 1) := by decide +kernel
theorem dX6_endLine_130 : decode cX6_endLine 130 = .ok (.putfield 35, 3) := by decide +kernel
theorem dX6_endLine_133 : decode cX6_endLine 133 = .ok (.iload_n 3, 1) := by decide +kernel
theorem dX6_endLine_134 : decode cX6_endLine 134 = .ok (.ireturn, 1) := by decide +kernel
def is_X6_endLine (Rt : np_Rt) : List (Nat × np_Op) := [(0, np_ald 1 0), (1, nw_getf 6 10), (4, nq_if (fun x => x ≤ 0) 15), (7, np_ild 1 1), (8, nq_ifne 15), (11, np_push 1 (.int 1)), (12, np_goto 16), (15, np_push 1 (.int 0)), (16, nw_ist 1 3), (17, np_ild 1 3), (18, nq_if (fun x => x = 0) 80), (21, np_ald 1 0), (22, nq_dup), (23, nw_getf 6 7), (26, np_push 1 (.int 1)), (27, np_ib (fun x y => x + y)), (28, nw_putf 6 7 (.int)), (31, np_ald 1 0), (32, nw_getf 6 10), (35, np_push 1 (.int 1)), (36, nq_ic (fun x y => x ≤ y) 49), (39, np_ald 1 0), (40, nq_dup), (41, nw_getf 6 8), (44, np_push 1 (.int 1)), (45, np_ib (fun x y => x + y)), (46, nw_putf 6 8 (.int)), (49, np_push 1 (.int 0)), (50, nw_ist 2 4), (52, np_ild 2 4), (54, np_push 2 (.int 8)), (56, nq_ic (fun x y => y ≤ x) 77), (59, np_ald 1 0), (60, np_ild 2 4), (62, np_ald 1 0), (63, nw_getf 6 7), (66, np_push 1 (.int 1)), (67, np_ib (fun x y => x - y)), (68, nw_callV 6 3 sp_X6_addToIndex 6 0 0 0 0), (71, nw_iinc 4 1), (74, np_goto 52), (77, np_goto 128), (80, np_ald 1 0), (81, nw_getf 6 1), (84, np_ald 1 0), (85, nw_getf 6 9), (88, np_push 2 (.int 1000000)), (90, np_ild 1 1), (91, nq_if (fun x => x = 0) 99), (94, np_push 2 (.int 100)), (96, np_goto 103), (99, np_ald 1 0), (100, nw_getf 6 11), (103, np_ib (fun x y => x * y)), (104, np_push 3 (.int 1000)), (107, np_ald 1 0), (108, nw_getf 6 6), (111, np_ib (fun x y => x * y)), (112, np_ib (fun x y => x + y)), (113, np_ild 1 2), (114, np_ib (fun x y => x + y)), (115, nq_call 3 sp_X11_put 3 0 0 0 0), (118, np_ald 1 0), (119, nq_dup), (120, nw_getf 6 9), (123, np_push 1 (.int 1)), (124, np_ib (fun x y => x + y)), (125, nw_putf 6 9 (.int)), (128, np_ald 1 0), (129, np_ild 1 2), (130, nw_putf 6 6 (.int)), (133, np_ild 1 3), (134, np_ret Rt)]
set_option maxRecDepth 20000 in
theorem so_X6_endLine {X : np_Ctx} {Rt : np_Rt} (hX : np_ok RX6 cX6_endLine 5 4 91 0 0 .ireturn X) (hR : ∀ st w ce sl, Rt st w ce sl → X.2.2.1 st w ce sl) : ∀ q ∈ is_X6_endLine Rt, np_S X q.1 q.2 :=
  List.forall_mem_cons.mpr ⟨np_s_aload_n hX dX6_endLine_0 rfl, List.forall_mem_cons.mpr ⟨np_S.mono (op := np_getf 6 10) (np_s_getf hX dX6_endLine_1 (C := RX6) (T := TX6) (N := 12) rfl guX6 (by decide) gw362) nw_getf_le, List.forall_mem_cons.mpr ⟨np_S.mono (op := np_if (fun x => x ≤ 0) 15) (np_s_if_le hX dX6_endLine_4 (by decide)) nq_if_le, List.forall_mem_cons.mpr ⟨np_s_iload_n hX dX6_endLine_7 rfl, List.forall_mem_cons.mpr ⟨np_S.mono (op := np_ifne 15) (np_s_if_ne hX dX6_endLine_8 (by decide)) nq_ifne_le, List.forall_mem_cons.mpr ⟨np_s_iconst hX dX6_endLine_11 (by decide), List.forall_mem_cons.mpr ⟨np_s_goto hX dX6_endLine_12 (by decide), List.forall_mem_cons.mpr ⟨np_s_iconst hX dX6_endLine_15 (by decide), List.forall_mem_cons.mpr ⟨np_S.mono (op := np_ist 1 3) (np_s_istore_n hX dX6_endLine_16 rfl (by decide)) nw_ist_le, List.forall_mem_cons.mpr ⟨np_s_iload_n hX dX6_endLine_17 rfl, List.forall_mem_cons.mpr ⟨np_S.mono (op := np_if (fun x => x = 0) 80) (np_s_if_eq hX dX6_endLine_18 (by decide)) nq_if_le, List.forall_mem_cons.mpr ⟨np_s_aload_n hX dX6_endLine_21 rfl, List.forall_mem_cons.mpr ⟨np_S.mono (op := np_dup) (np_s_dup hX dX6_endLine_22) nq_dup_le, List.forall_mem_cons.mpr ⟨np_S.mono (op := np_getf 6 7) (np_s_getf hX dX6_endLine_23 (C := RX6) (T := TX6) (N := 12) rfl guX6 (by decide) gw356) nw_getf_le, List.forall_mem_cons.mpr ⟨np_s_iconst hX dX6_endLine_26 (by decide), List.forall_mem_cons.mpr ⟨np_s_iadd hX dX6_endLine_27, List.forall_mem_cons.mpr ⟨np_S.mono (op := np_putf 6 7 (.int)) (np_s_putf hX dX6_endLine_28 (C := RX6) (T := TX6) (N := 12) (ty0 := tyX6) rfl guX6 tyX6_ok nmX6 (by decide) gw356 rfl rfl) nw_putf_le, List.forall_mem_cons.mpr ⟨np_s_aload_n hX dX6_endLine_31 rfl, List.forall_mem_cons.mpr ⟨np_S.mono (op := np_getf 6 10) (np_s_getf hX dX6_endLine_32 (C := RX6) (T := TX6) (N := 12) rfl guX6 (by decide) gw362) nw_getf_le, List.forall_mem_cons.mpr ⟨np_s_iconst hX dX6_endLine_35 (by decide), List.forall_mem_cons.mpr ⟨np_S.mono (op := np_ic (fun x y => x ≤ y) 49) (np_s_icmp_le hX dX6_endLine_36 (by decide)) nq_ic_le, List.forall_mem_cons.mpr ⟨np_s_aload_n hX dX6_endLine_39 rfl, List.forall_mem_cons.mpr ⟨np_S.mono (op := np_dup) (np_s_dup hX dX6_endLine_40) nq_dup_le, List.forall_mem_cons.mpr ⟨np_S.mono (op := np_getf 6 8) (np_s_getf hX dX6_endLine_41 (C := RX6) (T := TX6) (N := 12) rfl guX6 (by decide) gw358) nw_getf_le, List.forall_mem_cons.mpr ⟨np_s_iconst hX dX6_endLine_44 (by decide), List.forall_mem_cons.mpr ⟨np_s_iadd hX dX6_endLine_45, List.forall_mem_cons.mpr ⟨np_S.mono (op := np_putf 6 8 (.int)) (np_s_putf hX dX6_endLine_46 (C := RX6) (T := TX6) (N := 12) (ty0 := tyX6) rfl guX6 tyX6_ok nmX6 (by decide) gw358 rfl rfl) nw_putf_le, List.forall_mem_cons.mpr ⟨np_s_iconst hX dX6_endLine_49 (by decide), List.forall_mem_cons.mpr ⟨np_S.mono (op := np_ist 2 4) (np_s_istore hX dX6_endLine_50 (by decide)) nw_ist_le, List.forall_mem_cons.mpr ⟨np_s_iload hX dX6_endLine_52, List.forall_mem_cons.mpr ⟨np_s_bipush hX dX6_endLine_54 (by decide), List.forall_mem_cons.mpr ⟨np_S.mono (op := np_ic (fun x y => y ≤ x) 77) (np_s_icmp_ge hX dX6_endLine_56 (by decide)) nq_ic_le, List.forall_mem_cons.mpr ⟨np_s_aload_n hX dX6_endLine_59 rfl, List.forall_mem_cons.mpr ⟨np_s_iload hX dX6_endLine_60, List.forall_mem_cons.mpr ⟨np_s_aload_n hX dX6_endLine_62 rfl, List.forall_mem_cons.mpr ⟨np_S.mono (op := np_getf 6 7) (np_s_getf hX dX6_endLine_63 (C := RX6) (T := TX6) (N := 12) rfl guX6 (by decide) gw356) nw_getf_le, List.forall_mem_cons.mpr ⟨np_s_iconst hX dX6_endLine_66 (by decide), List.forall_mem_cons.mpr ⟨np_s_isub hX dX6_endLine_67, List.forall_mem_cons.mpr ⟨np_S.mono (op := np_callV 6 3 sp_X6_addToIndex 6 0 0 0 0) (np_s_callV hX C_X6_addToIndex dX6_endLine_68 (q := (RX6, TX6, 12)) rfl rfl gw1107 gw72 gw1104 gw1106 gw34 ⟨by decide, by decide, by decide⟩ (by decide) (by decide)) nw_callV_le, List.forall_mem_cons.mpr ⟨np_S.mono (op := np_iinc 4 1) (np_s_iinc hX dX6_endLine_71 (by decide)) nw_iinc_le, List.forall_mem_cons.mpr ⟨np_s_goto hX dX6_endLine_74 (by decide), List.forall_mem_cons.mpr ⟨np_s_goto hX dX6_endLine_77 (by decide), List.forall_mem_cons.mpr ⟨np_s_aload_n hX dX6_endLine_80 rfl, List.forall_mem_cons.mpr ⟨np_S.mono (op := np_getf 6 1) (np_s_getf hX dX6_endLine_81 (C := RX6) (T := TX6) (N := 12) rfl guX6 (by decide) gw347) nw_getf_le, List.forall_mem_cons.mpr ⟨np_s_aload_n hX dX6_endLine_84 rfl, List.forall_mem_cons.mpr ⟨np_S.mono (op := np_getf 6 9) (np_s_getf hX dX6_endLine_85 (C := RX6) (T := TX6) (N := 12) rfl guX6 (by decide) gw360) nw_getf_le, List.forall_mem_cons.mpr ⟨np_s_ldc hX dX6_endLine_88 gw1130, List.forall_mem_cons.mpr ⟨np_s_iload_n hX dX6_endLine_90 rfl, List.forall_mem_cons.mpr ⟨np_S.mono (op := np_if (fun x => x = 0) 99) (np_s_if_eq hX dX6_endLine_91 (by decide)) nq_if_le, List.forall_mem_cons.mpr ⟨np_s_bipush hX dX6_endLine_94 (by decide), List.forall_mem_cons.mpr ⟨np_s_goto hX dX6_endLine_96 (by decide), List.forall_mem_cons.mpr ⟨np_s_aload_n hX dX6_endLine_99 rfl, List.forall_mem_cons.mpr ⟨np_S.mono (op := np_getf 6 11) (np_s_getf hX dX6_endLine_100 (C := RX6) (T := TX6) (N := 12) rfl guX6 (by decide) gw363) nw_getf_le, List.forall_mem_cons.mpr ⟨np_s_imul hX dX6_endLine_103, List.forall_mem_cons.mpr ⟨np_s_sipush hX dX6_endLine_104 (by decide), List.forall_mem_cons.mpr ⟨np_s_aload_n hX dX6_endLine_107 rfl, List.forall_mem_cons.mpr ⟨np_S.mono (op := np_getf 6 6) (np_s_getf hX dX6_endLine_108 (C := RX6) (T := TX6) (N := 12) rfl guX6 (by decide) gw354) nw_getf_le, List.forall_mem_cons.mpr ⟨np_s_imul hX dX6_endLine_111, List.forall_mem_cons.mpr ⟨np_s_iadd hX dX6_endLine_112, List.forall_mem_cons.mpr ⟨np_s_iload_n hX dX6_endLine_113 rfl, List.forall_mem_cons.mpr ⟨np_s_iadd hX dX6_endLine_114, List.forall_mem_cons.mpr ⟨np_S.mono (op := np_call 3 sp_X11_put 3 0 0 0 0) (np_s_callSN hX C_X11_put dX6_endLine_115 gw632 gw63 gw1126 gw631 ⟨by decide, by decide, by decide⟩ (by decide) (by decide)) nq_call_le, List.forall_mem_cons.mpr ⟨np_s_aload_n hX dX6_endLine_118 rfl, List.forall_mem_cons.mpr ⟨np_S.mono (op := np_dup) (np_s_dup hX dX6_endLine_119) nq_dup_le, List.forall_mem_cons.mpr ⟨np_S.mono (op := np_getf 6 9) (np_s_getf hX dX6_endLine_120 (C := RX6) (T := TX6) (N := 12) rfl guX6 (by decide) gw360) nw_getf_le, List.forall_mem_cons.mpr ⟨np_s_iconst hX dX6_endLine_123 (by decide), List.forall_mem_cons.mpr ⟨np_s_iadd hX dX6_endLine_124, List.forall_mem_cons.mpr ⟨np_S.mono (op := np_putf 6 9 (.int)) (np_s_putf hX dX6_endLine_125 (C := RX6) (T := TX6) (N := 12) (ty0 := tyX6) rfl guX6 tyX6_ok nmX6 (by decide) gw360 rfl rfl) nw_putf_le, List.forall_mem_cons.mpr ⟨np_s_aload_n hX dX6_endLine_128 rfl, List.forall_mem_cons.mpr ⟨np_s_iload_n hX dX6_endLine_129 rfl, List.forall_mem_cons.mpr ⟨np_S.mono (op := np_putf 6 6 (.int)) (np_s_putf hX dX6_endLine_130 (C := RX6) (T := TX6) (N := 12) (ty0 := tyX6) rfl guX6 tyX6_ok nmX6 (by decide) gw354 rfl rfl) nw_putf_le, List.forall_mem_cons.mpr ⟨np_s_iload_n hX dX6_endLine_133 rfl, List.forall_mem_cons.mpr ⟨np_S.mono (op := np_ret X.2.2.1) (np_s_ret hX dX6_endLine_134) (nq_ret_le hR), fun _ h => nomatch h⟩⟩⟩⟩⟩⟩⟩⟩⟩⟩⟩⟩⟩⟩⟩⟩⟩⟩⟩⟩⟩⟩⟩⟩⟩⟩⟩⟩⟩⟩⟩⟩⟩⟩⟩⟩⟩⟩⟩⟩⟩⟩⟩⟩⟩⟩⟩⟩⟩⟩⟩⟩⟩⟩⟩⟩⟩⟩⟩⟩⟩⟩⟩⟩⟩⟩⟩⟩⟩⟩⟩⟩⟩
noncomputable def m_X6_endLine_52 : Nat → pw_S → Nat → Int32 → Int32 → Int32 → pw_R Int32
| 0, _, _, _, _, _ => none
| N + 1, S, v0, v2, v3, v4 =>
 if 8 ≤ v4 then
 (pw_l (pw_up S 54 v0 (upd (S 54 v0) 6 v2)) fun S1 =>
 pw_c (decide (v3 = 0) || decide (v3 = 1)) <|
 some (S1, v3))
 else
 (pw_b (m_X6_addToIndex S v0 v4 ((S 54 v0 7) - 1)) fun S5 r8 =>
 pw_l (v4 + 1 : Int32) fun z10 =>
 m_X6_endLine_52 N S5 v0 v2 v3 z10)
set_option maxRecDepth 100000 in
set_option maxHeartbeats 8000000 in
theorem L_X6_endLine_52 {X : np_Ctx} (hX : np_ok RX6 cX6_endLine 5 4 91 0 0 .ireturn X) {Q : Option Value → np_W → Prop} {q n : Nat} (hR : ∀ st w ce sl, np_rt (some .boolean) 0 0 Q st w ce sl → X.2.2.1 st w ce sl) : ∀ (N : Nat) (S : pw_S) (v0 : Nat) (v2 : Int32) (v3 : Int32) (v4 : Int32) (f : Nat → Option np_E) (hv0 : pw_ok q 54 v0 = true), pw_W q (n, f) S → pw_p (m_X6_endLine_52 N S v0 v2 v3 v4) (fun S' r => ∀ f', pw_W q (n, f') S' → Q (some (.int r)) (n, f')) → np_G X 52 [(0, .ref (pw_pl 54 v0)), (2, .int v2), (3, .int v3), (4, .int v4)] [] (n, f) 0 0 := by
  intro N
  induction N with
  | zero =>
    intro S v0 v2 v3 v4 f hv0 hW h
    exact (pw_pn h).elim
  | succ N ih =>
    intro S v0 v2 v3 v4 f hv0 hW h
    unfold m_X6_endLine_52 at h
    refine np_soundW (so_X6_endLine hX hR) [52] 400 52 _ _ _ _ _ ?_
    conv => whnf
    refine pw_br h (fun _ h => ?_) (fun _ h => ?_)
    · conv => whnf
      refine np_rd_i (hW.g hv0) ?_
      conv => whnf
      refine pw_wr (a := 54) (i := v0) (d := upd (S 54 v0) 6 v2) hW hv0 rfl h (fun S1 f2 hW3 h => ?_)
      conv => whnf
      obtain ⟨hb4, h⟩ := pw_ck1 h
      conv => whnf
      exact ⟨Nat.le_of_ble_eq_true rfl, Nat.le_of_ble_eq_true rfl, ⟨_, rfl, pw_nz hb4⟩, _, fun _ _ h9 => h9, pw_ps h _ hW3⟩
    · conv => whnf
      refine np_rd_i (hW.g hv0) ?_
      conv => whnf
      refine np_rd_i (hW.g hv0) ?_
      conv => whnf
      refine ⟨q, S, v0, v4, ((S 54 v0 7) - 1), rfl, hv0, hW, pw_bd h (fun S5 r8 h f6 hW7 => ?_)⟩
      conv => whnf
      refine pw_st h (fun z10 h => ?_)
      conv => whnf
      exact np_gl (ih S5 v0 v2 v3 z10 f6 hv0 hW7 h) ⟨rfl, rfl, rfl, rfl, trivial⟩
noncomputable def m_X6_endLine (S : pw_S) (i0 : Nat) (x1 : Int32) (x2 : Int32) : pw_R Int32 :=
 if (S 54 i0 10) ≤ 0 then
 (pw_l (0 : Int32) fun z11 =>
 if z11 = 0 then
 (if x1 = 0 then
 (pw_b (m_X11_put S 13 i0 (S 54 i0 9) (((1000000 * (S 54 i0 11)) + (1000 * (S 54 i0 6))) + x2)) fun S12 r15 =>
 pw_l (pw_up S12 54 i0 (upd (S12 54 i0) 9 ((S12 54 i0 9) + 1))) fun S17 =>
 pw_l (pw_up S17 54 i0 (upd (S17 54 i0) 6 x2)) fun S20 =>
 pw_c (decide (z11 = 0) || decide (z11 = 1)) <|
 some (S20, z11))
 else
 (pw_b (m_X11_put S 13 i0 (S 54 i0 9) ((100000000 + (1000 * (S 54 i0 6))) + x2)) fun S24 r27 =>
 pw_l (pw_up S24 54 i0 (upd (S24 54 i0) 9 ((S24 54 i0 9) + 1))) fun S29 =>
 pw_l (pw_up S29 54 i0 (upd (S29 54 i0) 6 x2)) fun S32 =>
 pw_c (decide (z11 = 0) || decide (z11 = 1)) <|
 some (S32, z11)))
 else
 (pw_l (pw_up S 54 i0 (upd (S 54 i0) 7 ((S 54 i0 7) + 1))) fun S36 =>
 if (S36 54 i0 10) ≤ 1 then
 (pw_l (0 : Int32) fun z39 =>
 m_X6_endLine_52 (pw_F 20000) S36 i0 x2 z11 z39)
 else
 (pw_l (pw_up S36 54 i0 (upd (S36 54 i0) 8 ((S36 54 i0 8) + 1))) fun S40 =>
 pw_l (0 : Int32) fun z43 =>
 m_X6_endLine_52 (pw_F 20000) S40 i0 x2 z11 z43)))
 else
 (if x1 = 0 then
 (pw_l (1 : Int32) fun z44 =>
 if z44 = 0 then
 (if x1 = 0 then
 (pw_b (m_X11_put S 13 i0 (S 54 i0 9) (((1000000 * (S 54 i0 11)) + (1000 * (S 54 i0 6))) + x2)) fun S45 r48 =>
 pw_l (pw_up S45 54 i0 (upd (S45 54 i0) 9 ((S45 54 i0 9) + 1))) fun S50 =>
 pw_l (pw_up S50 54 i0 (upd (S50 54 i0) 6 x2)) fun S53 =>
 pw_c (decide (z44 = 0) || decide (z44 = 1)) <|
 some (S53, z44))
 else
 (pw_b (m_X11_put S 13 i0 (S 54 i0 9) ((100000000 + (1000 * (S 54 i0 6))) + x2)) fun S57 r60 =>
 pw_l (pw_up S57 54 i0 (upd (S57 54 i0) 9 ((S57 54 i0 9) + 1))) fun S62 =>
 pw_l (pw_up S62 54 i0 (upd (S62 54 i0) 6 x2)) fun S65 =>
 pw_c (decide (z44 = 0) || decide (z44 = 1)) <|
 some (S65, z44)))
 else
 (pw_l (pw_up S 54 i0 (upd (S 54 i0) 7 ((S 54 i0 7) + 1))) fun S69 =>
 if (S69 54 i0 10) ≤ 1 then
 (pw_l (0 : Int32) fun z72 =>
 m_X6_endLine_52 (pw_F 20000) S69 i0 x2 z44 z72)
 else
 (pw_l (pw_up S69 54 i0 (upd (S69 54 i0) 8 ((S69 54 i0 8) + 1))) fun S73 =>
 pw_l (0 : Int32) fun z76 =>
 m_X6_endLine_52 (pw_F 20000) S73 i0 x2 z44 z76)))
 else
 (pw_l (0 : Int32) fun z77 =>
 if z77 = 0 then
 (if x1 = 0 then
 (pw_b (m_X11_put S 13 i0 (S 54 i0 9) (((1000000 * (S 54 i0 11)) + (1000 * (S 54 i0 6))) + x2)) fun S78 r81 =>
 pw_l (pw_up S78 54 i0 (upd (S78 54 i0) 9 ((S78 54 i0 9) + 1))) fun S83 =>
 pw_l (pw_up S83 54 i0 (upd (S83 54 i0) 6 x2)) fun S86 =>
 pw_c (decide (z77 = 0) || decide (z77 = 1)) <|
 some (S86, z77))
 else
 (pw_b (m_X11_put S 13 i0 (S 54 i0 9) ((100000000 + (1000 * (S 54 i0 6))) + x2)) fun S90 r93 =>
 pw_l (pw_up S90 54 i0 (upd (S90 54 i0) 9 ((S90 54 i0 9) + 1))) fun S95 =>
 pw_l (pw_up S95 54 i0 (upd (S95 54 i0) 6 x2)) fun S98 =>
 pw_c (decide (z77 = 0) || decide (z77 = 1)) <|
 some (S98, z77)))
 else
 (pw_l (pw_up S 54 i0 (upd (S 54 i0) 7 ((S 54 i0 7) + 1))) fun S102 =>
 if (S102 54 i0 10) ≤ 1 then
 (pw_l (0 : Int32) fun z105 =>
 m_X6_endLine_52 (pw_F 20000) S102 i0 x2 z77 z105)
 else
 (pw_l (pw_up S102 54 i0 (upd (S102 54 i0) 8 ((S102 54 i0 8) + 1))) fun S106 =>
 pw_l (0 : Int32) fun z109 =>
 m_X6_endLine_52 (pw_F 20000) S106 i0 x2 z77 z109))))
def sp_X6_endLine : np_Sp := fun vs w Q => ∃ (q : Nat) (S : pw_S) (i0 : Nat) (x1 : Int32) (x2 : Int32), vs = [.ref (pw_pl 54 i0), .int x1, .int x2] ∧ pw_ok q 54 i0 = true ∧ pw_W q w S ∧ pw_p (m_X6_endLine S i0 x1 x2) (fun S' r => ∀ f', pw_W q (w.1, f') S' → Q (some (.int r)) (w.1, f'))
set_option maxRecDepth 100000 in
set_option maxHeartbeats 8000000 in
theorem C_X6_endLine : np_C yX6_endLine cX6_endLine 5 (some .boolean) 4 91 0 0 sp_X6_endLine := by
  refine np_of (by decide) ?_
  intro X vs w Q hsp hX hmn hRt hlt
  obtain ⟨q, S, i0, x1, x2, rfl, hi0, hW, h⟩ := hsp
  obtain ⟨n, f⟩ := w
  unfold m_X6_endLine at h
  have hR : ∀ st w ce sl, np_rt (some .boolean) 0 0 Q st w ce sl → X.2.2.1 st w ce sl := fun _ _ _ _ h => by rw [hRt]; exact h
  refine np_soundW (so_X6_endLine hX hR) [52] 400 0 _ _ _ _ _ ?_
  conv => whnf
  refine np_rd_i (hW.g hi0) ?_
  conv => whnf
  refine pw_br h (fun _ h => ?_) (fun _ h => ?_)
  · conv => whnf
    refine pw_st h (fun z11 h => ?_)
    conv => whnf
    refine pw_br h (fun _ h => ?_) (fun _ h => ?_)
    · conv => whnf
      refine np_rd_i (hW.g hi0) ?_
      conv => whnf
      refine np_rd_i (hW.g hi0) ?_
      conv => whnf
      refine pw_br h (fun _ h => ?_) (fun _ h => ?_)
      · conv => whnf
        refine np_rd_i (hW.g hi0) ?_
        conv => whnf
        refine np_rd_i (hW.g hi0) ?_
        conv => whnf
        refine ⟨q, S, 13, i0, (S 54 i0 9), (((1000000 * (S 54 i0 11)) + (1000 * (S 54 i0 6))) + x2), rfl, rfl, hi0, hW, pw_bd h (fun S12 r15 h f13 hW14 => ?_)⟩
        conv => whnf
        refine np_rd_i (hW14.g hi0) ?_
        conv => whnf
        refine np_rd_i (hW14.g hi0) ?_
        conv => whnf
        refine pw_wr (a := 54) (i := i0) (d := upd (S12 54 i0) 9 ((S12 54 i0 9) + 1)) hW14 hi0 rfl h (fun S17 f18 hW19 h => ?_)
        conv => whnf
        refine np_rd_i (hW19.g hi0) ?_
        conv => whnf
        refine pw_wr (a := 54) (i := i0) (d := upd (S17 54 i0) 6 x2) hW19 hi0 rfl h (fun S20 f21 hW22 h => ?_)
        conv => whnf
        obtain ⟨hb23, h⟩ := pw_ck1 h
        conv => whnf
        exact ⟨Nat.le_of_ble_eq_true rfl, Nat.le_of_ble_eq_true rfl, ⟨_, rfl, pw_nz hb23⟩, _, fun _ _ h9 => h9, pw_ps h _ hW22⟩
      · conv => whnf
        refine np_rd_i (hW.g hi0) ?_
        conv => whnf
        refine ⟨q, S, 13, i0, (S 54 i0 9), ((100000000 + (1000 * (S 54 i0 6))) + x2), rfl, rfl, hi0, hW, pw_bd h (fun S24 r27 h f25 hW26 => ?_)⟩
        conv => whnf
        refine np_rd_i (hW26.g hi0) ?_
        conv => whnf
        refine np_rd_i (hW26.g hi0) ?_
        conv => whnf
        refine pw_wr (a := 54) (i := i0) (d := upd (S24 54 i0) 9 ((S24 54 i0 9) + 1)) hW26 hi0 rfl h (fun S29 f30 hW31 h => ?_)
        conv => whnf
        refine np_rd_i (hW31.g hi0) ?_
        conv => whnf
        refine pw_wr (a := 54) (i := i0) (d := upd (S29 54 i0) 6 x2) hW31 hi0 rfl h (fun S32 f33 hW34 h => ?_)
        conv => whnf
        obtain ⟨hb35, h⟩ := pw_ck1 h
        conv => whnf
        exact ⟨Nat.le_of_ble_eq_true rfl, Nat.le_of_ble_eq_true rfl, ⟨_, rfl, pw_nz hb35⟩, _, fun _ _ h9 => h9, pw_ps h _ hW34⟩
    · conv => whnf
      refine np_rd_i (hW.g hi0) ?_
      conv => whnf
      refine np_rd_i (hW.g hi0) ?_
      conv => whnf
      refine pw_wr (a := 54) (i := i0) (d := upd (S 54 i0) 7 ((S 54 i0 7) + 1)) hW hi0 rfl h (fun S36 f37 hW38 h => ?_)
      conv => whnf
      refine np_rd_i (hW38.g hi0) ?_
      conv => whnf
      refine pw_br h (fun _ h => ?_) (fun _ h => ?_)
      · conv => whnf
        refine pw_st h (fun z39 h => ?_)
        conv => whnf
        exact np_gl (L_X6_endLine_52 hX hR (pw_F 20000) S36 i0 x2 z11 z39 f37 hi0 hW38 h) ⟨rfl, rfl, rfl, rfl, trivial⟩
      · conv => whnf
        refine np_rd_i (hW38.g hi0) ?_
        conv => whnf
        refine np_rd_i (hW38.g hi0) ?_
        conv => whnf
        refine pw_wr (a := 54) (i := i0) (d := upd (S36 54 i0) 8 ((S36 54 i0 8) + 1)) hW38 hi0 rfl h (fun S40 f41 hW42 h => ?_)
        conv => whnf
        refine pw_st h (fun z43 h => ?_)
        conv => whnf
        exact np_gl (L_X6_endLine_52 hX hR (pw_F 20000) S40 i0 x2 z11 z43 f41 hi0 hW42 h) ⟨rfl, rfl, rfl, rfl, trivial⟩
  · conv => whnf
    refine pw_br h (fun _ h => ?_) (fun _ h => ?_)
    · conv => whnf
      refine pw_st h (fun z44 h => ?_)
      conv => whnf
      refine pw_br h (fun _ h => ?_) (fun _ h => ?_)
      · conv => whnf
        refine np_rd_i (hW.g hi0) ?_
        conv => whnf
        refine np_rd_i (hW.g hi0) ?_
        conv => whnf
        refine pw_br h (fun _ h => ?_) (fun _ h => ?_)
        · conv => whnf
          refine np_rd_i (hW.g hi0) ?_
          conv => whnf
          refine np_rd_i (hW.g hi0) ?_
          conv => whnf
          refine ⟨q, S, 13, i0, (S 54 i0 9), (((1000000 * (S 54 i0 11)) + (1000 * (S 54 i0 6))) + x2), rfl, rfl, hi0, hW, pw_bd h (fun S45 r48 h f46 hW47 => ?_)⟩
          conv => whnf
          refine np_rd_i (hW47.g hi0) ?_
          conv => whnf
          refine np_rd_i (hW47.g hi0) ?_
          conv => whnf
          refine pw_wr (a := 54) (i := i0) (d := upd (S45 54 i0) 9 ((S45 54 i0 9) + 1)) hW47 hi0 rfl h (fun S50 f51 hW52 h => ?_)
          conv => whnf
          refine np_rd_i (hW52.g hi0) ?_
          conv => whnf
          refine pw_wr (a := 54) (i := i0) (d := upd (S50 54 i0) 6 x2) hW52 hi0 rfl h (fun S53 f54 hW55 h => ?_)
          conv => whnf
          obtain ⟨hb56, h⟩ := pw_ck1 h
          conv => whnf
          exact ⟨Nat.le_of_ble_eq_true rfl, Nat.le_of_ble_eq_true rfl, ⟨_, rfl, pw_nz hb56⟩, _, fun _ _ h9 => h9, pw_ps h _ hW55⟩
        · conv => whnf
          refine np_rd_i (hW.g hi0) ?_
          conv => whnf
          refine ⟨q, S, 13, i0, (S 54 i0 9), ((100000000 + (1000 * (S 54 i0 6))) + x2), rfl, rfl, hi0, hW, pw_bd h (fun S57 r60 h f58 hW59 => ?_)⟩
          conv => whnf
          refine np_rd_i (hW59.g hi0) ?_
          conv => whnf
          refine np_rd_i (hW59.g hi0) ?_
          conv => whnf
          refine pw_wr (a := 54) (i := i0) (d := upd (S57 54 i0) 9 ((S57 54 i0 9) + 1)) hW59 hi0 rfl h (fun S62 f63 hW64 h => ?_)
          conv => whnf
          refine np_rd_i (hW64.g hi0) ?_
          conv => whnf
          refine pw_wr (a := 54) (i := i0) (d := upd (S62 54 i0) 6 x2) hW64 hi0 rfl h (fun S65 f66 hW67 h => ?_)
          conv => whnf
          obtain ⟨hb68, h⟩ := pw_ck1 h
          conv => whnf
          exact ⟨Nat.le_of_ble_eq_true rfl, Nat.le_of_ble_eq_true rfl, ⟨_, rfl, pw_nz hb68⟩, _, fun _ _ h9 => h9, pw_ps h _ hW67⟩
      · conv => whnf
        refine np_rd_i (hW.g hi0) ?_
        conv => whnf
        refine np_rd_i (hW.g hi0) ?_
        conv => whnf
        refine pw_wr (a := 54) (i := i0) (d := upd (S 54 i0) 7 ((S 54 i0 7) + 1)) hW hi0 rfl h (fun S69 f70 hW71 h => ?_)
        conv => whnf
        refine np_rd_i (hW71.g hi0) ?_
        conv => whnf
        refine pw_br h (fun _ h => ?_) (fun _ h => ?_)
        · conv => whnf
          refine pw_st h (fun z72 h => ?_)
          conv => whnf
          exact np_gl (L_X6_endLine_52 hX hR (pw_F 20000) S69 i0 x2 z44 z72 f70 hi0 hW71 h) ⟨rfl, rfl, rfl, rfl, trivial⟩
        · conv => whnf
          refine np_rd_i (hW71.g hi0) ?_
          conv => whnf
          refine np_rd_i (hW71.g hi0) ?_
          conv => whnf
          refine pw_wr (a := 54) (i := i0) (d := upd (S69 54 i0) 8 ((S69 54 i0 8) + 1)) hW71 hi0 rfl h (fun S73 f74 hW75 h => ?_)
          conv => whnf
          refine pw_st h (fun z76 h => ?_)
          conv => whnf
          exact np_gl (L_X6_endLine_52 hX hR (pw_F 20000) S73 i0 x2 z44 z76 f74 hi0 hW75 h) ⟨rfl, rfl, rfl, rfl, trivial⟩
    · conv => whnf
      refine pw_st h (fun z77 h => ?_)
      conv => whnf
      refine pw_br h (fun _ h => ?_) (fun _ h => ?_)
      · conv => whnf
        refine np_rd_i (hW.g hi0) ?_
        conv => whnf
        refine np_rd_i (hW.g hi0) ?_
        conv => whnf
        refine pw_br h (fun _ h => ?_) (fun _ h => ?_)
        · conv => whnf
          refine np_rd_i (hW.g hi0) ?_
          conv => whnf
          refine np_rd_i (hW.g hi0) ?_
          conv => whnf
          refine ⟨q, S, 13, i0, (S 54 i0 9), (((1000000 * (S 54 i0 11)) + (1000 * (S 54 i0 6))) + x2), rfl, rfl, hi0, hW, pw_bd h (fun S78 r81 h f79 hW80 => ?_)⟩
          conv => whnf
          refine np_rd_i (hW80.g hi0) ?_
          conv => whnf
          refine np_rd_i (hW80.g hi0) ?_
          conv => whnf
          refine pw_wr (a := 54) (i := i0) (d := upd (S78 54 i0) 9 ((S78 54 i0 9) + 1)) hW80 hi0 rfl h (fun S83 f84 hW85 h => ?_)
          conv => whnf
          refine np_rd_i (hW85.g hi0) ?_
          conv => whnf
          refine pw_wr (a := 54) (i := i0) (d := upd (S83 54 i0) 6 x2) hW85 hi0 rfl h (fun S86 f87 hW88 h => ?_)
          conv => whnf
          obtain ⟨hb89, h⟩ := pw_ck1 h
          conv => whnf
          exact ⟨Nat.le_of_ble_eq_true rfl, Nat.le_of_ble_eq_true rfl, ⟨_, rfl, pw_nz hb89⟩, _, fun _ _ h9 => h9, pw_ps h _ hW88⟩
        · conv => whnf
          refine np_rd_i (hW.g hi0) ?_
          conv => whnf
          refine ⟨q, S, 13, i0, (S 54 i0 9), ((100000000 + (1000 * (S 54 i0 6))) + x2), rfl, rfl, hi0, hW, pw_bd h (fun S90 r93 h f91 hW92 => ?_)⟩
          conv => whnf
          refine np_rd_i (hW92.g hi0) ?_
          conv => whnf
          refine np_rd_i (hW92.g hi0) ?_
          conv => whnf
          refine pw_wr (a := 54) (i := i0) (d := upd (S90 54 i0) 9 ((S90 54 i0 9) + 1)) hW92 hi0 rfl h (fun S95 f96 hW97 h => ?_)
          conv => whnf
          refine np_rd_i (hW97.g hi0) ?_
          conv => whnf
          refine pw_wr (a := 54) (i := i0) (d := upd (S95 54 i0) 6 x2) hW97 hi0 rfl h (fun S98 f99 hW100 h => ?_)
          conv => whnf
          obtain ⟨hb101, h⟩ := pw_ck1 h
          conv => whnf
          exact ⟨Nat.le_of_ble_eq_true rfl, Nat.le_of_ble_eq_true rfl, ⟨_, rfl, pw_nz hb101⟩, _, fun _ _ h9 => h9, pw_ps h _ hW100⟩
      · conv => whnf
        refine np_rd_i (hW.g hi0) ?_
        conv => whnf
        refine np_rd_i (hW.g hi0) ?_
        conv => whnf
        refine pw_wr (a := 54) (i := i0) (d := upd (S 54 i0) 7 ((S 54 i0 7) + 1)) hW hi0 rfl h (fun S102 f103 hW104 h => ?_)
        conv => whnf
        refine np_rd_i (hW104.g hi0) ?_
        conv => whnf
        refine pw_br h (fun _ h => ?_) (fun _ h => ?_)
        · conv => whnf
          refine pw_st h (fun z105 h => ?_)
          conv => whnf
          exact np_gl (L_X6_endLine_52 hX hR (pw_F 20000) S102 i0 x2 z77 z105 f103 hi0 hW104 h) ⟨rfl, rfl, rfl, rfl, trivial⟩
        · conv => whnf
          refine np_rd_i (hW104.g hi0) ?_
          conv => whnf
          refine np_rd_i (hW104.g hi0) ?_
          conv => whnf
          refine pw_wr (a := 54) (i := i0) (d := upd (S102 54 i0) 8 ((S102 54 i0 8) + 1)) hW104 hi0 rfl h (fun S106 f107 hW108 h => ?_)
          conv => whnf
          refine pw_st h (fun z109 h => ?_)
          conv => whnf
          exact np_gl (L_X6_endLine_52 hX hR (pw_F 20000) S106 i0 x2 z77 z109 f107 hi0 hW108 h) ⟨rfl, rfl, rfl, rfl, trivial⟩
theorem dX6_rowByIndex_0 : decode cX6_rowByIndex 0 = .ok (.iload_n 2, 1) := by decide +kernel
theorem dX6_rowByIndex_1 : decode cX6_rowByIndex 1 = .ok (.ldc 52, 2) := by decide +kernel
theorem dX6_rowByIndex_3 : decode cX6_rowByIndex 3 = .ok (.if_icmp .ne 5, 3) := by decide +kernel
theorem dX6_rowByIndex_6 : decode cX6_rowByIndex 6 = .ok (.iconst (-1), 1) := by decide +kernel
theorem dX6_rowByIndex_7 : decode cX6_rowByIndex 7 = .ok (.ireturn, 1) := by decide +kernel
theorem dX6_rowByIndex_8 : decode cX6_rowByIndex 8 = .ok (.aload_n 0, 1) := by decide +kernel
theorem dX6_rowByIndex_9 : decode cX6_rowByIndex 9 = .ok (.getfield 18, 3) := by decide +kernel
theorem dX6_rowByIndex_12 : decode cX6_rowByIndex 12 = .ok (.iload_n 1, 1) := by decide +kernel
theorem dX6_rowByIndex_13 : decode cX6_rowByIndex 13 = .ok (.iload_n 2, 1) := by decide +kernel
theorem dX6_rowByIndex_14 : decode cX6_rowByIndex 14 = .ok (.invokestatic 92, 3) := by decide +kernel
theorem dX6_rowByIndex_17 : decode cX6_rowByIndex 17 = .ok (.iconst (-1), 1) := by decide +kernel
theorem dX6_rowByIndex_18 : decode cX6_rowByIndex 18 = .ok (.invokestatic 53, 3) := by decide +kernel
theorem dX6_rowByIndex_21 : decode cX6_rowByIndex 21 = .ok (.istore 4, 2) := by decide +kernel
theorem dX6_rowByIndex_23 : decode cX6_rowByIndex 23 = .ok (.iconst 0, 1) := by decide +kernel
theorem dX6_rowByIndex_24 : decode cX6_rowByIndex 24 = .ok (.istore 5, 2) := by decide +kernel
theorem dX6_rowByIndex_26 : decode cX6_rowByIndex 26 = .ok (.iconst 0, 1) := by decide +kernel
theorem dX6_rowByIndex_27 : decode cX6_rowByIndex 27 = .ok (.istore 6, 2) := by decide +kernel
theorem dX6_rowByIndex_29 : decode cX6_rowByIndex 29 = .ok (.iload 6, 2) := by decide +kernel
theorem dX6_rowByIndex_31 : decode cX6_rowByIndex 31 = .ok (.bipush 24, 2) := by decide +kernel
theorem dX6_rowByIndex_33 : decode cX6_rowByIndex 33 = .ok (.if_icmp .ge 54, 3) := by decide +kernel
theorem dX6_rowByIndex_36 : decode cX6_rowByIndex 36 = .ok (.iload 4, 2) := by decide +kernel
theorem dX6_rowByIndex_38 : decode cX6_rowByIndex 38 = .ok (.iconst (-1), 1) := by decide +kernel
theorem dX6_rowByIndex_39 : decode cX6_rowByIndex 39 = .ok (.if_icmp .eq 48, 3) := by decide +kernel
theorem dX6_rowByIndex_42 : decode cX6_rowByIndex 42 = .ok (.aload_n 0, 1) := by decide +kernel
theorem dX6_rowByIndex_43 : decode cX6_rowByIndex 43 = .ok (.iload 4, 2) := by decide +kernel
theorem dX6_rowByIndex_45 : decode cX6_rowByIndex 45 = .ok (.iload_n 1, 1) := by decide +kernel
theorem dX6_rowByIndex_46 : decode cX6_rowByIndex 46 = .ok (.invokevirtual 89, 3) := by decide +kernel
theorem dX6_rowByIndex_49 : decode cX6_rowByIndex 49 = .ok (.iload_n 2, 1) := by decide +kernel
theorem dX6_rowByIndex_50 : decode cX6_rowByIndex 50 = .ok (.if_icmp .ne 15, 3) := by decide +kernel
theorem dX6_rowByIndex_53 : decode cX6_rowByIndex 53 = .ok (.iload 5, 2) := by decide +kernel
theorem dX6_rowByIndex_55 : decode cX6_rowByIndex 55 = .ok (.iload_n 3, 1) := by decide +kernel
theorem dX6_rowByIndex_56 : decode cX6_rowByIndex 56 = .ok (.if_icmp .ne 6, 3) := by decide +kernel
theorem dX6_rowByIndex_59 : decode cX6_rowByIndex 59 = .ok (.iload 4, 2) := by decide +kernel
theorem dX6_rowByIndex_61 : decode cX6_rowByIndex 61 = .ok (.ireturn, 1) := by decide +kernel
theorem dX6_rowByIndex_62 : decode cX6_rowByIndex 62 = .ok (.iinc 5 1, 3) := by decide +kernel
theorem dX6_rowByIndex_65 : decode cX6_rowByIndex 65 = .ok (.aload_n 0, 1) := by decide +kernel
theorem dX6_rowByIndex_66 : decode cX6_rowByIndex 66 = .ok (.getfield 24, 3) := by decide +kernel
theorem dX6_rowByIndex_69 : decode cX6_rowByIndex 69 = .ok (.iload_n 1, 1) := by decide +kernel
theorem dX6_rowByIndex_70 : decode cX6_rowByIndex 70 = .ok (.iload 4, 2) := by decide +kernel
theorem dX6_rowByIndex_72 : decode cX6_rowByIndex 72 = .ok (.invokestatic 95, 3) := by decide +kernel
theorem dX6_rowByIndex_75 : decode cX6_rowByIndex 75 = .ok (.iconst (-1), 1) := by decide +kernel
theorem dX6_rowByIndex_76 : decode cX6_rowByIndex 76 = .ok (.invokestatic 53, 3) := by decide +kernel
theorem dX6_rowByIndex_79 : decode cX6_rowByIndex 79 = .ok (.istore 4, 2) := by decide +kernel
theorem dX6_rowByIndex_81 : decode cX6_rowByIndex 81 = .ok (.iinc 6 1, 3) := by decide +kernel
theorem dX6_rowByIndex_84 : decode cX6_rowByIndex 84 = .ok (.goto (-55), 3) := by decide +kernel
theorem dX6_rowByIndex_87 : decode cX6_rowByIndex 87 = .ok (.iconst (-1), 1) := by decide +kernel
theorem dX6_rowByIndex_88 : decode cX6_rowByIndex 88 = .ok (.ireturn, 1) := by decide +kernel
def is_X6_rowByIndex (Rt : np_Rt) : List (Nat × np_Op) := [(0, np_ild 1 2), (1, np_push 2 (.int (-2147483648))), (3, nq_icne 8), (6, np_push 1 (.int (-1))), (7, np_ret Rt), (8, np_ald 1 0), (9, nw_getf 6 2), (12, np_ild 1 1), (13, np_ild 1 2), (14, nq_call 2 sp_X6_bucketOf 2 0 0 0 0), (17, np_push 1 (.int (-1))), (18, nq_call 3 sp_X11_at 3 0 0 0 0), (21, nw_ist 2 4), (23, np_push 1 (.int 0)), (24, nw_ist 2 5), (26, np_push 1 (.int 0)), (27, nw_ist 2 6), (29, np_ild 2 6), (31, np_push 2 (.int 24)), (33, nq_ic (fun x y => y ≤ x) 87), (36, np_ild 2 4), (38, np_push 1 (.int (-1))), (39, nq_ic (fun x y => x = y) 87), (42, np_ald 1 0), (43, np_ild 2 4), (45, np_ild 1 1), (46, nw_callV 6 3 sp_X6_key 3 0 0 0 0), (49, np_ild 1 2), (50, nq_icne 65), (53, np_ild 2 5), (55, np_ild 1 3), (56, nq_icne 62), (59, np_ild 2 4), (61, np_ret Rt), (62, nw_iinc 5 1), (65, np_ald 1 0), (66, nw_getf 6 4), (69, np_ild 1 1), (70, np_ild 2 4), (72, nq_call 2 sp_X6_linkOf 2 0 0 0 0), (75, np_push 1 (.int (-1))), (76, nq_call 3 sp_X11_at 3 0 0 0 0), (79, nw_ist 2 4), (81, nw_iinc 6 1), (84, np_goto 29), (87, np_push 1 (.int (-1))), (88, np_ret Rt)]
set_option maxRecDepth 20000 in
theorem so_X6_rowByIndex {X : np_Ctx} {Rt : np_Rt} (hX : np_ok RX6 cX6_rowByIndex 7 3 66 0 0 .ireturn X) (hR : ∀ st w ce sl, Rt st w ce sl → X.2.2.1 st w ce sl) : ∀ q ∈ is_X6_rowByIndex Rt, np_S X q.1 q.2 :=
  List.forall_mem_cons.mpr ⟨np_s_iload_n hX dX6_rowByIndex_0 rfl, List.forall_mem_cons.mpr ⟨np_s_ldc hX dX6_rowByIndex_1 gw1121, List.forall_mem_cons.mpr ⟨np_S.mono (op := np_icne 8) (np_s_icmp_ne hX dX6_rowByIndex_3 (by decide)) nq_icne_le, List.forall_mem_cons.mpr ⟨np_s_iconst hX dX6_rowByIndex_6 (by decide), List.forall_mem_cons.mpr ⟨np_S.mono (op := np_ret X.2.2.1) (np_s_ret hX dX6_rowByIndex_7) (nq_ret_le hR), List.forall_mem_cons.mpr ⟨np_s_aload_n hX dX6_rowByIndex_8 rfl, List.forall_mem_cons.mpr ⟨np_S.mono (op := np_getf 6 2) (np_s_getf hX dX6_rowByIndex_9 (C := RX6) (T := TX6) (N := 12) rfl guX6 (by decide) gw349) nw_getf_le, List.forall_mem_cons.mpr ⟨np_s_iload_n hX dX6_rowByIndex_12 rfl, List.forall_mem_cons.mpr ⟨np_s_iload_n hX dX6_rowByIndex_13 rfl, List.forall_mem_cons.mpr ⟨np_S.mono (op := np_call 2 sp_X6_bucketOf 2 0 0 0 0) (np_s_callS hX C_X6_bucketOf dX6_rowByIndex_14 gw1125 gw72 gw1123 gw1124 ⟨by decide, by decide, by decide⟩ (by decide) (by decide)) nq_call_le, List.forall_mem_cons.mpr ⟨np_s_iconst hX dX6_rowByIndex_17 (by decide), List.forall_mem_cons.mpr ⟨np_S.mono (op := np_call 3 sp_X11_at 3 0 0 0 0) (np_s_callSN hX C_X11_at dX6_rowByIndex_18 gw653 gw63 gw1122 gw652 ⟨by decide, by decide, by decide⟩ (by decide) (by decide)) nq_call_le, List.forall_mem_cons.mpr ⟨np_S.mono (op := np_ist 2 4) (np_s_istore hX dX6_rowByIndex_21 (by decide)) nw_ist_le, List.forall_mem_cons.mpr ⟨np_s_iconst hX dX6_rowByIndex_23 (by decide), List.forall_mem_cons.mpr ⟨np_S.mono (op := np_ist 2 5) (np_s_istore hX dX6_rowByIndex_24 (by decide)) nw_ist_le, List.forall_mem_cons.mpr ⟨np_s_iconst hX dX6_rowByIndex_26 (by decide), List.forall_mem_cons.mpr ⟨np_S.mono (op := np_ist 2 6) (np_s_istore hX dX6_rowByIndex_27 (by decide)) nw_ist_le, List.forall_mem_cons.mpr ⟨np_s_iload hX dX6_rowByIndex_29, List.forall_mem_cons.mpr ⟨np_s_bipush hX dX6_rowByIndex_31 (by decide), List.forall_mem_cons.mpr ⟨np_S.mono (op := np_ic (fun x y => y ≤ x) 87) (np_s_icmp_ge hX dX6_rowByIndex_33 (by decide)) nq_ic_le, List.forall_mem_cons.mpr ⟨np_s_iload hX dX6_rowByIndex_36, List.forall_mem_cons.mpr ⟨np_s_iconst hX dX6_rowByIndex_38 (by decide), List.forall_mem_cons.mpr ⟨np_S.mono (op := np_ic (fun x y => x = y) 87) (np_s_icmp_eq hX dX6_rowByIndex_39 (by decide)) nq_ic_le, List.forall_mem_cons.mpr ⟨np_s_aload_n hX dX6_rowByIndex_42 rfl, List.forall_mem_cons.mpr ⟨np_s_iload hX dX6_rowByIndex_43, List.forall_mem_cons.mpr ⟨np_s_iload_n hX dX6_rowByIndex_45 rfl, List.forall_mem_cons.mpr ⟨np_S.mono (op := np_callV 6 3 sp_X6_key 3 0 0 0 0) (np_s_callV hX C_X6_key dX6_rowByIndex_46 (q := (RX6, TX6, 12)) rfl rfl gw1111 gw72 gw1108 gw1109 gw1110 ⟨by decide, by decide, by decide⟩ (by decide) (by decide)) nw_callV_le, List.forall_mem_cons.mpr ⟨np_s_iload_n hX dX6_rowByIndex_49 rfl, List.forall_mem_cons.mpr ⟨np_S.mono (op := np_icne 65) (np_s_icmp_ne hX dX6_rowByIndex_50 (by decide)) nq_icne_le, List.forall_mem_cons.mpr ⟨np_s_iload hX dX6_rowByIndex_53, List.forall_mem_cons.mpr ⟨np_s_iload_n hX dX6_rowByIndex_55 rfl, List.forall_mem_cons.mpr ⟨np_S.mono (op := np_icne 62) (np_s_icmp_ne hX dX6_rowByIndex_56 (by decide)) nq_icne_le, List.forall_mem_cons.mpr ⟨np_s_iload hX dX6_rowByIndex_59, List.forall_mem_cons.mpr ⟨np_S.mono (op := np_ret X.2.2.1) (np_s_ret hX dX6_rowByIndex_61) (nq_ret_le hR), List.forall_mem_cons.mpr ⟨np_S.mono (op := np_iinc 5 1) (np_s_iinc hX dX6_rowByIndex_62 (by decide)) nw_iinc_le, List.forall_mem_cons.mpr ⟨np_s_aload_n hX dX6_rowByIndex_65 rfl, List.forall_mem_cons.mpr ⟨np_S.mono (op := np_getf 6 4) (np_s_getf hX dX6_rowByIndex_66 (C := RX6) (T := TX6) (N := 12) rfl guX6 (by decide) gw351) nw_getf_le, List.forall_mem_cons.mpr ⟨np_s_iload_n hX dX6_rowByIndex_69 rfl, List.forall_mem_cons.mpr ⟨np_s_iload hX dX6_rowByIndex_70, List.forall_mem_cons.mpr ⟨np_S.mono (op := np_call 2 sp_X6_linkOf 2 0 0 0 0) (np_s_callS hX C_X6_linkOf dX6_rowByIndex_72 gw1129 gw72 gw1127 gw1128 ⟨by decide, by decide, by decide⟩ (by decide) (by decide)) nq_call_le, List.forall_mem_cons.mpr ⟨np_s_iconst hX dX6_rowByIndex_75 (by decide), List.forall_mem_cons.mpr ⟨np_S.mono (op := np_call 3 sp_X11_at 3 0 0 0 0) (np_s_callSN hX C_X11_at dX6_rowByIndex_76 gw653 gw63 gw1122 gw652 ⟨by decide, by decide, by decide⟩ (by decide) (by decide)) nq_call_le, List.forall_mem_cons.mpr ⟨np_S.mono (op := np_ist 2 4) (np_s_istore hX dX6_rowByIndex_79 (by decide)) nw_ist_le, List.forall_mem_cons.mpr ⟨np_S.mono (op := np_iinc 6 1) (np_s_iinc hX dX6_rowByIndex_81 (by decide)) nw_iinc_le, List.forall_mem_cons.mpr ⟨np_s_goto hX dX6_rowByIndex_84 (by decide), List.forall_mem_cons.mpr ⟨np_s_iconst hX dX6_rowByIndex_87 (by decide), List.forall_mem_cons.mpr ⟨np_S.mono (op := np_ret X.2.2.1) (np_s_ret hX dX6_rowByIndex_88) (nq_ret_le hR), fun _ h => nomatch h⟩⟩⟩⟩⟩⟩⟩⟩⟩⟩⟩⟩⟩⟩⟩⟩⟩⟩⟩⟩⟩⟩⟩⟩⟩⟩⟩⟩⟩⟩⟩⟩⟩⟩⟩⟩⟩⟩⟩⟩⟩⟩⟩⟩⟩⟩⟩
noncomputable def m_X6_rowByIndex_29 : Nat → pw_S → Nat → Int32 → Int32 → Int32 → Int32 → Int32 → Int32 → pw_R Int32
| 0, _, _, _, _, _, _, _, _ => none
| N + 1, S, v0, v1, v2, v3, v4, v5, v6 =>
 if 24 ≤ v6 then
 (some (S, (-1)))
 else
 (if v4 = (-1) then
 (some (S, (-1)))
 else
 (pw_b (m_X6_key S v0 v4 v1) fun S1 r4 =>
 if r4 = v2 then
 (if v5 = v3 then
 (some (S1, v4))
 else
 (pw_l (v5 + 1 : Int32) fun z6 =>
 pw_b (m_X6_linkOf S1 v1 v4) fun S7 r10 =>
 pw_b (m_X11_at S7 16 v0 r10 (-1)) fun S12 r15 =>
 pw_l (r15 : Int32) fun z17 =>
 pw_l (v6 + 1 : Int32) fun z18 =>
 m_X6_rowByIndex_29 N S12 v0 v1 v2 v3 z17 z6 z18))
 else
 (pw_b (m_X6_linkOf S1 v1 v4) fun S19 r22 =>
 pw_b (m_X11_at S19 16 v0 r22 (-1)) fun S24 r27 =>
 pw_l (r27 : Int32) fun z29 =>
 pw_l (v6 + 1 : Int32) fun z30 =>
 m_X6_rowByIndex_29 N S24 v0 v1 v2 v3 z29 v5 z30)))
set_option maxRecDepth 100000 in
set_option maxHeartbeats 8000000 in
theorem L_X6_rowByIndex_29 {X : np_Ctx} (hX : np_ok RX6 cX6_rowByIndex 7 3 66 0 0 .ireturn X) {Q : Option Value → np_W → Prop} {q n : Nat} (hR : ∀ st w ce sl, np_rt (some .int) 0 0 Q st w ce sl → X.2.2.1 st w ce sl) : ∀ (N : Nat) (S : pw_S) (v0 : Nat) (v1 : Int32) (v2 : Int32) (v3 : Int32) (v4 : Int32) (v5 : Int32) (v6 : Int32) (f : Nat → Option np_E) (hv0 : pw_ok q 54 v0 = true), pw_W q (n, f) S → pw_p (m_X6_rowByIndex_29 N S v0 v1 v2 v3 v4 v5 v6) (fun S' r => ∀ f', pw_W q (n, f') S' → Q (some (.int r)) (n, f')) → np_G X 29 [(0, .ref (pw_pl 54 v0)), (1, .int v1), (2, .int v2), (3, .int v3), (4, .int v4), (5, .int v5), (6, .int v6)] [] (n, f) 0 0 := by
  intro N
  induction N with
  | zero =>
    intro S v0 v1 v2 v3 v4 v5 v6 f hv0 hW h
    exact (pw_pn h).elim
  | succ N ih =>
    intro S v0 v1 v2 v3 v4 v5 v6 f hv0 hW h
    unfold m_X6_rowByIndex_29 at h
    refine np_soundW (so_X6_rowByIndex hX hR) [29] 400 29 _ _ _ _ _ ?_
    conv => whnf
    refine pw_br h (fun _ h => ?_) (fun _ h => ?_)
    · conv => whnf
      exact ⟨Nat.le_of_ble_eq_true rfl, Nat.le_of_ble_eq_true rfl, ⟨_, rfl⟩, _, fun _ _ h9 => h9, pw_ps h _ hW⟩
    · conv => whnf
      refine pw_br h (fun _ h => ?_) (fun _ h => ?_)
      · conv => whnf
        exact ⟨Nat.le_of_ble_eq_true rfl, Nat.le_of_ble_eq_true rfl, ⟨_, rfl⟩, _, fun _ _ h9 => h9, pw_ps h _ hW⟩
      · conv => whnf
        refine np_rd_i (hW.g hv0) ?_
        conv => whnf
        refine ⟨q, S, v0, v4, v1, rfl, hv0, hW, pw_bd h (fun S1 r4 h f2 hW3 => ?_)⟩
        conv => whnf
        refine pw_br h (fun _ h => ?_) (fun _ h => ?_)
        · conv => whnf
          refine pw_br h (fun _ h => ?_) (fun _ h => ?_)
          · conv => whnf
            exact ⟨Nat.le_of_ble_eq_true rfl, Nat.le_of_ble_eq_true rfl, ⟨_, rfl⟩, _, fun _ _ h9 => h9, pw_ps h _ hW3⟩
          · conv => whnf
            refine pw_st h (fun z6 h => ?_)
            conv => whnf
            refine np_rd_i (hW3.g hv0) ?_
            conv => whnf
            refine ⟨q, S1, v1, v4, rfl, hW3, pw_bd h (fun S7 r10 h f8 hW9 => ?_)⟩
            conv => whnf
            refine ⟨q, S7, 16, v0, r10, (-1), rfl, rfl, hv0, hW9, pw_bd h (fun S12 r15 h f13 hW14 => ?_)⟩
            conv => whnf
            refine pw_st h (fun z17 h => ?_)
            conv => whnf
            refine pw_st h (fun z18 h => ?_)
            conv => whnf
            exact np_gl (ih S12 v0 v1 v2 v3 z17 z6 z18 f13 hv0 hW14 h) ⟨rfl, rfl, rfl, rfl, rfl, rfl, rfl, trivial⟩
        · conv => whnf
          refine np_rd_i (hW3.g hv0) ?_
          conv => whnf
          refine ⟨q, S1, v1, v4, rfl, hW3, pw_bd h (fun S19 r22 h f20 hW21 => ?_)⟩
          conv => whnf
          refine ⟨q, S19, 16, v0, r22, (-1), rfl, rfl, hv0, hW21, pw_bd h (fun S24 r27 h f25 hW26 => ?_)⟩
          conv => whnf
          refine pw_st h (fun z29 h => ?_)
          conv => whnf
          refine pw_st h (fun z30 h => ?_)
          conv => whnf
          exact np_gl (ih S24 v0 v1 v2 v3 z29 v5 z30 f25 hv0 hW26 h) ⟨rfl, rfl, rfl, rfl, rfl, rfl, rfl, trivial⟩
noncomputable def m_X6_rowByIndex (S : pw_S) (i0 : Nat) (x1 : Int32) (x2 : Int32) (x3 : Int32) : pw_R Int32 :=
 if x2 = (-2147483648) then
 (some (S, (-1)))
 else
 (pw_b (m_X6_bucketOf S x1 x2) fun S31 r34 =>
 pw_b (m_X11_at S31 14 i0 r34 (-1)) fun S36 r39 =>
 pw_l (r39 : Int32) fun z41 =>
 pw_l (0 : Int32) fun z42 =>
 pw_l (0 : Int32) fun z43 =>
 m_X6_rowByIndex_29 (pw_F 20000) S36 i0 x1 x2 x3 z41 z42 z43)
def sp_X6_rowByIndex : np_Sp := fun vs w Q => ∃ (q : Nat) (S : pw_S) (i0 : Nat) (x1 : Int32) (x2 : Int32) (x3 : Int32), vs = [.ref (pw_pl 54 i0), .int x1, .int x2, .int x3] ∧ pw_ok q 54 i0 = true ∧ pw_W q w S ∧ pw_p (m_X6_rowByIndex S i0 x1 x2 x3) (fun S' r => ∀ f', pw_W q (w.1, f') S' → Q (some (.int r)) (w.1, f'))
set_option maxRecDepth 100000 in
set_option maxHeartbeats 8000000 in
theorem C_X6_rowByIndex : np_C yX6_rowByIndex cX6_rowByIndex 7 (some .int) 3 66 0 0 sp_X6_rowByIndex := by
  refine np_of (by decide) ?_
  intro X vs w Q hsp hX hmn hRt hlt
  obtain ⟨q, S, i0, x1, x2, x3, rfl, hi0, hW, h⟩ := hsp
  obtain ⟨n, f⟩ := w
  unfold m_X6_rowByIndex at h
  have hR : ∀ st w ce sl, np_rt (some .int) 0 0 Q st w ce sl → X.2.2.1 st w ce sl := fun _ _ _ _ h => by rw [hRt]; exact h
  refine np_soundW (so_X6_rowByIndex hX hR) [29] 400 0 _ _ _ _ _ ?_
  conv => whnf
  refine pw_br h (fun _ h => ?_) (fun _ h => ?_)
  · conv => whnf
    exact ⟨Nat.le_of_ble_eq_true rfl, Nat.le_of_ble_eq_true rfl, ⟨_, rfl⟩, _, fun _ _ h9 => h9, pw_ps h _ hW⟩
  · conv => whnf
    refine np_rd_i (hW.g hi0) ?_
    conv => whnf
    refine ⟨q, S, x1, x2, rfl, hW, pw_bd h (fun S31 r34 h f32 hW33 => ?_)⟩
    conv => whnf
    refine ⟨q, S31, 14, i0, r34, (-1), rfl, rfl, hi0, hW33, pw_bd h (fun S36 r39 h f37 hW38 => ?_)⟩
    conv => whnf
    refine pw_st h (fun z41 h => ?_)
    conv => whnf
    refine pw_st h (fun z42 h => ?_)
    conv => whnf
    refine pw_st h (fun z43 h => ?_)
    conv => whnf
    exact np_gl (L_X6_rowByIndex_29 hX hR (pw_F 20000) S36 i0 x1 x2 x3 z41 z42 z43 f37 hi0 hW38 h) ⟨rfl, rfl, rfl, rfl, rfl, rfl, rfl, trivial⟩
theorem dX6_rowByLooking_0 : decode cX6_rowByLooking 0 = .ok (.iload_n 2, 1) := by decide +kernel
theorem dX6_rowByLooking_1 : decode cX6_rowByLooking 1 = .ok (.ldc 52, 2) := by decide +kernel
theorem dX6_rowByLooking_3 : decode cX6_rowByLooking 3 = .ok (.if_icmp .ne 5, 3) := by decide +kernel
theorem dX6_rowByLooking_6 : decode cX6_rowByLooking 6 = .ok (.iconst (-1), 1) := by decide +kernel
theorem dX6_rowByLooking_7 : decode cX6_rowByLooking 7 = .ok (.ireturn, 1) := by decide +kernel
theorem dX6_rowByLooking_8 : decode cX6_rowByLooking 8 = .ok (.iconst 0, 1) := by decide +kernel
theorem dX6_rowByLooking_9 : decode cX6_rowByLooking 9 = .ok (.istore 4, 2) := by decide +kernel
theorem dX6_rowByLooking_11 : decode cX6_rowByLooking 11 = .ok (.iconst 0, 1) := by decide +kernel
theorem dX6_rowByLooking_12 : decode cX6_rowByLooking 12 = .ok (.istore 5, 2) := by decide +kernel
theorem dX6_rowByLooking_14 : decode cX6_rowByLooking 14 = .ok (.iload 5, 2) := by decide +kernel
theorem dX6_rowByLooking_16 : decode cX6_rowByLooking 16 = .ok (.aload_n 0, 1) := by decide +kernel
theorem dX6_rowByLooking_17 : decode cX6_rowByLooking 17 = .ok (.getfield 39, 3) := by decide +kernel
theorem dX6_rowByLooking_20 : decode cX6_rowByLooking 20 = .ok (.if_icmp .ge 32, 3) := by decide +kernel
theorem dX6_rowByLooking_23 : decode cX6_rowByLooking 23 = .ok (.aload_n 0, 1) := by decide +kernel
theorem dX6_rowByLooking_24 : decode cX6_rowByLooking 24 = .ok (.iload 5, 2) := by decide +kernel
theorem dX6_rowByLooking_26 : decode cX6_rowByLooking 26 = .ok (.iload_n 1, 1) := by decide +kernel
theorem dX6_rowByLooking_27 : decode cX6_rowByLooking 27 = .ok (.invokevirtual 89, 3) := by decide +kernel
theorem dX6_rowByLooking_30 : decode cX6_rowByLooking 30 = .ok (.iload_n 2, 1) := by decide +kernel
theorem dX6_rowByLooking_31 : decode cX6_rowByLooking 31 = .ok (.if_icmp .ne 15, 3) := by decide +kernel
theorem dX6_rowByLooking_34 : decode cX6_rowByLooking 34 = .ok (.iload 4, 2) := by decide +kernel
theorem dX6_rowByLooking_36 : decode cX6_rowByLooking 36 = .ok (.iload_n 3, 1) := by decide +kernel
theorem dX6_rowByLooking_37 : decode cX6_rowByLooking 37 = .ok (.if_icmp .ne 6, 3) := by decide +kernel
theorem dX6_rowByLooking_40 : decode cX6_rowByLooking 40 = .ok (.iload 5, 2) := by decide +kernel
theorem dX6_rowByLooking_42 : decode cX6_rowByLooking 42 = .ok (.ireturn, 1) := by decide +kernel
theorem dX6_rowByLooking_43 : decode cX6_rowByLooking 43 = .ok (.iinc 4 1, 3) := by decide +kernel
theorem dX6_rowByLooking_46 : decode cX6_rowByLooking 46 = .ok (.iinc 5 1, 3) := by decide +kernel
theorem dX6_rowByLooking_49 : decode cX6_rowByLooking 49 = .ok (.goto (-35), 3) := by decide +kernel
theorem dX6_rowByLooking_52 : decode cX6_rowByLooking 52 = .ok (.iconst (-1), 1) := by decide +kernel
theorem dX6_rowByLooking_53 : decode cX6_rowByLooking 53 = .ok (.ireturn, 1) := by decide +kernel
def is_X6_rowByLooking (Rt : np_Rt) : List (Nat × np_Op) := [(0, np_ild 1 2), (1, np_push 2 (.int (-2147483648))), (3, nq_icne 8), (6, np_push 1 (.int (-1))), (7, np_ret Rt), (8, np_push 1 (.int 0)), (9, nw_ist 2 4), (11, np_push 1 (.int 0)), (12, nw_ist 2 5), (14, np_ild 2 5), (16, np_ald 1 0), (17, nw_getf 6 7), (20, nq_ic (fun x y => y ≤ x) 52), (23, np_ald 1 0), (24, np_ild 2 5), (26, np_ild 1 1), (27, nw_callV 6 3 sp_X6_key 3 0 0 0 0), (30, np_ild 1 2), (31, nq_icne 46), (34, np_ild 2 4), (36, np_ild 1 3), (37, nq_icne 43), (40, np_ild 2 5), (42, np_ret Rt), (43, nw_iinc 4 1), (46, nw_iinc 5 1), (49, np_goto 14), (52, np_push 1 (.int (-1))), (53, np_ret Rt)]
set_option maxRecDepth 20000 in
theorem so_X6_rowByLooking {X : np_Ctx} {Rt : np_Rt} (hX : np_ok RX6 cX6_rowByLooking 6 3 66 0 0 .ireturn X) (hR : ∀ st w ce sl, Rt st w ce sl → X.2.2.1 st w ce sl) : ∀ q ∈ is_X6_rowByLooking Rt, np_S X q.1 q.2 :=
  List.forall_mem_cons.mpr ⟨np_s_iload_n hX dX6_rowByLooking_0 rfl, List.forall_mem_cons.mpr ⟨np_s_ldc hX dX6_rowByLooking_1 gw1121, List.forall_mem_cons.mpr ⟨np_S.mono (op := np_icne 8) (np_s_icmp_ne hX dX6_rowByLooking_3 (by decide)) nq_icne_le, List.forall_mem_cons.mpr ⟨np_s_iconst hX dX6_rowByLooking_6 (by decide), List.forall_mem_cons.mpr ⟨np_S.mono (op := np_ret X.2.2.1) (np_s_ret hX dX6_rowByLooking_7) (nq_ret_le hR), List.forall_mem_cons.mpr ⟨np_s_iconst hX dX6_rowByLooking_8 (by decide), List.forall_mem_cons.mpr ⟨np_S.mono (op := np_ist 2 4) (np_s_istore hX dX6_rowByLooking_9 (by decide)) nw_ist_le, List.forall_mem_cons.mpr ⟨np_s_iconst hX dX6_rowByLooking_11 (by decide), List.forall_mem_cons.mpr ⟨np_S.mono (op := np_ist 2 5) (np_s_istore hX dX6_rowByLooking_12 (by decide)) nw_ist_le, List.forall_mem_cons.mpr ⟨np_s_iload hX dX6_rowByLooking_14, List.forall_mem_cons.mpr ⟨np_s_aload_n hX dX6_rowByLooking_16 rfl, List.forall_mem_cons.mpr ⟨np_S.mono (op := np_getf 6 7) (np_s_getf hX dX6_rowByLooking_17 (C := RX6) (T := TX6) (N := 12) rfl guX6 (by decide) gw356) nw_getf_le, List.forall_mem_cons.mpr ⟨np_S.mono (op := np_ic (fun x y => y ≤ x) 52) (np_s_icmp_ge hX dX6_rowByLooking_20 (by decide)) nq_ic_le, List.forall_mem_cons.mpr ⟨np_s_aload_n hX dX6_rowByLooking_23 rfl, List.forall_mem_cons.mpr ⟨np_s_iload hX dX6_rowByLooking_24, List.forall_mem_cons.mpr ⟨np_s_iload_n hX dX6_rowByLooking_26 rfl, List.forall_mem_cons.mpr ⟨np_S.mono (op := np_callV 6 3 sp_X6_key 3 0 0 0 0) (np_s_callV hX C_X6_key dX6_rowByLooking_27 (q := (RX6, TX6, 12)) rfl rfl gw1111 gw72 gw1108 gw1109 gw1110 ⟨by decide, by decide, by decide⟩ (by decide) (by decide)) nw_callV_le, List.forall_mem_cons.mpr ⟨np_s_iload_n hX dX6_rowByLooking_30 rfl, List.forall_mem_cons.mpr ⟨np_S.mono (op := np_icne 46) (np_s_icmp_ne hX dX6_rowByLooking_31 (by decide)) nq_icne_le, List.forall_mem_cons.mpr ⟨np_s_iload hX dX6_rowByLooking_34, List.forall_mem_cons.mpr ⟨np_s_iload_n hX dX6_rowByLooking_36 rfl, List.forall_mem_cons.mpr ⟨np_S.mono (op := np_icne 43) (np_s_icmp_ne hX dX6_rowByLooking_37 (by decide)) nq_icne_le, List.forall_mem_cons.mpr ⟨np_s_iload hX dX6_rowByLooking_40, List.forall_mem_cons.mpr ⟨np_S.mono (op := np_ret X.2.2.1) (np_s_ret hX dX6_rowByLooking_42) (nq_ret_le hR), List.forall_mem_cons.mpr ⟨np_S.mono (op := np_iinc 4 1) (np_s_iinc hX dX6_rowByLooking_43 (by decide)) nw_iinc_le, List.forall_mem_cons.mpr ⟨np_S.mono (op := np_iinc 5 1) (np_s_iinc hX dX6_rowByLooking_46 (by decide)) nw_iinc_le, List.forall_mem_cons.mpr ⟨np_s_goto hX dX6_rowByLooking_49 (by decide), List.forall_mem_cons.mpr ⟨np_s_iconst hX dX6_rowByLooking_52 (by decide), List.forall_mem_cons.mpr ⟨np_S.mono (op := np_ret X.2.2.1) (np_s_ret hX dX6_rowByLooking_53) (nq_ret_le hR), fun _ h => nomatch h⟩⟩⟩⟩⟩⟩⟩⟩⟩⟩⟩⟩⟩⟩⟩⟩⟩⟩⟩⟩⟩⟩⟩⟩⟩⟩⟩⟩⟩
noncomputable def m_X6_rowByLooking_14 : Nat → pw_S → Nat → Int32 → Int32 → Int32 → Int32 → Int32 → pw_R Int32
| 0, _, _, _, _, _, _, _ => none
| N + 1, S, v0, v1, v2, v3, v4, v5 =>
 if (S 54 v0 7) ≤ v5 then
 (some (S, (-1)))
 else
 (pw_b (m_X6_key S v0 v5 v1) fun S1 r4 =>
 if r4 = v2 then
 (if v4 = v3 then
 (some (S1, v5))
 else
 (pw_l (v4 + 1 : Int32) fun z6 =>
 pw_l (v5 + 1 : Int32) fun z7 =>
 m_X6_rowByLooking_14 N S1 v0 v1 v2 v3 z6 z7))
 else
 (pw_l (v5 + 1 : Int32) fun z8 =>
 m_X6_rowByLooking_14 N S1 v0 v1 v2 v3 v4 z8))
set_option maxRecDepth 100000 in
set_option maxHeartbeats 8000000 in
theorem L_X6_rowByLooking_14 {X : np_Ctx} (hX : np_ok RX6 cX6_rowByLooking 6 3 66 0 0 .ireturn X) {Q : Option Value → np_W → Prop} {q n : Nat} (hR : ∀ st w ce sl, np_rt (some .int) 0 0 Q st w ce sl → X.2.2.1 st w ce sl) : ∀ (N : Nat) (S : pw_S) (v0 : Nat) (v1 : Int32) (v2 : Int32) (v3 : Int32) (v4 : Int32) (v5 : Int32) (f : Nat → Option np_E) (hv0 : pw_ok q 54 v0 = true), pw_W q (n, f) S → pw_p (m_X6_rowByLooking_14 N S v0 v1 v2 v3 v4 v5) (fun S' r => ∀ f', pw_W q (n, f') S' → Q (some (.int r)) (n, f')) → np_G X 14 [(0, .ref (pw_pl 54 v0)), (1, .int v1), (2, .int v2), (3, .int v3), (4, .int v4), (5, .int v5)] [] (n, f) 0 0 := by
  intro N
  induction N with
  | zero =>
    intro S v0 v1 v2 v3 v4 v5 f hv0 hW h
    exact (pw_pn h).elim
  | succ N ih =>
    intro S v0 v1 v2 v3 v4 v5 f hv0 hW h
    unfold m_X6_rowByLooking_14 at h
    refine np_soundW (so_X6_rowByLooking hX hR) [14] 400 14 _ _ _ _ _ ?_
    conv => whnf
    refine np_rd_i (hW.g hv0) ?_
    conv => whnf
    refine pw_br h (fun _ h => ?_) (fun _ h => ?_)
    · conv => whnf
      exact ⟨Nat.le_of_ble_eq_true rfl, Nat.le_of_ble_eq_true rfl, ⟨_, rfl⟩, _, fun _ _ h9 => h9, pw_ps h _ hW⟩
    · conv => whnf
      refine np_rd_i (hW.g hv0) ?_
      conv => whnf
      refine ⟨q, S, v0, v5, v1, rfl, hv0, hW, pw_bd h (fun S1 r4 h f2 hW3 => ?_)⟩
      conv => whnf
      refine pw_br h (fun _ h => ?_) (fun _ h => ?_)
      · conv => whnf
        refine pw_br h (fun _ h => ?_) (fun _ h => ?_)
        · conv => whnf
          exact ⟨Nat.le_of_ble_eq_true rfl, Nat.le_of_ble_eq_true rfl, ⟨_, rfl⟩, _, fun _ _ h9 => h9, pw_ps h _ hW3⟩
        · conv => whnf
          refine pw_st h (fun z6 h => ?_)
          conv => whnf
          refine pw_st h (fun z7 h => ?_)
          conv => whnf
          exact np_gl (ih S1 v0 v1 v2 v3 z6 z7 f2 hv0 hW3 h) ⟨rfl, rfl, rfl, rfl, rfl, rfl, trivial⟩
      · conv => whnf
        refine pw_st h (fun z8 h => ?_)
        conv => whnf
        exact np_gl (ih S1 v0 v1 v2 v3 v4 z8 f2 hv0 hW3 h) ⟨rfl, rfl, rfl, rfl, rfl, rfl, trivial⟩
noncomputable def m_X6_rowByLooking (S : pw_S) (i0 : Nat) (x1 : Int32) (x2 : Int32) (x3 : Int32) : pw_R Int32 :=
 if x2 = (-2147483648) then
 (some (S, (-1)))
 else
 (pw_l (0 : Int32) fun z9 =>
 pw_l (0 : Int32) fun z10 =>
 m_X6_rowByLooking_14 (pw_F 20000) S i0 x1 x2 x3 z9 z10)
def sp_X6_rowByLooking : np_Sp := fun vs w Q => ∃ (q : Nat) (S : pw_S) (i0 : Nat) (x1 : Int32) (x2 : Int32) (x3 : Int32), vs = [.ref (pw_pl 54 i0), .int x1, .int x2, .int x3] ∧ pw_ok q 54 i0 = true ∧ pw_W q w S ∧ pw_p (m_X6_rowByLooking S i0 x1 x2 x3) (fun S' r => ∀ f', pw_W q (w.1, f') S' → Q (some (.int r)) (w.1, f'))
set_option maxRecDepth 100000 in
set_option maxHeartbeats 8000000 in
theorem C_X6_rowByLooking : np_C yX6_rowByLooking cX6_rowByLooking 6 (some .int) 3 66 0 0 sp_X6_rowByLooking := by
  refine np_of (by decide) ?_
  intro X vs w Q hsp hX hmn hRt hlt
  obtain ⟨q, S, i0, x1, x2, x3, rfl, hi0, hW, h⟩ := hsp
  obtain ⟨n, f⟩ := w
  unfold m_X6_rowByLooking at h
  have hR : ∀ st w ce sl, np_rt (some .int) 0 0 Q st w ce sl → X.2.2.1 st w ce sl := fun _ _ _ _ h => by rw [hRt]; exact h
  refine np_soundW (so_X6_rowByLooking hX hR) [14] 400 0 _ _ _ _ _ ?_
  conv => whnf
  refine pw_br h (fun _ h => ?_) (fun _ h => ?_)
  · conv => whnf
    exact ⟨Nat.le_of_ble_eq_true rfl, Nat.le_of_ble_eq_true rfl, ⟨_, rfl⟩, _, fun _ _ h9 => h9, pw_ps h _ hW⟩
  · conv => whnf
    refine pw_st h (fun z9 h => ?_)
    conv => whnf
    refine pw_st h (fun z10 h => ?_)
    conv => whnf
    exact np_gl (L_X6_rowByLooking_14 hX hR (pw_F 20000) S i0 x1 x2 x3 z9 z10 f hi0 hW h) ⟨rfl, rfl, rfl, rfl, rfl, rfl, trivial⟩
theorem dX6_lastRowOf_0 : decode cX6_lastRowOf 0 = .ok (.aload_n 0, 1) := by decide +kernel
theorem dX6_lastRowOf_1 : decode cX6_lastRowOf 1 = .ok (.getfield 39, 3) := by decide +kernel
theorem dX6_lastRowOf_4 : decode cX6_lastRowOf 4 = .ok (.iconst 1, 1) := by decide +kernel
theorem dX6_lastRowOf_5 : decode cX6_lastRowOf 5 = .ok (.isub, 1) := by decide +kernel
theorem dX6_lastRowOf_6 : decode cX6_lastRowOf 6 = .ok (.istore_n 3, 1) := by decide +kernel
theorem dX6_lastRowOf_7 : decode cX6_lastRowOf 7 = .ok (.iload_n 3, 1) := by decide +kernel
theorem dX6_lastRowOf_8 : decode cX6_lastRowOf 8 = .ok (.ifCond .lt 21, 3) := by decide +kernel
theorem dX6_lastRowOf_11 : decode cX6_lastRowOf 11 = .ok (.aload_n 0, 1) := by decide +kernel
theorem dX6_lastRowOf_12 : decode cX6_lastRowOf 12 = .ok (.iload_n 3, 1) := by decide +kernel
theorem dX6_lastRowOf_13 : decode cX6_lastRowOf 13 = .ok (.iload_n 1, 1) := by decide +kernel
theorem dX6_lastRowOf_14 : decode cX6_lastRowOf 14 = .ok (.invokevirtual 89, 3) := by decide +kernel
theorem dX6_lastRowOf_17 : decode cX6_lastRowOf 17 = .ok (.iload_n 2, 1) := by decide +kernel
theorem dX6_lastRowOf_18 : decode cX6_lastRowOf 18 = .ok (.if_icmp .ne 5, 3) := by decide +kernel
theorem dX6_lastRowOf_21 : decode cX6_lastRowOf 21 = .ok (.iload_n 3, 1) := by decide +kernel
theorem dX6_lastRowOf_22 : decode cX6_lastRowOf 22 = .ok (.ireturn, 1) := by decide +kernel
theorem dX6_lastRowOf_23 : decode cX6_lastRowOf 23 = .ok (.iinc 3 (-1), 3) := by decide +kernel
theorem dX6_lastRowOf_26 : decode cX6_lastRowOf 26 = .ok (.goto (-19), 3) := by decide +kernel
theorem dX6_lastRowOf_29 : decode cX6_lastRowOf 29 = .ok (.iconst (-1), 1) := by decide +kernel
theorem dX6_lastRowOf_30 : decode cX6_lastRowOf 30 = .ok (.ireturn, 1) := by decide +kernel
def is_X6_lastRowOf (Rt : np_Rt) : List (Nat × np_Op) := [(0, np_ald 1 0), (1, nw_getf 6 7), (4, np_push 1 (.int 1)), (5, np_ib (fun x y => x - y)), (6, nw_ist 1 3), (7, np_ild 1 3), (8, nq_if (fun x => x < 0) 29), (11, np_ald 1 0), (12, np_ild 1 3), (13, np_ild 1 1), (14, nw_callV 6 3 sp_X6_key 3 0 0 0 0), (17, np_ild 1 2), (18, nq_icne 23), (21, np_ild 1 3), (22, np_ret Rt), (23, nw_iinc 3 (-1)), (26, np_goto 7), (29, np_push 1 (.int (-1))), (30, np_ret Rt)]
set_option maxRecDepth 20000 in
theorem so_X6_lastRowOf {X : np_Ctx} {Rt : np_Rt} (hX : np_ok RX6 cX6_lastRowOf 4 3 66 0 0 .ireturn X) (hR : ∀ st w ce sl, Rt st w ce sl → X.2.2.1 st w ce sl) : ∀ q ∈ is_X6_lastRowOf Rt, np_S X q.1 q.2 :=
  List.forall_mem_cons.mpr ⟨np_s_aload_n hX dX6_lastRowOf_0 rfl, List.forall_mem_cons.mpr ⟨np_S.mono (op := np_getf 6 7) (np_s_getf hX dX6_lastRowOf_1 (C := RX6) (T := TX6) (N := 12) rfl guX6 (by decide) gw356) nw_getf_le, List.forall_mem_cons.mpr ⟨np_s_iconst hX dX6_lastRowOf_4 (by decide), List.forall_mem_cons.mpr ⟨np_s_isub hX dX6_lastRowOf_5, List.forall_mem_cons.mpr ⟨np_S.mono (op := np_ist 1 3) (np_s_istore_n hX dX6_lastRowOf_6 rfl (by decide)) nw_ist_le, List.forall_mem_cons.mpr ⟨np_s_iload_n hX dX6_lastRowOf_7 rfl, List.forall_mem_cons.mpr ⟨np_S.mono (op := np_if (fun x => x < 0) 29) (np_s_if_lt hX dX6_lastRowOf_8 (by decide)) nq_if_le, List.forall_mem_cons.mpr ⟨np_s_aload_n hX dX6_lastRowOf_11 rfl, List.forall_mem_cons.mpr ⟨np_s_iload_n hX dX6_lastRowOf_12 rfl, List.forall_mem_cons.mpr ⟨np_s_iload_n hX dX6_lastRowOf_13 rfl, List.forall_mem_cons.mpr ⟨np_S.mono (op := np_callV 6 3 sp_X6_key 3 0 0 0 0) (np_s_callV hX C_X6_key dX6_lastRowOf_14 (q := (RX6, TX6, 12)) rfl rfl gw1111 gw72 gw1108 gw1109 gw1110 ⟨by decide, by decide, by decide⟩ (by decide) (by decide)) nw_callV_le, List.forall_mem_cons.mpr ⟨np_s_iload_n hX dX6_lastRowOf_17 rfl, List.forall_mem_cons.mpr ⟨np_S.mono (op := np_icne 23) (np_s_icmp_ne hX dX6_lastRowOf_18 (by decide)) nq_icne_le, List.forall_mem_cons.mpr ⟨np_s_iload_n hX dX6_lastRowOf_21 rfl, List.forall_mem_cons.mpr ⟨np_S.mono (op := np_ret X.2.2.1) (np_s_ret hX dX6_lastRowOf_22) (nq_ret_le hR), List.forall_mem_cons.mpr ⟨np_S.mono (op := np_iinc 3 (-1)) (np_s_iinc hX dX6_lastRowOf_23 (by decide)) nw_iinc_le, List.forall_mem_cons.mpr ⟨np_s_goto hX dX6_lastRowOf_26 (by decide), List.forall_mem_cons.mpr ⟨np_s_iconst hX dX6_lastRowOf_29 (by decide), List.forall_mem_cons.mpr ⟨np_S.mono (op := np_ret X.2.2.1) (np_s_ret hX dX6_lastRowOf_30) (nq_ret_le hR), fun _ h => nomatch h⟩⟩⟩⟩⟩⟩⟩⟩⟩⟩⟩⟩⟩⟩⟩⟩⟩⟩⟩
noncomputable def m_X6_lastRowOf_7 : Nat → pw_S → Nat → Int32 → Int32 → Int32 → pw_R Int32
| 0, _, _, _, _, _ => none
| N + 1, S, v0, v1, v2, v3 =>
 if v3 < 0 then
 (some (S, (-1)))
 else
 (pw_b (m_X6_key S v0 v3 v1) fun S1 r4 =>
 if r4 = v2 then
 (some (S1, v3))
 else
 (pw_l (v3 + (-1) : Int32) fun z6 =>
 m_X6_lastRowOf_7 N S1 v0 v1 v2 z6))
set_option maxRecDepth 100000 in
set_option maxHeartbeats 8000000 in
theorem L_X6_lastRowOf_7 {X : np_Ctx} (hX : np_ok RX6 cX6_lastRowOf 4 3 66 0 0 .ireturn X) {Q : Option Value → np_W → Prop} {q n : Nat} (hR : ∀ st w ce sl, np_rt (some .int) 0 0 Q st w ce sl → X.2.2.1 st w ce sl) : ∀ (N : Nat) (S : pw_S) (v0 : Nat) (v1 : Int32) (v2 : Int32) (v3 : Int32) (f : Nat → Option np_E) (hv0 : pw_ok q 54 v0 = true), pw_W q (n, f) S → pw_p (m_X6_lastRowOf_7 N S v0 v1 v2 v3) (fun S' r => ∀ f', pw_W q (n, f') S' → Q (some (.int r)) (n, f')) → np_G X 7 [(0, .ref (pw_pl 54 v0)), (1, .int v1), (2, .int v2), (3, .int v3)] [] (n, f) 0 0 := by
  intro N
  induction N with
  | zero =>
    intro S v0 v1 v2 v3 f hv0 hW h
    exact (pw_pn h).elim
  | succ N ih =>
    intro S v0 v1 v2 v3 f hv0 hW h
    unfold m_X6_lastRowOf_7 at h
    refine np_soundW (so_X6_lastRowOf hX hR) [7] 400 7 _ _ _ _ _ ?_
    conv => whnf
    refine pw_br h (fun _ h => ?_) (fun _ h => ?_)
    · conv => whnf
      exact ⟨Nat.le_of_ble_eq_true rfl, Nat.le_of_ble_eq_true rfl, ⟨_, rfl⟩, _, fun _ _ h9 => h9, pw_ps h _ hW⟩
    · conv => whnf
      refine np_rd_i (hW.g hv0) ?_
      conv => whnf
      refine ⟨q, S, v0, v3, v1, rfl, hv0, hW, pw_bd h (fun S1 r4 h f2 hW3 => ?_)⟩
      conv => whnf
      refine pw_br h (fun _ h => ?_) (fun _ h => ?_)
      · conv => whnf
        exact ⟨Nat.le_of_ble_eq_true rfl, Nat.le_of_ble_eq_true rfl, ⟨_, rfl⟩, _, fun _ _ h9 => h9, pw_ps h _ hW3⟩
      · conv => whnf
        refine pw_st h (fun z6 h => ?_)
        conv => whnf
        exact np_gl (ih S1 v0 v1 v2 z6 f2 hv0 hW3 h) ⟨rfl, rfl, rfl, rfl, trivial⟩
noncomputable def m_X6_lastRowOf (S : pw_S) (i0 : Nat) (x1 : Int32) (x2 : Int32) : pw_R Int32 :=
 pw_l (((S 54 i0 7) - 1) : Int32) fun z7 =>
 m_X6_lastRowOf_7 (pw_F 20000) S i0 x1 x2 z7
def sp_X6_lastRowOf : np_Sp := fun vs w Q => ∃ (q : Nat) (S : pw_S) (i0 : Nat) (x1 : Int32) (x2 : Int32), vs = [.ref (pw_pl 54 i0), .int x1, .int x2] ∧ pw_ok q 54 i0 = true ∧ pw_W q w S ∧ pw_p (m_X6_lastRowOf S i0 x1 x2) (fun S' r => ∀ f', pw_W q (w.1, f') S' → Q (some (.int r)) (w.1, f'))
set_option maxRecDepth 100000 in
set_option maxHeartbeats 8000000 in
theorem C_X6_lastRowOf : np_C yX6_lastRowOf cX6_lastRowOf 4 (some .int) 3 66 0 0 sp_X6_lastRowOf := by
  refine np_of (by decide) ?_
  intro X vs w Q hsp hX hmn hRt hlt
  obtain ⟨q, S, i0, x1, x2, rfl, hi0, hW, h⟩ := hsp
  obtain ⟨n, f⟩ := w
  unfold m_X6_lastRowOf at h
  have hR : ∀ st w ce sl, np_rt (some .int) 0 0 Q st w ce sl → X.2.2.1 st w ce sl := fun _ _ _ _ h => by rw [hRt]; exact h
  refine np_soundW (so_X6_lastRowOf hX hR) [7] 400 0 _ _ _ _ _ ?_
  conv => whnf
  refine np_rd_i (hW.g hi0) ?_
  conv => whnf
  refine pw_st h (fun z7 h => ?_)
  conv => whnf
  exact np_gl (L_X6_lastRowOf_7 hX hR (pw_F 20000) S i0 x1 x2 z7 f hi0 hW h) ⟨rfl, rfl, rfl, rfl, trivial⟩
theorem dX6_isLastOfKey_0 : decode cX6_isLastOfKey 0 = .ok (.aload_n 0, 1) := by decide +kernel
theorem dX6_isLastOfKey_1 : decode cX6_isLastOfKey 1 = .ok (.iload_n 1, 1) := by decide +kernel
theorem dX6_isLastOfKey_2 : decode cX6_isLastOfKey 2 = .ok (.iload_n 2, 1) := by decide +kernel
theorem dX6_isLastOfKey_3 : decode cX6_isLastOfKey 3 = .ok (.invokevirtual 89, 3) := by decide +kernel
theorem dX6_isLastOfKey_6 : decode cX6_isLastOfKey 6 = .ok (.istore_n 3, 1) := by decide +kernel
theorem dX6_isLastOfKey_7 : decode cX6_isLastOfKey 7 = .ok (.iload_n 3, 1) := by decide +kernel
theorem dX6_isLastOfKey_8 : decode cX6_isLastOfKey 8 = .ok (.ldc 52, 2) := by decide +kernel
theorem dX6_isLastOfKey_10 : decode cX6_isLastOfKey 10 = .ok (.if_icmp .eq 17, 3) := by decide +kernel
theorem dX6_isLastOfKey_13 : decode cX6_isLastOfKey 13 = .ok (.aload_n 0, 1) := by decide +kernel
theorem dX6_isLastOfKey_14 : decode cX6_isLastOfKey 14 = .ok (.iload_n 2, 1) := by decide +kernel
theorem dX6_isLastOfKey_15 : decode cX6_isLastOfKey 15 = .ok (.iload_n 3, 1) := by decide +kernel
theorem dX6_isLastOfKey_16 : decode cX6_isLastOfKey 16 = .ok (.invokevirtual 98, 3) := by decide +kernel
theorem dX6_isLastOfKey_19 : decode cX6_isLastOfKey 19 = .ok (.iload_n 1, 1) := by decide +kernel
theorem dX6_isLastOfKey_20 : decode cX6_isLastOfKey 20 = .ok (.if_icmp .ne 7, 3) := by decide +kernel
theorem dX6_isLastOfKey_23 : decode cX6_isLastOfKey 23 = .ok (.iconst 1, 1) := by decide +kernel
theorem dX6_isLastOfKey_24 : decode cX6_isLastOfKey 24 = .ok (.goto 4, 3) := by decide +kernel
theorem dX6_isLastOfKey_27 : decode cX6_isLastOfKey 27 = .ok (.iconst 0, 1) := by decide +kernel
theorem dX6_isLastOfKey_28 : decode cX6_isLastOfKey 28 = .ok (.ireturn, 1) := by decide +kernel
def is_X6_isLastOfKey (Rt : np_Rt) : List (Nat × np_Op) := [(0, np_ald 1 0), (1, np_ild 1 1), (2, np_ild 1 2), (3, nw_callV 6 3 sp_X6_key 3 0 0 0 0), (6, nw_ist 1 3), (7, np_ild 1 3), (8, np_push 2 (.int (-2147483648))), (10, nq_ic (fun x y => x = y) 27), (13, np_ald 1 0), (14, np_ild 1 2), (15, np_ild 1 3), (16, nw_callV 6 3 sp_X6_lastRowOf 4 0 0 0 0), (19, np_ild 1 1), (20, nq_icne 27), (23, np_push 1 (.int 1)), (24, np_goto 28), (27, np_push 1 (.int 0)), (28, np_ret Rt)]
set_option maxRecDepth 20000 in
theorem so_X6_isLastOfKey {X : np_Ctx} {Rt : np_Rt} (hX : np_ok RX6 cX6_isLastOfKey 4 4 89 0 0 .ireturn X) (hR : ∀ st w ce sl, Rt st w ce sl → X.2.2.1 st w ce sl) : ∀ q ∈ is_X6_isLastOfKey Rt, np_S X q.1 q.2 :=
  List.forall_mem_cons.mpr ⟨np_s_aload_n hX dX6_isLastOfKey_0 rfl, List.forall_mem_cons.mpr ⟨np_s_iload_n hX dX6_isLastOfKey_1 rfl, List.forall_mem_cons.mpr ⟨np_s_iload_n hX dX6_isLastOfKey_2 rfl, List.forall_mem_cons.mpr ⟨np_S.mono (op := np_callV 6 3 sp_X6_key 3 0 0 0 0) (np_s_callV hX C_X6_key dX6_isLastOfKey_3 (q := (RX6, TX6, 12)) rfl rfl gw1111 gw72 gw1108 gw1109 gw1110 ⟨by decide, by decide, by decide⟩ (by decide) (by decide)) nw_callV_le, List.forall_mem_cons.mpr ⟨np_S.mono (op := np_ist 1 3) (np_s_istore_n hX dX6_isLastOfKey_6 rfl (by decide)) nw_ist_le, List.forall_mem_cons.mpr ⟨np_s_iload_n hX dX6_isLastOfKey_7 rfl, List.forall_mem_cons.mpr ⟨np_s_ldc hX dX6_isLastOfKey_8 gw1121, List.forall_mem_cons.mpr ⟨np_S.mono (op := np_ic (fun x y => x = y) 27) (np_s_icmp_eq hX dX6_isLastOfKey_10 (by decide)) nq_ic_le, List.forall_mem_cons.mpr ⟨np_s_aload_n hX dX6_isLastOfKey_13 rfl, List.forall_mem_cons.mpr ⟨np_s_iload_n hX dX6_isLastOfKey_14 rfl, List.forall_mem_cons.mpr ⟨np_s_iload_n hX dX6_isLastOfKey_15 rfl, List.forall_mem_cons.mpr ⟨np_S.mono (op := np_callV 6 3 sp_X6_lastRowOf 4 0 0 0 0) (np_s_callV hX C_X6_lastRowOf dX6_isLastOfKey_16 (q := (RX6, TX6, 12)) rfl rfl gw1485 gw72 gw1482 gw1484 gw55 ⟨by decide, by decide, by decide⟩ (by decide) (by decide)) nw_callV_le, List.forall_mem_cons.mpr ⟨np_s_iload_n hX dX6_isLastOfKey_19 rfl, List.forall_mem_cons.mpr ⟨np_S.mono (op := np_icne 27) (np_s_icmp_ne hX dX6_isLastOfKey_20 (by decide)) nq_icne_le, List.forall_mem_cons.mpr ⟨np_s_iconst hX dX6_isLastOfKey_23 (by decide), List.forall_mem_cons.mpr ⟨np_s_goto hX dX6_isLastOfKey_24 (by decide), List.forall_mem_cons.mpr ⟨np_s_iconst hX dX6_isLastOfKey_27 (by decide), List.forall_mem_cons.mpr ⟨np_S.mono (op := np_ret X.2.2.1) (np_s_ret hX dX6_isLastOfKey_28) (nq_ret_le hR), fun _ h => nomatch h⟩⟩⟩⟩⟩⟩⟩⟩⟩⟩⟩⟩⟩⟩⟩⟩⟩⟩
noncomputable def m_X6_isLastOfKey (S : pw_S) (i0 : Nat) (x1 : Int32) (x2 : Int32) : pw_R Int32 :=
 pw_b (m_X6_key S i0 x1 x2) fun S1 r4 =>
 pw_l (r4 : Int32) fun z6 =>
 if z6 = (-2147483648) then
 (some (S1, 0))
 else
 (pw_b (m_X6_lastRowOf S1 i0 x2 z6) fun S7 r10 =>
 if r10 = x1 then
 (some (S7, 1))
 else
 (some (S7, 0)))
def sp_X6_isLastOfKey : np_Sp := fun vs w Q => ∃ (q : Nat) (S : pw_S) (i0 : Nat) (x1 : Int32) (x2 : Int32), vs = [.ref (pw_pl 54 i0), .int x1, .int x2] ∧ pw_ok q 54 i0 = true ∧ pw_W q w S ∧ pw_p (m_X6_isLastOfKey S i0 x1 x2) (fun S' r => ∀ f', pw_W q (w.1, f') S' → Q (some (.int r)) (w.1, f'))
set_option maxRecDepth 100000 in
set_option maxHeartbeats 8000000 in
theorem C_X6_isLastOfKey : np_C yX6_isLastOfKey cX6_isLastOfKey 4 (some .boolean) 4 89 0 0 sp_X6_isLastOfKey := by
  refine np_of (by decide) ?_
  intro X vs w Q hsp hX hmn hRt hlt
  obtain ⟨q, S, i0, x1, x2, rfl, hi0, hW, h⟩ := hsp
  obtain ⟨n, f⟩ := w
  unfold m_X6_isLastOfKey at h
  have hR : ∀ st w ce sl, np_rt (some .boolean) 0 0 Q st w ce sl → X.2.2.1 st w ce sl := fun _ _ _ _ h => by rw [hRt]; exact h
  refine np_soundW (so_X6_isLastOfKey hX hR) [] 400 0 _ _ _ _ _ ?_
  conv => whnf
  refine np_rd_i (hW.g hi0) ?_
  conv => whnf
  refine ⟨q, S, i0, x1, x2, rfl, hi0, hW, pw_bd h (fun S1 r4 h f2 hW3 => ?_)⟩
  conv => whnf
  refine pw_st h (fun z6 h => ?_)
  conv => whnf
  refine pw_br h (fun _ h => ?_) (fun _ h => ?_)
  · conv => whnf
    exact ⟨Nat.le_of_ble_eq_true rfl, Nat.le_of_ble_eq_true rfl, ⟨_, rfl, by decide⟩, _, fun _ _ h9 => h9, pw_ps h _ hW3⟩
  · conv => whnf
    refine np_rd_i (hW3.g hi0) ?_
    conv => whnf
    refine ⟨q, S1, i0, x2, z6, rfl, hi0, hW3, pw_bd h (fun S7 r10 h f8 hW9 => ?_)⟩
    conv => whnf
    refine pw_br h (fun _ h => ?_) (fun _ h => ?_)
    · conv => whnf
      exact ⟨Nat.le_of_ble_eq_true rfl, Nat.le_of_ble_eq_true rfl, ⟨_, rfl, by decide⟩, _, fun _ _ h9 => h9, pw_ps h _ hW9⟩
    · conv => whnf
      exact ⟨Nat.le_of_ble_eq_true rfl, Nat.le_of_ble_eq_true rfl, ⟨_, rfl, by decide⟩, _, fun _ _ h9 => h9, pw_ps h _ hW9⟩
theorem dX6_keysNotIn_0 : decode cX6_keysNotIn 0 = .ok (.iconst 0, 1) := by decide +kernel
theorem dX6_keysNotIn_1 : decode cX6_keysNotIn 1 = .ok (.istore_n 3, 1) := by decide +kernel
theorem dX6_keysNotIn_2 : decode cX6_keysNotIn 2 = .ok (.iconst 0, 1) := by decide +kernel
theorem dX6_keysNotIn_3 : decode cX6_keysNotIn 3 = .ok (.istore 4, 2) := by decide +kernel
theorem dX6_keysNotIn_5 : decode cX6_keysNotIn 5 = .ok (.iload 4, 2) := by decide +kernel
theorem dX6_keysNotIn_7 : decode cX6_keysNotIn 7 = .ok (.aload_n 0, 1) := by decide +kernel
theorem dX6_keysNotIn_8 : decode cX6_keysNotIn 8 = .ok (.getfield 39, 3) := by decide +kernel
theorem dX6_keysNotIn_11 : decode cX6_keysNotIn 11 = .ok (.if_icmp .ge 38, 3) := by decide +kernel
theorem dX6_keysNotIn_14 : decode cX6_keysNotIn 14 = .ok (.aload_n 0, 1) := by decide +kernel
theorem dX6_keysNotIn_15 : decode cX6_keysNotIn 15 = .ok (.iload 4, 2) := by decide +kernel
theorem dX6_keysNotIn_17 : decode cX6_keysNotIn 17 = .ok (.iload_n 2, 1) := by decide +kernel
theorem dX6_keysNotIn_18 : decode cX6_keysNotIn 18 = .ok (.invokevirtual 101, 3) := by decide +kernel
theorem dX6_keysNotIn_21 : decode cX6_keysNotIn 21 = .ok (.ifCond .eq 22, 3) := by decide +kernel
theorem dX6_keysNotIn_24 : decode cX6_keysNotIn 24 = .ok (.aload_n 1, 1) := by decide +kernel
theorem dX6_keysNotIn_25 : decode cX6_keysNotIn 25 = .ok (.iload_n 2, 1) := by decide +kernel
theorem dX6_keysNotIn_26 : decode cX6_keysNotIn 26 = .ok (.aload_n 0, 1) := by decide +kernel
theorem dX6_keysNotIn_27 : decode cX6_keysNotIn 27 = .ok (.iload 4, 2) := by decide +kernel
theorem dX6_keysNotIn_29 : decode cX6_keysNotIn 29 = .ok (.iload_n 2, 1) := by decide +kernel
theorem dX6_keysNotIn_30 : decode cX6_keysNotIn 30 = .ok (.invokevirtual 89, 3) := by decide +kernel
theorem dX6_keysNotIn_33 : decode cX6_keysNotIn 33 = .ok (.invokevirtual 98, 3) := by decide +kernel
theorem dX6_keysNotIn_36 : decode cX6_keysNotIn 36 = .ok (.iconst (-1), 1) := by decide +kernel
theorem dX6_keysNotIn_37 : decode cX6_keysNotIn 37 = .ok (.if_icmp .ne 6, 3) := by decide +kernel
theorem dX6_keysNotIn_40 : decode cX6_keysNotIn 40 = .ok (.iinc 3 1, 3) := by decide +kernel
theorem dX6_keysNotIn_43 : decode cX6_keysNotIn 43 = .ok (.iinc 4 1, 3) := by decide +kernel
theorem dX6_keysNotIn_46 : decode cX6_keysNotIn 46 = .ok (.goto (-41), 3) := by decide +kernel
theorem dX6_keysNotIn_49 : decode cX6_keysNotIn 49 = .ok (.iload_n 3, 1) := by decide +kernel
theorem dX6_keysNotIn_50 : decode cX6_keysNotIn 50 = .ok (.ireturn, 1) := by decide +kernel
def is_X6_keysNotIn (Rt : np_Rt) : List (Nat × np_Op) := [(0, np_push 1 (.int 0)), (1, nw_ist 1 3), (2, np_push 1 (.int 0)), (3, nw_ist 2 4), (5, np_ild 2 4), (7, np_ald 1 0), (8, nw_getf 6 7), (11, nq_ic (fun x y => y ≤ x) 49), (14, np_ald 1 0), (15, np_ild 2 4), (17, np_ild 1 2), (18, nw_callV 6 3 sp_X6_isLastOfKey 4 0 0 0 0), (21, nq_if (fun x => x = 0) 43), (24, np_ald 1 1), (25, np_ild 1 2), (26, np_ald 1 0), (27, np_ild 2 4), (29, np_ild 1 2), (30, nw_callV 6 3 sp_X6_key 3 0 0 0 0), (33, nw_callV 6 3 sp_X6_lastRowOf 4 0 0 0 0), (36, np_push 1 (.int (-1))), (37, nq_icne 43), (40, nw_iinc 3 1), (43, nw_iinc 4 1), (46, np_goto 5), (49, np_ild 1 3), (50, np_ret Rt)]
set_option maxRecDepth 20000 in
theorem so_X6_keysNotIn {X : np_Ctx} {Rt : np_Rt} (hX : np_ok RX6 cX6_keysNotIn 5 5 112 0 0 .ireturn X) (hR : ∀ st w ce sl, Rt st w ce sl → X.2.2.1 st w ce sl) : ∀ q ∈ is_X6_keysNotIn Rt, np_S X q.1 q.2 :=
  List.forall_mem_cons.mpr ⟨np_s_iconst hX dX6_keysNotIn_0 (by decide), List.forall_mem_cons.mpr ⟨np_S.mono (op := np_ist 1 3) (np_s_istore_n hX dX6_keysNotIn_1 rfl (by decide)) nw_ist_le, List.forall_mem_cons.mpr ⟨np_s_iconst hX dX6_keysNotIn_2 (by decide), List.forall_mem_cons.mpr ⟨np_S.mono (op := np_ist 2 4) (np_s_istore hX dX6_keysNotIn_3 (by decide)) nw_ist_le, List.forall_mem_cons.mpr ⟨np_s_iload hX dX6_keysNotIn_5, List.forall_mem_cons.mpr ⟨np_s_aload_n hX dX6_keysNotIn_7 rfl, List.forall_mem_cons.mpr ⟨np_S.mono (op := np_getf 6 7) (np_s_getf hX dX6_keysNotIn_8 (C := RX6) (T := TX6) (N := 12) rfl guX6 (by decide) gw356) nw_getf_le, List.forall_mem_cons.mpr ⟨np_S.mono (op := np_ic (fun x y => y ≤ x) 49) (np_s_icmp_ge hX dX6_keysNotIn_11 (by decide)) nq_ic_le, List.forall_mem_cons.mpr ⟨np_s_aload_n hX dX6_keysNotIn_14 rfl, List.forall_mem_cons.mpr ⟨np_s_iload hX dX6_keysNotIn_15, List.forall_mem_cons.mpr ⟨np_s_iload_n hX dX6_keysNotIn_17 rfl, List.forall_mem_cons.mpr ⟨np_S.mono (op := np_callV 6 3 sp_X6_isLastOfKey 4 0 0 0 0) (np_s_callV hX C_X6_isLastOfKey dX6_keysNotIn_18 (q := (RX6, TX6, 12)) rfl rfl gw1481 gw72 gw1478 gw1480 gw54 ⟨by decide, by decide, by decide⟩ (by decide) (by decide)) nw_callV_le, List.forall_mem_cons.mpr ⟨np_S.mono (op := np_if (fun x => x = 0) 43) (np_s_if_eq hX dX6_keysNotIn_21 (by decide)) nq_if_le, List.forall_mem_cons.mpr ⟨np_s_aload_n hX dX6_keysNotIn_24 rfl, List.forall_mem_cons.mpr ⟨np_s_iload_n hX dX6_keysNotIn_25 rfl, List.forall_mem_cons.mpr ⟨np_s_aload_n hX dX6_keysNotIn_26 rfl, List.forall_mem_cons.mpr ⟨np_s_iload hX dX6_keysNotIn_27, List.forall_mem_cons.mpr ⟨np_s_iload_n hX dX6_keysNotIn_29 rfl, List.forall_mem_cons.mpr ⟨np_S.mono (op := np_callV 6 3 sp_X6_key 3 0 0 0 0) (np_s_callV hX C_X6_key dX6_keysNotIn_30 (q := (RX6, TX6, 12)) rfl rfl gw1111 gw72 gw1108 gw1109 gw1110 ⟨by decide, by decide, by decide⟩ (by decide) (by decide)) nw_callV_le, List.forall_mem_cons.mpr ⟨np_S.mono (op := np_callV 6 3 sp_X6_lastRowOf 4 0 0 0 0) (np_s_callV hX C_X6_lastRowOf dX6_keysNotIn_33 (q := (RX6, TX6, 12)) rfl rfl gw1485 gw72 gw1482 gw1484 gw55 ⟨by decide, by decide, by decide⟩ (by decide) (by decide)) nw_callV_le, List.forall_mem_cons.mpr ⟨np_s_iconst hX dX6_keysNotIn_36 (by decide), List.forall_mem_cons.mpr ⟨np_S.mono (op := np_icne 43) (np_s_icmp_ne hX dX6_keysNotIn_37 (by decide)) nq_icne_le, List.forall_mem_cons.mpr ⟨np_S.mono (op := np_iinc 3 1) (np_s_iinc hX dX6_keysNotIn_40 (by decide)) nw_iinc_le, List.forall_mem_cons.mpr ⟨np_S.mono (op := np_iinc 4 1) (np_s_iinc hX dX6_keysNotIn_43 (by decide)) nw_iinc_le, List.forall_mem_cons.mpr ⟨np_s_goto hX dX6_keysNotIn_46 (by decide), List.forall_mem_cons.mpr ⟨np_s_iload_n hX dX6_keysNotIn_49 rfl, List.forall_mem_cons.mpr ⟨np_S.mono (op := np_ret X.2.2.1) (np_s_ret hX dX6_keysNotIn_50) (nq_ret_le hR), fun _ h => nomatch h⟩⟩⟩⟩⟩⟩⟩⟩⟩⟩⟩⟩⟩⟩⟩⟩⟩⟩⟩⟩⟩⟩⟩⟩⟩⟩⟩
noncomputable def m_X6_keysNotIn_5 : Nat → pw_S → Nat → Nat → Int32 → Int32 → Int32 → pw_R Int32
| 0, _, _, _, _, _, _ => none
| N + 1, S, v0, v1, v2, v3, v4 =>
 if (S 54 v0 7) ≤ v4 then
 (some (S, v3))
 else
 (pw_b (m_X6_isLastOfKey S v0 v4 v2) fun S1 r4 =>
 if r4 = 0 then
 (pw_l (v4 + 1 : Int32) fun z6 =>
 m_X6_keysNotIn_5 N S1 v0 v1 v2 v3 z6)
 else
 (pw_b (m_X6_key S1 v0 v4 v2) fun S7 r10 =>
 pw_b (m_X6_lastRowOf S7 v1 v2 r10) fun S12 r15 =>
 if r15 = (-1) then
 (pw_l (v3 + 1 : Int32) fun z17 =>
 pw_l (v4 + 1 : Int32) fun z18 =>
 m_X6_keysNotIn_5 N S12 v0 v1 v2 z17 z18)
 else
 (pw_l (v4 + 1 : Int32) fun z19 =>
 m_X6_keysNotIn_5 N S12 v0 v1 v2 v3 z19)))
set_option maxRecDepth 100000 in
set_option maxHeartbeats 8000000 in
theorem L_X6_keysNotIn_5 {X : np_Ctx} (hX : np_ok RX6 cX6_keysNotIn 5 5 112 0 0 .ireturn X) {Q : Option Value → np_W → Prop} {q n : Nat} (hR : ∀ st w ce sl, np_rt (some .int) 0 0 Q st w ce sl → X.2.2.1 st w ce sl) : ∀ (N : Nat) (S : pw_S) (v0 : Nat) (v1 : Nat) (v2 : Int32) (v3 : Int32) (v4 : Int32) (f : Nat → Option np_E) (hv0 : pw_ok q 54 v0 = true) (hv1 : pw_ok q 54 v1 = true), pw_W q (n, f) S → pw_p (m_X6_keysNotIn_5 N S v0 v1 v2 v3 v4) (fun S' r => ∀ f', pw_W q (n, f') S' → Q (some (.int r)) (n, f')) → np_G X 5 [(0, .ref (pw_pl 54 v0)), (1, .ref (pw_pl 54 v1)), (2, .int v2), (3, .int v3), (4, .int v4)] [] (n, f) 0 0 := by
  intro N
  induction N with
  | zero =>
    intro S v0 v1 v2 v3 v4 f hv0 hv1 hW h
    exact (pw_pn h).elim
  | succ N ih =>
    intro S v0 v1 v2 v3 v4 f hv0 hv1 hW h
    unfold m_X6_keysNotIn_5 at h
    refine np_soundW (so_X6_keysNotIn hX hR) [5] 400 5 _ _ _ _ _ ?_
    conv => whnf
    refine np_rd_i (hW.g hv0) ?_
    conv => whnf
    refine pw_br h (fun _ h => ?_) (fun _ h => ?_)
    · conv => whnf
      exact ⟨Nat.le_of_ble_eq_true rfl, Nat.le_of_ble_eq_true rfl, ⟨_, rfl⟩, _, fun _ _ h9 => h9, pw_ps h _ hW⟩
    · conv => whnf
      refine np_rd_i (hW.g hv0) ?_
      conv => whnf
      refine ⟨q, S, v0, v4, v2, rfl, hv0, hW, pw_bd h (fun S1 r4 h f2 hW3 => ?_)⟩
      conv => whnf
      refine pw_br h (fun _ h => ?_) (fun _ h => ?_)
      · conv => whnf
        refine pw_st h (fun z6 h => ?_)
        conv => whnf
        exact np_gl (ih S1 v0 v1 v2 v3 z6 f2 hv0 hv1 hW3 h) ⟨rfl, rfl, rfl, rfl, rfl, trivial⟩
      · conv => whnf
        refine np_rd_i (hW3.g hv0) ?_
        conv => whnf
        refine ⟨q, S1, v0, v4, v2, rfl, hv0, hW3, pw_bd h (fun S7 r10 h f8 hW9 => ?_)⟩
        conv => whnf
        refine np_rd_i (hW9.g hv1) ?_
        conv => whnf
        refine ⟨q, S7, v1, v2, r10, rfl, hv1, hW9, pw_bd h (fun S12 r15 h f13 hW14 => ?_)⟩
        conv => whnf
        refine pw_br h (fun _ h => ?_) (fun _ h => ?_)
        · conv => whnf
          refine pw_st h (fun z17 h => ?_)
          conv => whnf
          refine pw_st h (fun z18 h => ?_)
          conv => whnf
          exact np_gl (ih S12 v0 v1 v2 z17 z18 f13 hv0 hv1 hW14 h) ⟨rfl, rfl, rfl, rfl, rfl, trivial⟩
        · conv => whnf
          refine pw_st h (fun z19 h => ?_)
          conv => whnf
          exact np_gl (ih S12 v0 v1 v2 v3 z19 f13 hv0 hv1 hW14 h) ⟨rfl, rfl, rfl, rfl, rfl, trivial⟩
noncomputable def m_X6_keysNotIn (S : pw_S) (i0 : Nat) (i1 : Nat) (x2 : Int32) : pw_R Int32 :=
 pw_l (0 : Int32) fun z20 =>
 pw_l (0 : Int32) fun z21 =>
 m_X6_keysNotIn_5 (pw_F 20000) S i0 i1 x2 z20 z21
def sp_X6_keysNotIn : np_Sp := fun vs w Q => ∃ (q : Nat) (S : pw_S) (i0 : Nat) (i1 : Nat) (x2 : Int32), vs = [.ref (pw_pl 54 i0), .ref (pw_pl 54 i1), .int x2] ∧ pw_ok q 54 i0 = true ∧ pw_ok q 54 i1 = true ∧ pw_W q w S ∧ pw_p (m_X6_keysNotIn S i0 i1 x2) (fun S' r => ∀ f', pw_W q (w.1, f') S' → Q (some (.int r)) (w.1, f'))
set_option maxRecDepth 100000 in
set_option maxHeartbeats 8000000 in
theorem C_X6_keysNotIn : np_C yX6_keysNotIn cX6_keysNotIn 5 (some .int) 5 112 0 0 sp_X6_keysNotIn := by
  refine np_of (by decide) ?_
  intro X vs w Q hsp hX hmn hRt hlt
  obtain ⟨q, S, i0, i1, x2, rfl, hi0, hi1, hW, h⟩ := hsp
  obtain ⟨n, f⟩ := w
  unfold m_X6_keysNotIn at h
  have hR : ∀ st w ce sl, np_rt (some .int) 0 0 Q st w ce sl → X.2.2.1 st w ce sl := fun _ _ _ _ h => by rw [hRt]; exact h
  refine np_soundW (so_X6_keysNotIn hX hR) [5] 400 0 _ _ _ _ _ ?_
  conv => whnf
  refine pw_st h (fun z20 h => ?_)
  conv => whnf
  refine pw_st h (fun z21 h => ?_)
  conv => whnf
  exact np_gl (L_X6_keysNotIn_5 hX hR (pw_F 20000) S i0 i1 x2 z20 z21 f hi0 hi1 hW h) ⟨rfl, rfl, rfl, rfl, rfl, trivial⟩
theorem dX6_differs_0 : decode cX6_differs 0 = .ok (.iconst 0, 1) := by decide +kernel
theorem dX6_differs_1 : decode cX6_differs 1 = .ok (.istore 4, 2) := by decide +kernel
theorem dX6_differs_3 : decode cX6_differs 3 = .ok (.iload 4, 2) := by decide +kernel
theorem dX6_differs_5 : decode cX6_differs 5 = .ok (.bipush 24, 2) := by decide +kernel
theorem dX6_differs_7 : decode cX6_differs 7 = .ok (.if_icmp .ge 28, 3) := by decide +kernel
theorem dX6_differs_10 : decode cX6_differs 10 = .ok (.aload_n 0, 1) := by decide +kernel
theorem dX6_differs_11 : decode cX6_differs 11 = .ok (.iload_n 1, 1) := by decide +kernel
theorem dX6_differs_12 : decode cX6_differs 12 = .ok (.iload 4, 2) := by decide +kernel
theorem dX6_differs_14 : decode cX6_differs 14 = .ok (.invokevirtual 61, 3) := by decide +kernel
theorem dX6_differs_17 : decode cX6_differs 17 = .ok (.aload_n 2, 1) := by decide +kernel
theorem dX6_differs_18 : decode cX6_differs 18 = .ok (.iload_n 3, 1) := by decide +kernel
theorem dX6_differs_19 : decode cX6_differs 19 = .ok (.iload 4, 2) := by decide +kernel
theorem dX6_differs_21 : decode cX6_differs 21 = .ok (.invokevirtual 61, 3) := by decide +kernel
theorem dX6_differs_24 : decode cX6_differs 24 = .ok (.if_icmp .eq 5, 3) := by decide +kernel
theorem dX6_differs_27 : decode cX6_differs 27 = .ok (.iconst 1, 1) := by decide +kernel
theorem dX6_differs_28 : decode cX6_differs 28 = .ok (.ireturn, 1) := by decide +kernel
theorem dX6_differs_29 : decode cX6_differs 29 = .ok (.iinc 4 1, 3) := by decide +kernel
theorem dX6_differs_32 : decode cX6_differs 32 = .ok (.goto (-29), 3) := by decide +kernel
theorem dX6_differs_35 : decode cX6_differs 35 = .ok (.iconst 0, 1) := by decide +kernel
theorem dX6_differs_36 : decode cX6_differs 36 = .ok (.ireturn, 1) := by decide +kernel
def is_X6_differs (Rt : np_Rt) : List (Nat × np_Op) := [(0, np_push 1 (.int 0)), (1, nw_ist 2 4), (3, np_ild 2 4), (5, np_push 2 (.int 24)), (7, nq_ic (fun x y => y ≤ x) 35), (10, np_ald 1 0), (11, np_ild 1 1), (12, np_ild 2 4), (14, nw_callV 6 3 sp_X6_told 3 0 0 0 0), (17, np_ald 1 2), (18, np_ild 1 3), (19, np_ild 2 4), (21, nw_callV 6 3 sp_X6_told 3 0 0 0 0), (24, nq_ic (fun x y => x = y) 29), (27, np_push 1 (.int 1)), (28, np_ret Rt), (29, nw_iinc 4 1), (32, np_goto 3), (35, np_push 1 (.int 0)), (36, np_ret Rt)]
set_option maxRecDepth 20000 in
theorem so_X6_differs {X : np_Ctx} {Rt : np_Rt} (hX : np_ok RX6 cX6_differs 5 2 44 0 0 .ireturn X) (hR : ∀ st w ce sl, Rt st w ce sl → X.2.2.1 st w ce sl) : ∀ q ∈ is_X6_differs Rt, np_S X q.1 q.2 :=
  List.forall_mem_cons.mpr ⟨np_s_iconst hX dX6_differs_0 (by decide), List.forall_mem_cons.mpr ⟨np_S.mono (op := np_ist 2 4) (np_s_istore hX dX6_differs_1 (by decide)) nw_ist_le, List.forall_mem_cons.mpr ⟨np_s_iload hX dX6_differs_3, List.forall_mem_cons.mpr ⟨np_s_bipush hX dX6_differs_5 (by decide), List.forall_mem_cons.mpr ⟨np_S.mono (op := np_ic (fun x y => y ≤ x) 35) (np_s_icmp_ge hX dX6_differs_7 (by decide)) nq_ic_le, List.forall_mem_cons.mpr ⟨np_s_aload_n hX dX6_differs_10 rfl, List.forall_mem_cons.mpr ⟨np_s_iload_n hX dX6_differs_11 rfl, List.forall_mem_cons.mpr ⟨np_s_iload hX dX6_differs_12, List.forall_mem_cons.mpr ⟨np_S.mono (op := np_callV 6 3 sp_X6_told 3 0 0 0 0) (np_s_callV hX C_X6_told dX6_differs_14 (q := (RX6, TX6, 12)) rfl rfl gw1116 gw72 gw1113 gw1114 gw1115 ⟨by decide, by decide, by decide⟩ (by decide) (by decide)) nw_callV_le, List.forall_mem_cons.mpr ⟨np_s_aload_n hX dX6_differs_17 rfl, List.forall_mem_cons.mpr ⟨np_s_iload_n hX dX6_differs_18 rfl, List.forall_mem_cons.mpr ⟨np_s_iload hX dX6_differs_19, List.forall_mem_cons.mpr ⟨np_S.mono (op := np_callV 6 3 sp_X6_told 3 0 0 0 0) (np_s_callV hX C_X6_told dX6_differs_21 (q := (RX6, TX6, 12)) rfl rfl gw1116 gw72 gw1113 gw1114 gw1115 ⟨by decide, by decide, by decide⟩ (by decide) (by decide)) nw_callV_le, List.forall_mem_cons.mpr ⟨np_S.mono (op := np_ic (fun x y => x = y) 29) (np_s_icmp_eq hX dX6_differs_24 (by decide)) nq_ic_le, List.forall_mem_cons.mpr ⟨np_s_iconst hX dX6_differs_27 (by decide), List.forall_mem_cons.mpr ⟨np_S.mono (op := np_ret X.2.2.1) (np_s_ret hX dX6_differs_28) (nq_ret_le hR), List.forall_mem_cons.mpr ⟨np_S.mono (op := np_iinc 4 1) (np_s_iinc hX dX6_differs_29 (by decide)) nw_iinc_le, List.forall_mem_cons.mpr ⟨np_s_goto hX dX6_differs_32 (by decide), List.forall_mem_cons.mpr ⟨np_s_iconst hX dX6_differs_35 (by decide), List.forall_mem_cons.mpr ⟨np_S.mono (op := np_ret X.2.2.1) (np_s_ret hX dX6_differs_36) (nq_ret_le hR), fun _ h => nomatch h⟩⟩⟩⟩⟩⟩⟩⟩⟩⟩⟩⟩⟩⟩⟩⟩⟩⟩⟩⟩
noncomputable def m_X6_differs_3 : Nat → pw_S → Nat → Int32 → Nat → Int32 → Int32 → pw_R Int32
| 0, _, _, _, _, _, _ => none
| N + 1, S, v0, v1, v2, v3, v4 =>
 if 24 ≤ v4 then
 (some (S, 0))
 else
 (pw_b (m_X6_told S v0 v1 v4) fun S1 r4 =>
 pw_b (m_X6_told S1 v2 v3 v4) fun S6 r9 =>
 if r4 = r9 then
 (pw_l (v4 + 1 : Int32) fun z11 =>
 m_X6_differs_3 N S6 v0 v1 v2 v3 z11)
 else
 (some (S6, 1)))
set_option maxRecDepth 100000 in
set_option maxHeartbeats 8000000 in
theorem L_X6_differs_3 {X : np_Ctx} (hX : np_ok RX6 cX6_differs 5 2 44 0 0 .ireturn X) {Q : Option Value → np_W → Prop} {q n : Nat} (hR : ∀ st w ce sl, np_rt (some .boolean) 0 0 Q st w ce sl → X.2.2.1 st w ce sl) : ∀ (N : Nat) (S : pw_S) (v0 : Nat) (v1 : Int32) (v2 : Nat) (v3 : Int32) (v4 : Int32) (f : Nat → Option np_E) (hv0 : pw_ok q 54 v0 = true) (hv2 : pw_ok q 54 v2 = true), pw_W q (n, f) S → pw_p (m_X6_differs_3 N S v0 v1 v2 v3 v4) (fun S' r => ∀ f', pw_W q (n, f') S' → Q (some (.int r)) (n, f')) → np_G X 3 [(0, .ref (pw_pl 54 v0)), (1, .int v1), (2, .ref (pw_pl 54 v2)), (3, .int v3), (4, .int v4)] [] (n, f) 0 0 := by
  intro N
  induction N with
  | zero =>
    intro S v0 v1 v2 v3 v4 f hv0 hv2 hW h
    exact (pw_pn h).elim
  | succ N ih =>
    intro S v0 v1 v2 v3 v4 f hv0 hv2 hW h
    unfold m_X6_differs_3 at h
    refine np_soundW (so_X6_differs hX hR) [3] 400 3 _ _ _ _ _ ?_
    conv => whnf
    refine pw_br h (fun _ h => ?_) (fun _ h => ?_)
    · conv => whnf
      exact ⟨Nat.le_of_ble_eq_true rfl, Nat.le_of_ble_eq_true rfl, ⟨_, rfl, by decide⟩, _, fun _ _ h9 => h9, pw_ps h _ hW⟩
    · conv => whnf
      refine np_rd_i (hW.g hv0) ?_
      conv => whnf
      refine ⟨q, S, v0, v1, v4, rfl, hv0, hW, pw_bd h (fun S1 r4 h f2 hW3 => ?_)⟩
      conv => whnf
      refine np_rd_i (hW3.g hv2) ?_
      conv => whnf
      refine ⟨q, S1, v2, v3, v4, rfl, hv2, hW3, pw_bd h (fun S6 r9 h f7 hW8 => ?_)⟩
      conv => whnf
      refine pw_br h (fun _ h => ?_) (fun _ h => ?_)
      · conv => whnf
        refine pw_st h (fun z11 h => ?_)
        conv => whnf
        exact np_gl (ih S6 v0 v1 v2 v3 z11 f7 hv0 hv2 hW8 h) ⟨rfl, rfl, rfl, rfl, rfl, trivial⟩
      · conv => whnf
        exact ⟨Nat.le_of_ble_eq_true rfl, Nat.le_of_ble_eq_true rfl, ⟨_, rfl, by decide⟩, _, fun _ _ h9 => h9, pw_ps h _ hW8⟩
noncomputable def m_X6_differs (S : pw_S) (i0 : Nat) (x1 : Int32) (i2 : Nat) (x3 : Int32) : pw_R Int32 :=
 pw_l (0 : Int32) fun z12 =>
 m_X6_differs_3 (pw_F 20000) S i0 x1 i2 x3 z12
def sp_X6_differs : np_Sp := fun vs w Q => ∃ (q : Nat) (S : pw_S) (i0 : Nat) (x1 : Int32) (i2 : Nat) (x3 : Int32), vs = [.ref (pw_pl 54 i0), .int x1, .ref (pw_pl 54 i2), .int x3] ∧ pw_ok q 54 i0 = true ∧ pw_ok q 54 i2 = true ∧ pw_W q w S ∧ pw_p (m_X6_differs S i0 x1 i2 x3) (fun S' r => ∀ f', pw_W q (w.1, f') S' → Q (some (.int r)) (w.1, f'))
set_option maxRecDepth 100000 in
set_option maxHeartbeats 8000000 in
theorem C_X6_differs : np_C yX6_differs cX6_differs 5 (some .boolean) 2 44 0 0 sp_X6_differs := by
  refine np_of (by decide) ?_
  intro X vs w Q hsp hX hmn hRt hlt
  obtain ⟨q, S, i0, x1, i2, x3, rfl, hi0, hi2, hW, h⟩ := hsp
  obtain ⟨n, f⟩ := w
  unfold m_X6_differs at h
  have hR : ∀ st w ce sl, np_rt (some .boolean) 0 0 Q st w ce sl → X.2.2.1 st w ce sl := fun _ _ _ _ h => by rw [hRt]; exact h
  refine np_soundW (so_X6_differs hX hR) [3] 400 0 _ _ _ _ _ ?_
  conv => whnf
  refine pw_st h (fun z12 h => ?_)
  conv => whnf
  exact np_gl (L_X6_differs_3 hX hR (pw_F 20000) S i0 x1 i2 x3 z12 f hi0 hi2 hW h) ⟨rfl, rfl, rfl, rfl, rfl, trivial⟩
theorem dX6_keysThatDiffer_0 : decode cX6_keysThatDiffer 0 = .ok (.iconst 0, 1) := by decide +kernel
theorem dX6_keysThatDiffer_1 : decode cX6_keysThatDiffer 1 = .ok (.istore_n 3, 1) := by decide +kernel
theorem dX6_keysThatDiffer_2 : decode cX6_keysThatDiffer 2 = .ok (.iconst 0, 1) := by decide +kernel
theorem dX6_keysThatDiffer_3 : decode cX6_keysThatDiffer 3 = .ok (.istore 4, 2) := by decide +kernel
theorem dX6_keysThatDiffer_5 : decode cX6_keysThatDiffer 5 = .ok (.iload 4, 2) := by decide +kernel
theorem dX6_keysThatDiffer_7 : decode cX6_keysThatDiffer 7 = .ok (.aload_n 0, 1) := by decide +kernel
theorem dX6_keysThatDiffer_8 : decode cX6_keysThatDiffer 8 = .ok (.getfield 39, 3) := by decide +kernel
theorem dX6_keysThatDiffer_11 : decode cX6_keysThatDiffer 11 = .ok (.if_icmp .ge 57, 3) := by decide +kernel
theorem dX6_keysThatDiffer_14 : decode cX6_keysThatDiffer 14 = .ok (.aload_n 0, 1) := by decide +kernel
theorem dX6_keysThatDiffer_15 : decode cX6_keysThatDiffer 15 = .ok (.iload 4, 2) := by decide +kernel
theorem dX6_keysThatDiffer_17 : decode cX6_keysThatDiffer 17 = .ok (.iload_n 2, 1) := by decide +kernel
theorem dX6_keysThatDiffer_18 : decode cX6_keysThatDiffer 18 = .ok (.invokevirtual 101, 3) := by decide +kernel
theorem dX6_keysThatDiffer_21 : decode cX6_keysThatDiffer 21 = .ok (.ifCond .ne 6, 3) := by decide +kernel
theorem dX6_keysThatDiffer_24 : decode cX6_keysThatDiffer 24 = .ok (.goto 38, 3) := by decide +kernel
theorem dX6_keysThatDiffer_27 : decode cX6_keysThatDiffer 27 = .ok (.aload_n 1, 1) := by decide +kernel
theorem dX6_keysThatDiffer_28 : decode cX6_keysThatDiffer 28 = .ok (.iload_n 2, 1) := by decide +kernel
theorem dX6_keysThatDiffer_29 : decode cX6_keysThatDiffer 29 = .ok (.aload_n 0, 1) := by decide +kernel
theorem dX6_keysThatDiffer_30 : decode cX6_keysThatDiffer 30 = .ok (.iload 4, 2) := by decide +kernel
theorem dX6_keysThatDiffer_32 : decode cX6_keysThatDiffer 32 = .ok (.iload_n 2, 1) := by decide +kernel
theorem dX6_keysThatDiffer_33 : decode cX6_keysThatDiffer 33 = .ok (.invokevirtual 89, 3) := by decide +kernel
theorem dX6_keysThatDiffer_36 : decode cX6_keysThatDiffer 36 = .ok (.invokevirtual 98, 3) := by decide +kernel
theorem dX6_keysThatDiffer_39 : decode cX6_keysThatDiffer 39 = .ok (.istore 5, 2) := by decide +kernel
theorem dX6_keysThatDiffer_41 : decode cX6_keysThatDiffer 41 = .ok (.iload 5, 2) := by decide +kernel
theorem dX6_keysThatDiffer_43 : decode cX6_keysThatDiffer 43 = .ok (.iconst (-1), 1) := by decide +kernel
theorem dX6_keysThatDiffer_44 : decode cX6_keysThatDiffer 44 = .ok (.if_icmp .eq 18, 3) := by decide +kernel
theorem dX6_keysThatDiffer_47 : decode cX6_keysThatDiffer 47 = .ok (.aload_n 0, 1) := by decide +kernel
theorem dX6_keysThatDiffer_48 : decode cX6_keysThatDiffer 48 = .ok (.iload 4, 2) := by decide +kernel
theorem dX6_keysThatDiffer_50 : decode cX6_keysThatDiffer 50 = .ok (.aload_n 1, 1) := by decide +kernel
theorem dX6_keysThatDiffer_51 : decode cX6_keysThatDiffer 51 = .ok (.iload 5, 2) := by decide +kernel
theorem dX6_keysThatDiffer_53 : decode cX6_keysThatDiffer 53 = .ok (.invokevirtual 105, 3) := by decide +kernel
theorem dX6_keysThatDiffer_56 : decode cX6_keysThatDiffer 56 = .ok (.ifCond .eq 6, 3) := by decide +kernel
theorem dX6_keysThatDiffer_59 : decode cX6_keysThatDiffer 59 = .ok (.iinc 3 1, 3) := by decide +kernel
theorem dX6_keysThatDiffer_62 : decode cX6_keysThatDiffer 62 = .ok (.iinc 4 1, 3) := by decide +kernel
theorem dX6_keysThatDiffer_65 : decode cX6_keysThatDiffer 65 = .ok (.goto (-60), 3) := by decide +kernel
theorem dX6_keysThatDiffer_68 : decode cX6_keysThatDiffer 68 = .ok (.iload_n 3, 1) := by decide +kernel
theorem dX6_keysThatDiffer_69 : decode cX6_keysThatDiffer 69 = .ok (.ireturn, 1) := by decide +kernel
def is_X6_keysThatDiffer (Rt : np_Rt) : List (Nat × np_Op) := [(0, np_push 1 (.int 0)), (1, nw_ist 1 3), (2, np_push 1 (.int 0)), (3, nw_ist 2 4), (5, np_ild 2 4), (7, np_ald 1 0), (8, nw_getf 6 7), (11, nq_ic (fun x y => y ≤ x) 68), (14, np_ald 1 0), (15, np_ild 2 4), (17, np_ild 1 2), (18, nw_callV 6 3 sp_X6_isLastOfKey 4 0 0 0 0), (21, nq_ifne 27), (24, np_goto 62), (27, np_ald 1 1), (28, np_ild 1 2), (29, np_ald 1 0), (30, np_ild 2 4), (32, np_ild 1 2), (33, nw_callV 6 3 sp_X6_key 3 0 0 0 0), (36, nw_callV 6 3 sp_X6_lastRowOf 4 0 0 0 0), (39, nw_ist 2 5), (41, np_ild 2 5), (43, np_push 1 (.int (-1))), (44, nq_ic (fun x y => x = y) 62), (47, np_ald 1 0), (48, np_ild 2 4), (50, np_ald 1 1), (51, np_ild 2 5), (53, nw_callV 6 4 sp_X6_differs 5 0 0 0 0), (56, nq_if (fun x => x = 0) 62), (59, nw_iinc 3 1), (62, nw_iinc 4 1), (65, np_goto 5), (68, np_ild 1 3), (69, np_ret Rt)]
set_option maxRecDepth 20000 in
theorem so_X6_keysThatDiffer {X : np_Ctx} {Rt : np_Rt} (hX : np_ok RX6 cX6_keysThatDiffer 6 5 112 0 0 .ireturn X) (hR : ∀ st w ce sl, Rt st w ce sl → X.2.2.1 st w ce sl) : ∀ q ∈ is_X6_keysThatDiffer Rt, np_S X q.1 q.2 :=
  List.forall_mem_cons.mpr ⟨np_s_iconst hX dX6_keysThatDiffer_0 (by decide), List.forall_mem_cons.mpr ⟨np_S.mono (op := np_ist 1 3) (np_s_istore_n hX dX6_keysThatDiffer_1 rfl (by decide)) nw_ist_le, List.forall_mem_cons.mpr ⟨np_s_iconst hX dX6_keysThatDiffer_2 (by decide), List.forall_mem_cons.mpr ⟨np_S.mono (op := np_ist 2 4) (np_s_istore hX dX6_keysThatDiffer_3 (by decide)) nw_ist_le, List.forall_mem_cons.mpr ⟨np_s_iload hX dX6_keysThatDiffer_5, List.forall_mem_cons.mpr ⟨np_s_aload_n hX dX6_keysThatDiffer_7 rfl, List.forall_mem_cons.mpr ⟨np_S.mono (op := np_getf 6 7) (np_s_getf hX dX6_keysThatDiffer_8 (C := RX6) (T := TX6) (N := 12) rfl guX6 (by decide) gw356) nw_getf_le, List.forall_mem_cons.mpr ⟨np_S.mono (op := np_ic (fun x y => y ≤ x) 68) (np_s_icmp_ge hX dX6_keysThatDiffer_11 (by decide)) nq_ic_le, List.forall_mem_cons.mpr ⟨np_s_aload_n hX dX6_keysThatDiffer_14 rfl, List.forall_mem_cons.mpr ⟨np_s_iload hX dX6_keysThatDiffer_15, List.forall_mem_cons.mpr ⟨np_s_iload_n hX dX6_keysThatDiffer_17 rfl, List.forall_mem_cons.mpr ⟨np_S.mono (op := np_callV 6 3 sp_X6_isLastOfKey 4 0 0 0 0) (np_s_callV hX C_X6_isLastOfKey dX6_keysThatDiffer_18 (q := (RX6, TX6, 12)) rfl rfl gw1481 gw72 gw1478 gw1480 gw54 ⟨by decide, by decide, by decide⟩ (by decide) (by decide)) nw_callV_le, List.forall_mem_cons.mpr ⟨np_S.mono (op := np_ifne 27) (np_s_if_ne hX dX6_keysThatDiffer_21 (by decide)) nq_ifne_le, List.forall_mem_cons.mpr ⟨np_s_goto hX dX6_keysThatDiffer_24 (by decide), List.forall_mem_cons.mpr ⟨np_s_aload_n hX dX6_keysThatDiffer_27 rfl, List.forall_mem_cons.mpr ⟨np_s_iload_n hX dX6_keysThatDiffer_28 rfl, List.forall_mem_cons.mpr ⟨np_s_aload_n hX dX6_keysThatDiffer_29 rfl, List.forall_mem_cons.mpr ⟨np_s_iload hX dX6_keysThatDiffer_30, List.forall_mem_cons.mpr ⟨np_s_iload_n hX dX6_keysThatDiffer_32 rfl, List.forall_mem_cons.mpr ⟨np_S.mono (op := np_callV 6 3 sp_X6_key 3 0 0 0 0) (np_s_callV hX C_X6_key dX6_keysThatDiffer_33 (q := (RX6, TX6, 12)) rfl rfl gw1111 gw72 gw1108 gw1109 gw1110 ⟨by decide, by decide, by decide⟩ (by decide) (by decide)) nw_callV_le, List.forall_mem_cons.mpr ⟨np_S.mono (op := np_callV 6 3 sp_X6_lastRowOf 4 0 0 0 0) (np_s_callV hX C_X6_lastRowOf dX6_keysThatDiffer_36 (q := (RX6, TX6, 12)) rfl rfl gw1485 gw72 gw1482 gw1484 gw55 ⟨by decide, by decide, by decide⟩ (by decide) (by decide)) nw_callV_le, List.forall_mem_cons.mpr ⟨np_S.mono (op := np_ist 2 5) (np_s_istore hX dX6_keysThatDiffer_39 (by decide)) nw_ist_le, List.forall_mem_cons.mpr ⟨np_s_iload hX dX6_keysThatDiffer_41, List.forall_mem_cons.mpr ⟨np_s_iconst hX dX6_keysThatDiffer_43 (by decide), List.forall_mem_cons.mpr ⟨np_S.mono (op := np_ic (fun x y => x = y) 62) (np_s_icmp_eq hX dX6_keysThatDiffer_44 (by decide)) nq_ic_le, List.forall_mem_cons.mpr ⟨np_s_aload_n hX dX6_keysThatDiffer_47 rfl, List.forall_mem_cons.mpr ⟨np_s_iload hX dX6_keysThatDiffer_48, List.forall_mem_cons.mpr ⟨np_s_aload_n hX dX6_keysThatDiffer_50 rfl, List.forall_mem_cons.mpr ⟨np_s_iload hX dX6_keysThatDiffer_51, List.forall_mem_cons.mpr ⟨np_S.mono (op := np_callV 6 4 sp_X6_differs 5 0 0 0 0) (np_s_callV hX C_X6_differs dX6_keysThatDiffer_53 (q := (RX6, TX6, 12)) rfl rfl gw1493 gw72 gw1490 gw1492 gw56 ⟨by decide, by decide, by decide⟩ (by decide) (by decide)) nw_callV_le, List.forall_mem_cons.mpr ⟨np_S.mono (op := np_if (fun x => x = 0) 62) (np_s_if_eq hX dX6_keysThatDiffer_56 (by decide)) nq_if_le, List.forall_mem_cons.mpr ⟨np_S.mono (op := np_iinc 3 1) (np_s_iinc hX dX6_keysThatDiffer_59 (by decide)) nw_iinc_le, List.forall_mem_cons.mpr ⟨np_S.mono (op := np_iinc 4 1) (np_s_iinc hX dX6_keysThatDiffer_62 (by decide)) nw_iinc_le, List.forall_mem_cons.mpr ⟨np_s_goto hX dX6_keysThatDiffer_65 (by decide), List.forall_mem_cons.mpr ⟨np_s_iload_n hX dX6_keysThatDiffer_68 rfl, List.forall_mem_cons.mpr ⟨np_S.mono (op := np_ret X.2.2.1) (np_s_ret hX dX6_keysThatDiffer_69) (nq_ret_le hR), fun _ h => nomatch h⟩⟩⟩⟩⟩⟩⟩⟩⟩⟩⟩⟩⟩⟩⟩⟩⟩⟩⟩⟩⟩⟩⟩⟩⟩⟩⟩⟩⟩⟩⟩⟩⟩⟩⟩⟩
noncomputable def m_X6_keysThatDiffer_5 : Nat → pw_S → Nat → Nat → Int32 → Int32 → Int32 → pw_R Int32
| 0, _, _, _, _, _, _ => none
| N + 1, S, v0, v1, v2, v3, v4 =>
 if (S 54 v0 7) ≤ v4 then
 (some (S, v3))
 else
 (pw_b (m_X6_isLastOfKey S v0 v4 v2) fun S1 r4 =>
 if r4 = 0 then
 (pw_l (v4 + 1 : Int32) fun z6 =>
 m_X6_keysThatDiffer_5 N S1 v0 v1 v2 v3 z6)
 else
 (pw_b (m_X6_key S1 v0 v4 v2) fun S7 r10 =>
 pw_b (m_X6_lastRowOf S7 v1 v2 r10) fun S12 r15 =>
 pw_l (r15 : Int32) fun z17 =>
 if z17 = (-1) then
 (pw_l (v4 + 1 : Int32) fun z18 =>
 m_X6_keysThatDiffer_5 N S12 v0 v1 v2 v3 z18)
 else
 (pw_b (m_X6_differs S12 v0 v4 v1 z17) fun S19 r22 =>
 if r22 = 0 then
 (pw_l (v4 + 1 : Int32) fun z24 =>
 m_X6_keysThatDiffer_5 N S19 v0 v1 v2 v3 z24)
 else
 (pw_l (v3 + 1 : Int32) fun z25 =>
 pw_l (v4 + 1 : Int32) fun z26 =>
 m_X6_keysThatDiffer_5 N S19 v0 v1 v2 z25 z26))))
set_option maxRecDepth 100000 in
set_option maxHeartbeats 8000000 in
theorem L_X6_keysThatDiffer_5 {X : np_Ctx} (hX : np_ok RX6 cX6_keysThatDiffer 6 5 112 0 0 .ireturn X) {Q : Option Value → np_W → Prop} {q n : Nat} (hR : ∀ st w ce sl, np_rt (some .int) 0 0 Q st w ce sl → X.2.2.1 st w ce sl) : ∀ (N : Nat) (S : pw_S) (v0 : Nat) (v1 : Nat) (v2 : Int32) (v3 : Int32) (v4 : Int32) (f : Nat → Option np_E) (hv0 : pw_ok q 54 v0 = true) (hv1 : pw_ok q 54 v1 = true), pw_W q (n, f) S → pw_p (m_X6_keysThatDiffer_5 N S v0 v1 v2 v3 v4) (fun S' r => ∀ f', pw_W q (n, f') S' → Q (some (.int r)) (n, f')) → np_G X 5 [(0, .ref (pw_pl 54 v0)), (1, .ref (pw_pl 54 v1)), (2, .int v2), (3, .int v3), (4, .int v4)] [] (n, f) 0 0 := by
  intro N
  induction N with
  | zero =>
    intro S v0 v1 v2 v3 v4 f hv0 hv1 hW h
    exact (pw_pn h).elim
  | succ N ih =>
    intro S v0 v1 v2 v3 v4 f hv0 hv1 hW h
    unfold m_X6_keysThatDiffer_5 at h
    refine np_soundW (so_X6_keysThatDiffer hX hR) [5] 400 5 _ _ _ _ _ ?_
    conv => whnf
    refine np_rd_i (hW.g hv0) ?_
    conv => whnf
    refine pw_br h (fun _ h => ?_) (fun _ h => ?_)
    · conv => whnf
      exact ⟨Nat.le_of_ble_eq_true rfl, Nat.le_of_ble_eq_true rfl, ⟨_, rfl⟩, _, fun _ _ h9 => h9, pw_ps h _ hW⟩
    · conv => whnf
      refine np_rd_i (hW.g hv0) ?_
      conv => whnf
      refine ⟨q, S, v0, v4, v2, rfl, hv0, hW, pw_bd h (fun S1 r4 h f2 hW3 => ?_)⟩
      conv => whnf
      refine pw_br h (fun _ h => ?_) (fun _ h => ?_)
      · conv => whnf
        refine pw_st h (fun z6 h => ?_)
        conv => whnf
        exact np_gl (ih S1 v0 v1 v2 v3 z6 f2 hv0 hv1 hW3 h) ⟨rfl, rfl, rfl, rfl, rfl, trivial⟩
      · conv => whnf
        refine np_rd_i (hW3.g hv0) ?_
        conv => whnf
        refine ⟨q, S1, v0, v4, v2, rfl, hv0, hW3, pw_bd h (fun S7 r10 h f8 hW9 => ?_)⟩
        conv => whnf
        refine np_rd_i (hW9.g hv1) ?_
        conv => whnf
        refine ⟨q, S7, v1, v2, r10, rfl, hv1, hW9, pw_bd h (fun S12 r15 h f13 hW14 => ?_)⟩
        conv => whnf
        refine pw_st h (fun z17 h => ?_)
        conv => whnf
        refine pw_br h (fun _ h => ?_) (fun _ h => ?_)
        · conv => whnf
          refine pw_st h (fun z18 h => ?_)
          conv => whnf
          exact np_gl (ih S12 v0 v1 v2 v3 z18 f13 hv0 hv1 hW14 h) ⟨rfl, rfl, rfl, rfl, rfl, trivial⟩
        · conv => whnf
          refine np_rd_i (hW14.g hv0) ?_
          conv => whnf
          refine ⟨q, S12, v0, v4, v1, z17, rfl, hv0, hv1, hW14, pw_bd h (fun S19 r22 h f20 hW21 => ?_)⟩
          conv => whnf
          refine pw_br h (fun _ h => ?_) (fun _ h => ?_)
          · conv => whnf
            refine pw_st h (fun z24 h => ?_)
            conv => whnf
            exact np_gl (ih S19 v0 v1 v2 v3 z24 f20 hv0 hv1 hW21 h) ⟨rfl, rfl, rfl, rfl, rfl, trivial⟩
          · conv => whnf
            refine pw_st h (fun z25 h => ?_)
            conv => whnf
            refine pw_st h (fun z26 h => ?_)
            conv => whnf
            exact np_gl (ih S19 v0 v1 v2 z25 z26 f20 hv0 hv1 hW21 h) ⟨rfl, rfl, rfl, rfl, rfl, trivial⟩
noncomputable def m_X6_keysThatDiffer (S : pw_S) (i0 : Nat) (i1 : Nat) (x2 : Int32) : pw_R Int32 :=
 pw_l (0 : Int32) fun z27 =>
 pw_l (0 : Int32) fun z28 =>
 m_X6_keysThatDiffer_5 (pw_F 20000) S i0 i1 x2 z27 z28
def sp_X6_keysThatDiffer : np_Sp := fun vs w Q => ∃ (q : Nat) (S : pw_S) (i0 : Nat) (i1 : Nat) (x2 : Int32), vs = [.ref (pw_pl 54 i0), .ref (pw_pl 54 i1), .int x2] ∧ pw_ok q 54 i0 = true ∧ pw_ok q 54 i1 = true ∧ pw_W q w S ∧ pw_p (m_X6_keysThatDiffer S i0 i1 x2) (fun S' r => ∀ f', pw_W q (w.1, f') S' → Q (some (.int r)) (w.1, f'))
set_option maxRecDepth 100000 in
set_option maxHeartbeats 8000000 in
theorem C_X6_keysThatDiffer : np_C yX6_keysThatDiffer cX6_keysThatDiffer 6 (some .int) 5 112 0 0 sp_X6_keysThatDiffer := by
  refine np_of (by decide) ?_
  intro X vs w Q hsp hX hmn hRt hlt
  obtain ⟨q, S, i0, i1, x2, rfl, hi0, hi1, hW, h⟩ := hsp
  obtain ⟨n, f⟩ := w
  unfold m_X6_keysThatDiffer at h
  have hR : ∀ st w ce sl, np_rt (some .int) 0 0 Q st w ce sl → X.2.2.1 st w ce sl := fun _ _ _ _ h => by rw [hRt]; exact h
  refine np_soundW (so_X6_keysThatDiffer hX hR) [5] 400 0 _ _ _ _ _ ?_
  conv => whnf
  refine pw_st h (fun z27 h => ?_)
  conv => whnf
  refine pw_st h (fun z28 h => ?_)
  conv => whnf
  exact np_gl (L_X6_keysThatDiffer_5 hX hR (pw_F 20000) S i0 i1 x2 z27 z28 f hi0 hi1 hW h) ⟨rfl, rfl, rfl, rfl, rfl, trivial⟩
theorem dX7_hasPlace_0 : decode cX7_hasPlace 0 = .ok (.iload_n 1, 1) := by decide +kernel
theorem dX7_hasPlace_1 : decode cX7_hasPlace 1 = .ok (.ifCond .lt 15, 3) := by decide +kernel
theorem dX7_hasPlace_4 : decode cX7_hasPlace 4 = .ok (.iload_n 1, 1) := by decide +kernel
theorem dX7_hasPlace_5 : decode cX7_hasPlace 5 = .ok (.aload_n 0, 1) := by decide +kernel
theorem dX7_hasPlace_6 : decode cX7_hasPlace 6 = .ok (.getfield 19, 3) := by decide +kernel
theorem dX7_hasPlace_9 : decode cX7_hasPlace 9 = .ok (.if_icmp .gt 7, 3) := by decide +kernel
theorem dX7_hasPlace_12 : decode cX7_hasPlace 12 = .ok (.iconst 1, 1) := by decide +kernel
theorem dX7_hasPlace_13 : decode cX7_hasPlace 13 = .ok (.goto 4, 3) := by decide +kernel
theorem dX7_hasPlace_16 : decode cX7_hasPlace 16 = .ok (.iconst 0, 1) := by decide +kernel
theorem dX7_hasPlace_17 : decode cX7_hasPlace 17 = .ok (.ireturn, 1) := by decide +kernel
def is_X7_hasPlace (Rt : np_Rt) : List (Nat × np_Op) := [(0, np_ild 1 1), (1, nq_if (fun x => x < 0) 16), (4, np_ild 1 1), (5, np_ald 1 0), (6, nw_getf 7 1), (9, nq_ic (fun x y => y < x) 16), (12, np_push 1 (.int 1)), (13, np_goto 17), (16, np_push 1 (.int 0)), (17, np_ret Rt)]
set_option maxRecDepth 20000 in
theorem so_X7_hasPlace {X : np_Ctx} {Rt : np_Rt} (hX : np_ok RX7 cX7_hasPlace 2 0 0 0 0 .ireturn X) (hR : ∀ st w ce sl, Rt st w ce sl → X.2.2.1 st w ce sl) : ∀ q ∈ is_X7_hasPlace Rt, np_S X q.1 q.2 :=
  List.forall_mem_cons.mpr ⟨np_s_iload_n hX dX7_hasPlace_0 rfl, List.forall_mem_cons.mpr ⟨np_S.mono (op := np_if (fun x => x < 0) 16) (np_s_if_lt hX dX7_hasPlace_1 (by decide)) nq_if_le, List.forall_mem_cons.mpr ⟨np_s_iload_n hX dX7_hasPlace_4 rfl, List.forall_mem_cons.mpr ⟨np_s_aload_n hX dX7_hasPlace_5 rfl, List.forall_mem_cons.mpr ⟨np_S.mono (op := np_getf 7 1) (np_s_getf hX dX7_hasPlace_6 (C := RX7) (T := TX7) (N := 3) rfl guX7 (by decide) gw210) nw_getf_le, List.forall_mem_cons.mpr ⟨np_S.mono (op := np_ic (fun x y => y < x) 16) (np_s_icmp_gt hX dX7_hasPlace_9 (by decide)) nq_ic_le, List.forall_mem_cons.mpr ⟨np_s_iconst hX dX7_hasPlace_12 (by decide), List.forall_mem_cons.mpr ⟨np_s_goto hX dX7_hasPlace_13 (by decide), List.forall_mem_cons.mpr ⟨np_s_iconst hX dX7_hasPlace_16 (by decide), List.forall_mem_cons.mpr ⟨np_S.mono (op := np_ret X.2.2.1) (np_s_ret hX dX7_hasPlace_17) (nq_ret_le hR), fun _ h => nomatch h⟩⟩⟩⟩⟩⟩⟩⟩⟩⟩
noncomputable def m_X7_hasPlace (S : pw_S) (i0 : Nat) (x1 : Int32) : pw_R Int32 :=
 if x1 < 0 then
 (some (S, 0))
 else
 (if (S 53 i0 1) < x1 then
 (some (S, 0))
 else
 (some (S, 1)))
def sp_X7_hasPlace : np_Sp := fun vs w Q => ∃ (q : Nat) (S : pw_S) (i0 : Nat) (x1 : Int32), vs = [.ref (pw_pl 53 i0), .int x1] ∧ pw_ok q 53 i0 = true ∧ pw_W q w S ∧ pw_p (m_X7_hasPlace S i0 x1) (fun S' r => ∀ f', pw_W q (w.1, f') S' → Q (some (.int r)) (w.1, f'))
set_option maxRecDepth 100000 in
set_option maxHeartbeats 8000000 in
theorem C_X7_hasPlace : np_C yX7_hasPlace cX7_hasPlace 2 (some .boolean) 0 0 0 0 sp_X7_hasPlace := by
  refine np_of (by decide) ?_
  intro X vs w Q hsp hX hmn hRt hlt
  obtain ⟨q, S, i0, x1, rfl, hi0, hW, h⟩ := hsp
  obtain ⟨n, f⟩ := w
  unfold m_X7_hasPlace at h
  have hR : ∀ st w ce sl, np_rt (some .boolean) 0 0 Q st w ce sl → X.2.2.1 st w ce sl := fun _ _ _ _ h => by rw [hRt]; exact h
  refine np_soundW (so_X7_hasPlace hX hR) [] 400 0 _ _ _ _ _ ?_
  conv => whnf
  refine pw_br h (fun _ h => ?_) (fun _ h => ?_)
  · conv => whnf
    exact ⟨Nat.le_of_ble_eq_true rfl, Nat.le_of_ble_eq_true rfl, ⟨_, rfl, by decide⟩, _, fun _ _ h9 => h9, pw_ps h _ hW⟩
  · conv => whnf
    refine np_rd_i (hW.g hi0) ?_
    conv => whnf
    refine pw_br h (fun _ h => ?_) (fun _ h => ?_)
    · conv => whnf
      exact ⟨Nat.le_of_ble_eq_true rfl, Nat.le_of_ble_eq_true rfl, ⟨_, rfl, by decide⟩, _, fun _ _ h9 => h9, pw_ps h _ hW⟩
    · conv => whnf
      exact ⟨Nat.le_of_ble_eq_true rfl, Nat.le_of_ble_eq_true rfl, ⟨_, rfl, by decide⟩, _, fun _ _ h9 => h9, pw_ps h _ hW⟩
theorem dX7_takes_0 : decode cX7_takes 0 = .ok (.aload_n 0, 1) := by decide +kernel
theorem dX7_takes_1 : decode cX7_takes 1 = .ok (.getfield 15, 3) := by decide +kernel
theorem dX7_takes_4 : decode cX7_takes 4 = .ok (.ifCond .eq 19, 3) := by decide +kernel
theorem dX7_takes_7 : decode cX7_takes 7 = .ok (.aload_n 0, 1) := by decide +kernel
theorem dX7_takes_8 : decode cX7_takes 8 = .ok (.getfield 19, 3) := by decide +kernel
theorem dX7_takes_11 : decode cX7_takes 11 = .ok (.iload_n 1, 1) := by decide +kernel
theorem dX7_takes_12 : decode cX7_takes 12 = .ok (.iadd, 1) := by decide +kernel
theorem dX7_takes_13 : decode cX7_takes 13 = .ok (.sipush 300, 3) := by decide +kernel
theorem dX7_takes_16 : decode cX7_takes 16 = .ok (.if_icmp .gt 7, 3) := by decide +kernel
theorem dX7_takes_19 : decode cX7_takes 19 = .ok (.iconst 1, 1) := by decide +kernel
theorem dX7_takes_20 : decode cX7_takes 20 = .ok (.goto 4, 3) := by decide +kernel
theorem dX7_takes_23 : decode cX7_takes 23 = .ok (.iconst 0, 1) := by decide +kernel
theorem dX7_takes_24 : decode cX7_takes 24 = .ok (.ireturn, 1) := by decide +kernel
def is_X7_takes (Rt : np_Rt) : List (Nat × np_Op) := [(0, np_ald 1 0), (1, nw_getf 7 2), (4, nq_if (fun x => x = 0) 23), (7, np_ald 1 0), (8, nw_getf 7 1), (11, np_ild 1 1), (12, np_ib (fun x y => x + y)), (13, np_push 3 (.int 300)), (16, nq_ic (fun x y => y < x) 23), (19, np_push 1 (.int 1)), (20, np_goto 24), (23, np_push 1 (.int 0)), (24, np_ret Rt)]
set_option maxRecDepth 20000 in
theorem so_X7_takes {X : np_Ctx} {Rt : np_Rt} (hX : np_ok RX7 cX7_takes 2 0 0 0 0 .ireturn X) (hR : ∀ st w ce sl, Rt st w ce sl → X.2.2.1 st w ce sl) : ∀ q ∈ is_X7_takes Rt, np_S X q.1 q.2 :=
  List.forall_mem_cons.mpr ⟨np_s_aload_n hX dX7_takes_0 rfl, List.forall_mem_cons.mpr ⟨np_S.mono (op := np_getf 7 2) (np_s_getf hX dX7_takes_1 (C := RX7) (T := TX7) (N := 3) rfl guX7 (by decide) gw212) nw_getf_le, List.forall_mem_cons.mpr ⟨np_S.mono (op := np_if (fun x => x = 0) 23) (np_s_if_eq hX dX7_takes_4 (by decide)) nq_if_le, List.forall_mem_cons.mpr ⟨np_s_aload_n hX dX7_takes_7 rfl, List.forall_mem_cons.mpr ⟨np_S.mono (op := np_getf 7 1) (np_s_getf hX dX7_takes_8 (C := RX7) (T := TX7) (N := 3) rfl guX7 (by decide) gw210) nw_getf_le, List.forall_mem_cons.mpr ⟨np_s_iload_n hX dX7_takes_11 rfl, List.forall_mem_cons.mpr ⟨np_s_iadd hX dX7_takes_12, List.forall_mem_cons.mpr ⟨np_s_sipush hX dX7_takes_13 (by decide), List.forall_mem_cons.mpr ⟨np_S.mono (op := np_ic (fun x y => y < x) 23) (np_s_icmp_gt hX dX7_takes_16 (by decide)) nq_ic_le, List.forall_mem_cons.mpr ⟨np_s_iconst hX dX7_takes_19 (by decide), List.forall_mem_cons.mpr ⟨np_s_goto hX dX7_takes_20 (by decide), List.forall_mem_cons.mpr ⟨np_s_iconst hX dX7_takes_23 (by decide), List.forall_mem_cons.mpr ⟨np_S.mono (op := np_ret X.2.2.1) (np_s_ret hX dX7_takes_24) (nq_ret_le hR), fun _ h => nomatch h⟩⟩⟩⟩⟩⟩⟩⟩⟩⟩⟩⟩⟩
noncomputable def m_X7_takes (S : pw_S) (i0 : Nat) (x1 : Int32) : pw_R Int32 :=
 if (S 53 i0 2) = 0 then
 (some (S, 0))
 else
 (if 300 < ((S 53 i0 1) + x1) then
 (some (S, 0))
 else
 (some (S, 1)))
def sp_X7_takes : np_Sp := fun vs w Q => ∃ (q : Nat) (S : pw_S) (i0 : Nat) (x1 : Int32), vs = [.ref (pw_pl 53 i0), .int x1] ∧ pw_ok q 53 i0 = true ∧ pw_W q w S ∧ pw_p (m_X7_takes S i0 x1) (fun S' r => ∀ f', pw_W q (w.1, f') S' → Q (some (.int r)) (w.1, f'))
set_option maxRecDepth 100000 in
set_option maxHeartbeats 8000000 in
theorem C_X7_takes : np_C yX7_takes cX7_takes 2 (some .boolean) 0 0 0 0 sp_X7_takes := by
  refine np_of (by decide) ?_
  intro X vs w Q hsp hX hmn hRt hlt
  obtain ⟨q, S, i0, x1, rfl, hi0, hW, h⟩ := hsp
  obtain ⟨n, f⟩ := w
  unfold m_X7_takes at h
  have hR : ∀ st w ce sl, np_rt (some .boolean) 0 0 Q st w ce sl → X.2.2.1 st w ce sl := fun _ _ _ _ h => by rw [hRt]; exact h
  refine np_soundW (so_X7_takes hX hR) [] 400 0 _ _ _ _ _ ?_
  conv => whnf
  refine np_rd_i (hW.g hi0) ?_
  conv => whnf
  refine pw_br h (fun _ h => ?_) (fun _ h => ?_)
  · conv => whnf
    exact ⟨Nat.le_of_ble_eq_true rfl, Nat.le_of_ble_eq_true rfl, ⟨_, rfl, by decide⟩, _, fun _ _ h9 => h9, pw_ps h _ hW⟩
  · conv => whnf
    refine np_rd_i (hW.g hi0) ?_
    conv => whnf
    refine pw_br h (fun _ h => ?_) (fun _ h => ?_)
    · conv => whnf
      exact ⟨Nat.le_of_ble_eq_true rfl, Nat.le_of_ble_eq_true rfl, ⟨_, rfl, by decide⟩, _, fun _ _ h9 => h9, pw_ps h _ hW⟩
    · conv => whnf
      exact ⟨Nat.le_of_ble_eq_true rfl, Nat.le_of_ble_eq_true rfl, ⟨_, rfl, by decide⟩, _, fun _ _ h9 => h9, pw_ps h _ hW⟩
theorem dX7_append_0 : decode cX7_append 0 = .ok (.aload_n 0, 1) := by decide +kernel
theorem dX7_append_1 : decode cX7_append 1 = .ok (.getfield 19, 3) := by decide +kernel
theorem dX7_append_4 : decode cX7_append 4 = .ok (.ifCond .lt 15, 3) := by decide +kernel
theorem dX7_append_7 : decode cX7_append 7 = .ok (.aload_n 0, 1) := by decide +kernel
theorem dX7_append_8 : decode cX7_append 8 = .ok (.getfield 19, 3) := by decide +kernel
theorem dX7_append_11 : decode cX7_append 11 = .ok (.aload_n 0, 1) := by decide +kernel
theorem dX7_append_12 : decode cX7_append 12 = .ok (.getfield 9, 3) := by decide +kernel
theorem dX7_append_15 : decode cX7_append 15 = .ok (.arraylength, 1) := by decide +kernel
theorem dX7_append_16 : decode cX7_append 16 = .ok (.if_icmp .lt 4, 3) := by decide +kernel
theorem dX7_append_19 : decode cX7_append 19 = .ok (.return_, 1) := by decide +kernel
theorem dX7_append_20 : decode cX7_append 20 = .ok (.aload_n 0, 1) := by decide +kernel
theorem dX7_append_21 : decode cX7_append 21 = .ok (.getfield 9, 3) := by decide +kernel
theorem dX7_append_24 : decode cX7_append 24 = .ok (.aload_n 0, 1) := by decide +kernel
theorem dX7_append_25 : decode cX7_append 25 = .ok (.getfield 19, 3) := by decide +kernel
theorem dX7_append_28 : decode cX7_append 28 = .ok (.iload_n 1, 1) := by decide +kernel
theorem dX7_append_29 : decode cX7_append 29 = .ok (.i2c, 1) := by decide +kernel
theorem dX7_append_30 : decode cX7_append 30 = .ok (.castore, 1) := by decide +kernel
theorem dX7_append_31 : decode cX7_append 31 = .ok (.aload_n 0, 1) := by decide +kernel
theorem dX7_append_32 : decode cX7_append 32 = .ok (.dup, 1) := by decide +kernel
theorem dX7_append_33 : decode cX7_append 33 = .ok (.getfield 19, 3) := by decide +kernel
theorem dX7_append_36 : decode cX7_append 36 = .ok (.iconst 1, 1) := by decide +kernel
theorem dX7_append_37 : decode cX7_append 37 = .ok (.iadd, 1) := by decide +kernel
theorem dX7_append_38 : decode cX7_append 38 = .ok (.putfield 19, 3) := by decide +kernel
theorem dX7_append_41 : decode cX7_append 41 = .ok (.return_, 1) := by decide +kernel
def is_X7_append (Rt : np_Rt) : List (Nat × np_Op) := [(0, np_ald 1 0), (1, nw_getf 7 1), (4, nq_if (fun x => x < 0) 19), (7, np_ald 1 0), (8, nw_getf 7 1), (11, np_ald 1 0), (12, nw_getf 7 0), (15, nw_alen), (16, nq_ic (fun x y => x < y) 20), (19, np_ret Rt), (20, np_ald 1 0), (21, nw_getf 7 0), (24, np_ald 1 0), (25, nw_getf 7 1), (28, np_ild 1 1), (29, np_iu (fun x => (x.toUInt32 % 65536).toInt32)), (30, nw_iastT .char), (31, np_ald 1 0), (32, nq_dup), (33, nw_getf 7 1), (36, np_push 1 (.int 1)), (37, np_ib (fun x y => x + y)), (38, nw_putf 7 1 (.int)), (41, np_ret Rt)]
set_option maxRecDepth 20000 in
theorem so_X7_append {X : np_Ctx} {Rt : np_Rt} (hX : np_ok RX7 cX7_append 2 0 0 0 0 .return_ X) (hR : ∀ st w ce sl, Rt st w ce sl → X.2.2.1 st w ce sl) : ∀ q ∈ is_X7_append Rt, np_S X q.1 q.2 :=
  List.forall_mem_cons.mpr ⟨np_s_aload_n hX dX7_append_0 rfl, List.forall_mem_cons.mpr ⟨np_S.mono (op := np_getf 7 1) (np_s_getf hX dX7_append_1 (C := RX7) (T := TX7) (N := 3) rfl guX7 (by decide) gw210) nw_getf_le, List.forall_mem_cons.mpr ⟨np_S.mono (op := np_if (fun x => x < 0) 19) (np_s_if_lt hX dX7_append_4 (by decide)) nq_if_le, List.forall_mem_cons.mpr ⟨np_s_aload_n hX dX7_append_7 rfl, List.forall_mem_cons.mpr ⟨np_S.mono (op := np_getf 7 1) (np_s_getf hX dX7_append_8 (C := RX7) (T := TX7) (N := 3) rfl guX7 (by decide) gw210) nw_getf_le, List.forall_mem_cons.mpr ⟨np_s_aload_n hX dX7_append_11 rfl, List.forall_mem_cons.mpr ⟨np_S.mono (op := np_getf 7 0) (np_s_getf hX dX7_append_12 (C := RX7) (T := TX7) (N := 3) rfl guX7 (by decide) gw209) nw_getf_le, List.forall_mem_cons.mpr ⟨np_S.mono (op := np_alen) (np_s_alen hX dX7_append_15) nw_alen_le, List.forall_mem_cons.mpr ⟨np_S.mono (op := np_ic (fun x y => x < y) 20) (np_s_icmp_lt hX dX7_append_16 (by decide)) nq_ic_le, List.forall_mem_cons.mpr ⟨np_S.mono (op := np_ret X.2.2.1) (np_s_ret hX dX7_append_19) (nq_ret_le hR), List.forall_mem_cons.mpr ⟨np_s_aload_n hX dX7_append_20 rfl, List.forall_mem_cons.mpr ⟨np_S.mono (op := np_getf 7 0) (np_s_getf hX dX7_append_21 (C := RX7) (T := TX7) (N := 3) rfl guX7 (by decide) gw209) nw_getf_le, List.forall_mem_cons.mpr ⟨np_s_aload_n hX dX7_append_24 rfl, List.forall_mem_cons.mpr ⟨np_S.mono (op := np_getf 7 1) (np_s_getf hX dX7_append_25 (C := RX7) (T := TX7) (N := 3) rfl guX7 (by decide) gw210) nw_getf_le, List.forall_mem_cons.mpr ⟨np_s_iload_n hX dX7_append_28 rfl, List.forall_mem_cons.mpr ⟨np_s_i2c hX dX7_append_29, List.forall_mem_cons.mpr ⟨np_S.mono (op := np_iastT .char) (np_s_cast hX dX7_append_30) nw_iastT_le, List.forall_mem_cons.mpr ⟨np_s_aload_n hX dX7_append_31 rfl, List.forall_mem_cons.mpr ⟨np_S.mono (op := np_dup) (np_s_dup hX dX7_append_32) nq_dup_le, List.forall_mem_cons.mpr ⟨np_S.mono (op := np_getf 7 1) (np_s_getf hX dX7_append_33 (C := RX7) (T := TX7) (N := 3) rfl guX7 (by decide) gw210) nw_getf_le, List.forall_mem_cons.mpr ⟨np_s_iconst hX dX7_append_36 (by decide), List.forall_mem_cons.mpr ⟨np_s_iadd hX dX7_append_37, List.forall_mem_cons.mpr ⟨np_S.mono (op := np_putf 7 1 (.int)) (np_s_putf hX dX7_append_38 (C := RX7) (T := TX7) (N := 3) (ty0 := tyX7) rfl guX7 tyX7_ok nmX7 (by decide) gw210 rfl rfl) nw_putf_le, List.forall_mem_cons.mpr ⟨np_S.mono (op := np_ret X.2.2.1) (np_s_ret hX dX7_append_41) (nq_ret_le hR), fun _ h => nomatch h⟩⟩⟩⟩⟩⟩⟩⟩⟩⟩⟩⟩⟩⟩⟩⟩⟩⟩⟩⟩⟩⟩⟩⟩
noncomputable def m_X7_append (S : pw_S) (i0 : Nat) (x1 : Int32) : pw_R Unit :=
 if (S 53 i0 1) < 0 then
 (some (S, ()))
 else
 (if (S 53 i0 1) < 300 then
 (pw_c (np_inb (S 53 i0 1) 300) <|
 pw_l (pw_up S 11 i0 (upd (S 11 i0) ((S 53 i0 1) : Int32).toNatClampNeg (vp_nar .char (((x1).toUInt32 % 65536).toInt32)))) fun S1 =>
 pw_l (pw_up S1 53 i0 (upd (S1 53 i0) 1 ((S1 53 i0 1) + 1))) fun S4 =>
 some (S4, ()))
 else
 (some (S, ())))
def sp_X7_append : np_Sp := fun vs w Q => ∃ (q : Nat) (S : pw_S) (i0 : Nat) (x1 : Int32), vs = [.ref (pw_pl 53 i0), .int x1] ∧ pw_ok q 53 i0 = true ∧ pw_W q w S ∧ pw_p (m_X7_append S i0 x1) (fun S' r => ∀ f', pw_W q (w.1, f') S' → Q none (w.1, f'))
set_option maxRecDepth 100000 in
set_option maxHeartbeats 8000000 in
theorem C_X7_append : np_C yX7_append cX7_append 2 none 0 0 0 0 sp_X7_append := by
  refine np_of (by decide) ?_
  intro X vs w Q hsp hX hmn hRt hlt
  obtain ⟨q, S, i0, x1, rfl, hi0, hW, h⟩ := hsp
  obtain ⟨n, f⟩ := w
  unfold m_X7_append at h
  have hR : ∀ st w ce sl, np_rt none 0 0 Q st w ce sl → X.2.2.1 st w ce sl := fun _ _ _ _ h => by rw [hRt]; exact h
  refine np_soundW (so_X7_append hX hR) [] 400 0 _ _ _ _ _ ?_
  conv => whnf
  refine np_rd_i (hW.g hi0) ?_
  conv => whnf
  refine pw_br h (fun _ h => ?_) (fun _ h => ?_)
  · conv => whnf
    exact ⟨Nat.le_of_ble_eq_true rfl, Nat.le_of_ble_eq_true rfl, rfl, _, fun _ _ h9 => h9, pw_ps h _ hW⟩
  · conv => whnf
    refine np_rd_i (hW.g hi0) ?_
    conv => whnf
    refine np_rd_i (hW.g hi0) ?_
    conv => whnf
    refine np_rd_i (hW.g hi0) ?_
    conv => whnf
    refine pw_br h (fun _ h => ?_) (fun _ h => ?_)
    · conv => whnf
      refine np_rd_i (hW.g hi0) ?_
      conv => whnf
      refine np_rd_i (hW.g hi0) ?_
      conv => whnf
      refine np_rd_i (hW.g hi0) ?_
      conv => whnf
      refine pw_ck h (fun _ h => ?_)
      conv => whnf
      refine pw_wr (a := 11) (i := i0) (d := upd (S 11 i0) ((S 53 i0 1) : Int32).toNatClampNeg (vp_nar .char (((x1).toUInt32 % 65536).toInt32))) hW hi0 rfl h (fun S1 f2 hW3 h => ?_)
      conv => whnf
      refine np_rd_i (hW3.g hi0) ?_
      conv => whnf
      refine np_rd_i (hW3.g hi0) ?_
      conv => whnf
      refine pw_wr (a := 53) (i := i0) (d := upd (S1 53 i0) 1 ((S1 53 i0 1) + 1)) hW3 hi0 rfl h (fun S4 f5 hW6 h => ?_)
      conv => whnf
      exact ⟨Nat.le_of_ble_eq_true rfl, Nat.le_of_ble_eq_true rfl, rfl, _, fun _ _ h9 => h9, pw_ps h _ hW6⟩
    · conv => whnf
      exact ⟨Nat.le_of_ble_eq_true rfl, Nat.le_of_ble_eq_true rfl, rfl, _, fun _ _ h9 => h9, pw_ps h _ hW⟩
theorem dX7_endOfLine_0 : decode cX7_endOfLine 0 = .ok (.iload_n 1, 1) := by decide +kernel
theorem dX7_endOfLine_1 : decode cX7_endOfLine 1 = .ok (.iconst 0, 1) := by decide +kernel
theorem dX7_endOfLine_2 : decode cX7_endOfLine 2 = .ok (.invokestatic 23, 3) := by decide +kernel
theorem dX7_endOfLine_5 : decode cX7_endOfLine 5 = .ok (.istore_n 2, 1) := by decide +kernel
theorem dX7_endOfLine_6 : decode cX7_endOfLine 6 = .ok (.iload_n 2, 1) := by decide +kernel
theorem dX7_endOfLine_7 : decode cX7_endOfLine 7 = .ok (.aload_n 0, 1) := by decide +kernel
theorem dX7_endOfLine_8 : decode cX7_endOfLine 8 = .ok (.getfield 19, 3) := by decide +kernel
theorem dX7_endOfLine_11 : decode cX7_endOfLine 11 = .ok (.if_icmp .ge 21, 3) := by decide +kernel
theorem dX7_endOfLine_14 : decode cX7_endOfLine 14 = .ok (.aload_n 0, 1) := by decide +kernel
theorem dX7_endOfLine_15 : decode cX7_endOfLine 15 = .ok (.iload_n 2, 1) := by decide +kernel
theorem dX7_endOfLine_16 : decode cX7_endOfLine 16 = .ok (.invokevirtual 29, 3) := by decide +kernel
theorem dX7_endOfLine_19 : decode cX7_endOfLine 19 = .ok (.bipush 10, 2) := by decide +kernel
theorem dX7_endOfLine_21 : decode cX7_endOfLine 21 = .ok (.if_icmp .ne 5, 3) := by decide +kernel
theorem dX7_endOfLine_24 : decode cX7_endOfLine 24 = .ok (.iload_n 2, 1) := by decide +kernel
theorem dX7_endOfLine_25 : decode cX7_endOfLine 25 = .ok (.ireturn, 1) := by decide +kernel
theorem dX7_endOfLine_26 : decode cX7_endOfLine 26 = .ok (.iinc 2 1, 3) := by decide +kernel
theorem dX7_endOfLine_29 : decode cX7_endOfLine 29 = .ok (.goto (-23), 3) := by decide +kernel
theorem dX7_endOfLine_32 : decode cX7_endOfLine 32 = .ok (.aload_n 0, 1) := by decide +kernel
theorem dX7_endOfLine_33 : decode cX7_endOfLine 33 = .ok (.getfield 15, 3) := by decide +kernel
theorem dX7_endOfLine_36 : decode cX7_endOfLine 36 = .ok (.ifCond .ne 11, 3) := by decide +kernel
theorem dX7_endOfLine_39 : decode cX7_endOfLine 39 = .ok (.iload_n 1, 1) := by decide +kernel
theorem dX7_endOfLine_40 : decode cX7_endOfLine 40 = .ok (.aload_n 0, 1) := by decide +kernel
theorem dX7_endOfLine_41 : decode cX7_endOfLine 41 = .ok (.getfield 19, 3) := by decide +kernel
theorem dX7_endOfLine_44 : decode cX7_endOfLine 44 = .ok (.if_icmp .lt 7, 3) := by decide +kernel
theorem dX7_endOfLine_47 : decode cX7_endOfLine 47 = .ok (.iconst (-1), 1) := by decide +kernel
theorem dX7_endOfLine_48 : decode cX7_endOfLine 48 = .ok (.goto 7, 3) := by decide +kernel
theorem dX7_endOfLine_51 : decode cX7_endOfLine 51 = .ok (.aload_n 0, 1) := by decide +kernel
theorem dX7_endOfLine_52 : decode cX7_endOfLine 52 = .ok (.getfield 19, 3) := by decide +kernel
theorem dX7_endOfLine_55 : decode cX7_endOfLine 55 = .ok (.ireturn, 1) := by decide +kernel
def is_X7_endOfLine (Rt : np_Rt) : List (Nat × np_Op) := [(0, np_ild 1 1), (1, np_push 1 (.int 0)), (2, nw_mx 0 0), (5, nw_ist 1 2), (6, np_ild 1 2), (7, np_ald 1 0), (8, nw_getf 7 1), (11, nq_ic (fun x y => y ≤ x) 32), (14, np_ald 1 0), (15, np_ild 1 2), (16, nw_callV 7 2 sp_X7_unitAt 2 0 0 0 0), (19, np_push 2 (.int 10)), (21, nq_icne 26), (24, np_ild 1 2), (25, np_ret Rt), (26, nw_iinc 2 1), (29, np_goto 6), (32, np_ald 1 0), (33, nw_getf 7 2), (36, nq_ifne 47), (39, np_ild 1 1), (40, np_ald 1 0), (41, nw_getf 7 1), (44, nq_ic (fun x y => x < y) 51), (47, np_push 1 (.int (-1))), (48, np_goto 55), (51, np_ald 1 0), (52, nw_getf 7 1), (55, np_ret Rt)]
set_option maxRecDepth 20000 in
theorem so_X7_endOfLine {X : np_Ctx} {Rt : np_Rt} (hX : np_ok RX7 cX7_endOfLine 3 1 60 0 0 .ireturn X) (hR : ∀ st w ce sl, Rt st w ce sl → X.2.2.1 st w ce sl) : ∀ q ∈ is_X7_endOfLine Rt, np_S X q.1 q.2 :=
  List.forall_mem_cons.mpr ⟨np_s_iload_n hX dX7_endOfLine_0 rfl, List.forall_mem_cons.mpr ⟨np_s_iconst hX dX7_endOfLine_1 (by decide), List.forall_mem_cons.mpr ⟨np_S.mono (op := np_mx 0 0) (np_s_mmax hX dX7_endOfLine_2 gw983 gw984 gw82 gw985 (by decide) (by decide)) nw_mx_le, List.forall_mem_cons.mpr ⟨np_S.mono (op := np_ist 1 2) (np_s_istore_n hX dX7_endOfLine_5 rfl (by decide)) nw_ist_le, List.forall_mem_cons.mpr ⟨np_s_iload_n hX dX7_endOfLine_6 rfl, List.forall_mem_cons.mpr ⟨np_s_aload_n hX dX7_endOfLine_7 rfl, List.forall_mem_cons.mpr ⟨np_S.mono (op := np_getf 7 1) (np_s_getf hX dX7_endOfLine_8 (C := RX7) (T := TX7) (N := 3) rfl guX7 (by decide) gw210) nw_getf_le, List.forall_mem_cons.mpr ⟨np_S.mono (op := np_ic (fun x y => y ≤ x) 32) (np_s_icmp_ge hX dX7_endOfLine_11 (by decide)) nq_ic_le, List.forall_mem_cons.mpr ⟨np_s_aload_n hX dX7_endOfLine_14 rfl, List.forall_mem_cons.mpr ⟨np_s_iload_n hX dX7_endOfLine_15 rfl, List.forall_mem_cons.mpr ⟨np_S.mono (op := np_callV 7 2 sp_X7_unitAt 2 0 0 0 0) (np_s_callV hX C_X7_unitAt dX7_endOfLine_16 (q := (RX7, TX7, 3)) rfl rfl gw989 gw68 gw986 gw987 gw988 ⟨by decide, by decide, by decide⟩ (by decide) (by decide)) nw_callV_le, List.forall_mem_cons.mpr ⟨np_s_bipush hX dX7_endOfLine_19 (by decide), List.forall_mem_cons.mpr ⟨np_S.mono (op := np_icne 26) (np_s_icmp_ne hX dX7_endOfLine_21 (by decide)) nq_icne_le, List.forall_mem_cons.mpr ⟨np_s_iload_n hX dX7_endOfLine_24 rfl, List.forall_mem_cons.mpr ⟨np_S.mono (op := np_ret X.2.2.1) (np_s_ret hX dX7_endOfLine_25) (nq_ret_le hR), List.forall_mem_cons.mpr ⟨np_S.mono (op := np_iinc 2 1) (np_s_iinc hX dX7_endOfLine_26 (by decide)) nw_iinc_le, List.forall_mem_cons.mpr ⟨np_s_goto hX dX7_endOfLine_29 (by decide), List.forall_mem_cons.mpr ⟨np_s_aload_n hX dX7_endOfLine_32 rfl, List.forall_mem_cons.mpr ⟨np_S.mono (op := np_getf 7 2) (np_s_getf hX dX7_endOfLine_33 (C := RX7) (T := TX7) (N := 3) rfl guX7 (by decide) gw212) nw_getf_le, List.forall_mem_cons.mpr ⟨np_S.mono (op := np_ifne 47) (np_s_if_ne hX dX7_endOfLine_36 (by decide)) nq_ifne_le, List.forall_mem_cons.mpr ⟨np_s_iload_n hX dX7_endOfLine_39 rfl, List.forall_mem_cons.mpr ⟨np_s_aload_n hX dX7_endOfLine_40 rfl, List.forall_mem_cons.mpr ⟨np_S.mono (op := np_getf 7 1) (np_s_getf hX dX7_endOfLine_41 (C := RX7) (T := TX7) (N := 3) rfl guX7 (by decide) gw210) nw_getf_le, List.forall_mem_cons.mpr ⟨np_S.mono (op := np_ic (fun x y => x < y) 51) (np_s_icmp_lt hX dX7_endOfLine_44 (by decide)) nq_ic_le, List.forall_mem_cons.mpr ⟨np_s_iconst hX dX7_endOfLine_47 (by decide), List.forall_mem_cons.mpr ⟨np_s_goto hX dX7_endOfLine_48 (by decide), List.forall_mem_cons.mpr ⟨np_s_aload_n hX dX7_endOfLine_51 rfl, List.forall_mem_cons.mpr ⟨np_S.mono (op := np_getf 7 1) (np_s_getf hX dX7_endOfLine_52 (C := RX7) (T := TX7) (N := 3) rfl guX7 (by decide) gw210) nw_getf_le, List.forall_mem_cons.mpr ⟨np_S.mono (op := np_ret X.2.2.1) (np_s_ret hX dX7_endOfLine_55) (nq_ret_le hR), fun _ h => nomatch h⟩⟩⟩⟩⟩⟩⟩⟩⟩⟩⟩⟩⟩⟩⟩⟩⟩⟩⟩⟩⟩⟩⟩⟩⟩⟩⟩⟩⟩
noncomputable def m_X7_endOfLine_6 : Nat → pw_S → Nat → Int32 → Int32 → pw_R Int32
| 0, _, _, _, _ => none
| N + 1, S, v0, v1, v2 =>
 if (S 53 v0 1) ≤ v2 then
 (if (S 53 v0 2) = 0 then
 (if v1 < (S 53 v0 1) then
 (some (S, (S 53 v0 1)))
 else
 (some (S, (-1))))
 else
 (some (S, (-1))))
 else
 (pw_b (m_X7_unitAt S v0 v2) fun S1 r4 =>
 if r4 = 10 then
 (some (S1, v2))
 else
 (pw_l (v2 + 1 : Int32) fun z6 =>
 m_X7_endOfLine_6 N S1 v0 v1 z6))
set_option maxRecDepth 100000 in
set_option maxHeartbeats 8000000 in
theorem L_X7_endOfLine_6 {X : np_Ctx} (hX : np_ok RX7 cX7_endOfLine 3 1 60 0 0 .ireturn X) {Q : Option Value → np_W → Prop} {q n : Nat} (hR : ∀ st w ce sl, np_rt (some .int) 0 0 Q st w ce sl → X.2.2.1 st w ce sl) : ∀ (N : Nat) (S : pw_S) (v0 : Nat) (v1 : Int32) (v2 : Int32) (f : Nat → Option np_E) (hv0 : pw_ok q 53 v0 = true), pw_W q (n, f) S → pw_p (m_X7_endOfLine_6 N S v0 v1 v2) (fun S' r => ∀ f', pw_W q (n, f') S' → Q (some (.int r)) (n, f')) → np_G X 6 [(0, .ref (pw_pl 53 v0)), (1, .int v1), (2, .int v2)] [] (n, f) 0 0 := by
  intro N
  induction N with
  | zero =>
    intro S v0 v1 v2 f hv0 hW h
    exact (pw_pn h).elim
  | succ N ih =>
    intro S v0 v1 v2 f hv0 hW h
    unfold m_X7_endOfLine_6 at h
    refine np_soundW (so_X7_endOfLine hX hR) [6] 400 6 _ _ _ _ _ ?_
    conv => whnf
    refine np_rd_i (hW.g hv0) ?_
    conv => whnf
    refine pw_br h (fun _ h => ?_) (fun _ h => ?_)
    · conv => whnf
      refine np_rd_i (hW.g hv0) ?_
      conv => whnf
      refine pw_br h (fun _ h => ?_) (fun _ h => ?_)
      · conv => whnf
        refine np_rd_i (hW.g hv0) ?_
        conv => whnf
        refine pw_br h (fun _ h => ?_) (fun _ h => ?_)
        · conv => whnf
          refine np_rd_i (hW.g hv0) ?_
          conv => whnf
          exact ⟨Nat.le_of_ble_eq_true rfl, Nat.le_of_ble_eq_true rfl, ⟨_, rfl⟩, _, fun _ _ h9 => h9, pw_ps h _ hW⟩
        · conv => whnf
          exact ⟨Nat.le_of_ble_eq_true rfl, Nat.le_of_ble_eq_true rfl, ⟨_, rfl⟩, _, fun _ _ h9 => h9, pw_ps h _ hW⟩
      · conv => whnf
        exact ⟨Nat.le_of_ble_eq_true rfl, Nat.le_of_ble_eq_true rfl, ⟨_, rfl⟩, _, fun _ _ h9 => h9, pw_ps h _ hW⟩
    · conv => whnf
      refine np_rd_i (hW.g hv0) ?_
      conv => whnf
      refine ⟨q, S, v0, v2, rfl, hv0, hW, pw_bd h (fun S1 r4 h f2 hW3 => ?_)⟩
      conv => whnf
      refine pw_br h (fun _ h => ?_) (fun _ h => ?_)
      · conv => whnf
        exact ⟨Nat.le_of_ble_eq_true rfl, Nat.le_of_ble_eq_true rfl, ⟨_, rfl⟩, _, fun _ _ h9 => h9, pw_ps h _ hW3⟩
      · conv => whnf
        refine pw_st h (fun z6 h => ?_)
        conv => whnf
        exact np_gl (ih S1 v0 v1 z6 f2 hv0 hW3 h) ⟨rfl, rfl, rfl, trivial⟩
noncomputable def m_X7_endOfLine (S : pw_S) (i0 : Nat) (x1 : Int32) : pw_R Int32 :=
 pw_l ((if x1 < 0 then 0 else x1) : Int32) fun z7 =>
 m_X7_endOfLine_6 (pw_F 20000) S i0 x1 z7
def sp_X7_endOfLine : np_Sp := fun vs w Q => ∃ (q : Nat) (S : pw_S) (i0 : Nat) (x1 : Int32), vs = [.ref (pw_pl 53 i0), .int x1] ∧ pw_ok q 53 i0 = true ∧ pw_W q w S ∧ pw_p (m_X7_endOfLine S i0 x1) (fun S' r => ∀ f', pw_W q (w.1, f') S' → Q (some (.int r)) (w.1, f'))
set_option maxRecDepth 100000 in
set_option maxHeartbeats 8000000 in
theorem C_X7_endOfLine : np_C yX7_endOfLine cX7_endOfLine 3 (some .int) 1 60 0 0 sp_X7_endOfLine := by
  refine np_of (by decide) ?_
  intro X vs w Q hsp hX hmn hRt hlt
  obtain ⟨q, S, i0, x1, rfl, hi0, hW, h⟩ := hsp
  obtain ⟨n, f⟩ := w
  unfold m_X7_endOfLine at h
  have hR : ∀ st w ce sl, np_rt (some .int) 0 0 Q st w ce sl → X.2.2.1 st w ce sl := fun _ _ _ _ h => by rw [hRt]; exact h
  refine np_soundW (so_X7_endOfLine hX hR) [6] 400 0 _ _ _ _ _ ?_
  conv => whnf
  refine pw_st h (fun z7 h => ?_)
  conv => whnf
  exact np_gl (L_X7_endOfLine_6 hX hR (pw_F 20000) S i0 x1 z7 f hi0 hW h) ⟨rfl, rfl, rfl, trivial⟩
theorem dX9_end_0 : decode cX9_end 0 = .ok (.aload_n 0, 1) := by decide +kernel
theorem dX9_end_1 : decode cX9_end 1 = .ok (.getfield 18, 3) := by decide +kernel
theorem dX9_end_4 : decode cX9_end 4 = .ok (.iload_n 1, 1) := by decide +kernel
theorem dX9_end_5 : decode cX9_end 5 = .ok (.iconst 0, 1) := by decide +kernel
theorem dX9_end_6 : decode cX9_end 6 = .ok (.invokestatic 34, 3) := by decide +kernel
theorem dX9_end_9 : decode cX9_end 9 = .ok (.ireturn, 1) := by decide +kernel
def is_X9_end (Rt : np_Rt) : List (Nat × np_Op) := [(0, np_ald 1 0), (1, nw_getf 9 2), (4, np_ild 1 1), (5, np_push 1 (.int 0)), (6, nq_call 3 sp_X11_at 3 0 0 0 0), (9, np_ret Rt)]
set_option maxRecDepth 20000 in
theorem so_X9_end {X : np_Ctx} {Rt : np_Rt} (hX : np_ok RX9 cX9_end 2 1 22 0 0 .ireturn X) (hR : ∀ st w ce sl, Rt st w ce sl → X.2.2.1 st w ce sl) : ∀ q ∈ is_X9_end Rt, np_S X q.1 q.2 :=
  List.forall_mem_cons.mpr ⟨np_s_aload_n hX dX9_end_0 rfl, List.forall_mem_cons.mpr ⟨np_S.mono (op := np_getf 9 2) (np_s_getf hX dX9_end_1 (C := RX9) (T := TX9) (N := 7) rfl guX9 (by decide) gw420) nw_getf_le, List.forall_mem_cons.mpr ⟨np_s_iload_n hX dX9_end_4 rfl, List.forall_mem_cons.mpr ⟨np_s_iconst hX dX9_end_5 (by decide), List.forall_mem_cons.mpr ⟨np_S.mono (op := np_call 3 sp_X11_at 3 0 0 0 0) (np_s_callSN hX C_X11_at dX9_end_6 gw653 gw63 gw1320 gw652 ⟨by decide, by decide, by decide⟩ (by decide) (by decide)) nq_call_le, List.forall_mem_cons.mpr ⟨np_S.mono (op := np_ret X.2.2.1) (np_s_ret hX dX9_end_9) (nq_ret_le hR), fun _ h => nomatch h⟩⟩⟩⟩⟩⟩
noncomputable def m_X9_end (S : pw_S) (i0 : Nat) (x1 : Int32) : pw_R Int32 :=
 pw_b (m_X11_at S 24 i0 x1 0) fun S1 r4 =>
 some (S1, r4)
def sp_X9_end : np_Sp := fun vs w Q => ∃ (q : Nat) (S : pw_S) (i0 : Nat) (x1 : Int32), vs = [.ref (pw_pl 57 i0), .int x1] ∧ pw_ok q 57 i0 = true ∧ pw_W q w S ∧ pw_p (m_X9_end S i0 x1) (fun S' r => ∀ f', pw_W q (w.1, f') S' → Q (some (.int r)) (w.1, f'))
set_option maxRecDepth 100000 in
set_option maxHeartbeats 8000000 in
theorem C_X9_end : np_C yX9_end cX9_end 2 (some .int) 1 22 0 0 sp_X9_end := by
  refine np_of (by decide) ?_
  intro X vs w Q hsp hX hmn hRt hlt
  obtain ⟨q, S, i0, x1, rfl, hi0, hW, h⟩ := hsp
  obtain ⟨n, f⟩ := w
  unfold m_X9_end at h
  have hR : ∀ st w ce sl, np_rt (some .int) 0 0 Q st w ce sl → X.2.2.1 st w ce sl := fun _ _ _ _ h => by rw [hRt]; exact h
  refine np_soundW (so_X9_end hX hR) [] 400 0 _ _ _ _ _ ?_
  conv => whnf
  refine np_rd_i (hW.g hi0) ?_
  conv => whnf
  refine ⟨q, S, 24, i0, x1, 0, rfl, rfl, hi0, hW, pw_bd h (fun S1 r4 h f2 hW3 => ?_)⟩
  conv => whnf
  exact ⟨Nat.le_of_ble_eq_true rfl, Nat.le_of_ble_eq_true rfl, ⟨_, rfl⟩, _, fun _ _ h9 => h9, pw_ps h _ hW3⟩
theorem dX9_start_0 : decode cX9_start 0 = .ok (.iload_n 1, 1) := by decide +kernel
theorem dX9_start_1 : decode cX9_start 1 = .ok (.ifCond .ne 7, 3) := by decide +kernel
theorem dX9_start_4 : decode cX9_start 4 = .ok (.iconst 0, 1) := by decide +kernel
theorem dX9_start_5 : decode cX9_start 5 = .ok (.goto 10, 3) := by decide +kernel
theorem dX9_start_8 : decode cX9_start 8 = .ok (.aload_n 0, 1) := by decide +kernel
theorem dX9_start_9 : decode cX9_start 9 = .ok (.iload_n 1, 1) := by decide +kernel
theorem dX9_start_10 : decode cX9_start 10 = .ok (.iconst 1, 1) := by decide +kernel
theorem dX9_start_11 : decode cX9_start 11 = .ok (.isub, 1) := by decide +kernel
theorem dX9_start_12 : decode cX9_start 12 = .ok (.invokevirtual 30, 3) := by decide +kernel
theorem dX9_start_15 : decode cX9_start 15 = .ok (.ireturn, 1) := by decide +kernel
def is_X9_start (Rt : np_Rt) : List (Nat × np_Op) := [(0, np_ild 1 1), (1, nq_ifne 8), (4, np_push 1 (.int 0)), (5, np_goto 15), (8, np_ald 1 0), (9, np_ild 1 1), (10, np_push 1 (.int 1)), (11, np_ib (fun x y => x - y)), (12, nw_callV 9 2 sp_X9_end 2 0 0 0 0), (15, np_ret Rt)]
set_option maxRecDepth 20000 in
theorem so_X9_start {X : np_Ctx} {Rt : np_Rt} (hX : np_ok RX9 cX9_start 2 2 43 0 0 .ireturn X) (hR : ∀ st w ce sl, Rt st w ce sl → X.2.2.1 st w ce sl) : ∀ q ∈ is_X9_start Rt, np_S X q.1 q.2 :=
  List.forall_mem_cons.mpr ⟨np_s_iload_n hX dX9_start_0 rfl, List.forall_mem_cons.mpr ⟨np_S.mono (op := np_ifne 8) (np_s_if_ne hX dX9_start_1 (by decide)) nq_ifne_le, List.forall_mem_cons.mpr ⟨np_s_iconst hX dX9_start_4 (by decide), List.forall_mem_cons.mpr ⟨np_s_goto hX dX9_start_5 (by decide), List.forall_mem_cons.mpr ⟨np_s_aload_n hX dX9_start_8 rfl, List.forall_mem_cons.mpr ⟨np_s_iload_n hX dX9_start_9 rfl, List.forall_mem_cons.mpr ⟨np_s_iconst hX dX9_start_10 (by decide), List.forall_mem_cons.mpr ⟨np_s_isub hX dX9_start_11, List.forall_mem_cons.mpr ⟨np_S.mono (op := np_callV 9 2 sp_X9_end 2 0 0 0 0) (np_s_callV hX C_X9_end dX9_start_12 (q := (RX9, TX9, 7)) rfl rfl gw1367 gw74 gw1364 gw1366 gw44 ⟨by decide, by decide, by decide⟩ (by decide) (by decide)) nw_callV_le, List.forall_mem_cons.mpr ⟨np_S.mono (op := np_ret X.2.2.1) (np_s_ret hX dX9_start_15) (nq_ret_le hR), fun _ h => nomatch h⟩⟩⟩⟩⟩⟩⟩⟩⟩⟩
noncomputable def m_X9_start (S : pw_S) (i0 : Nat) (x1 : Int32) : pw_R Int32 :=
 if x1 = 0 then
 (some (S, 0))
 else
 (pw_b (m_X9_end S i0 (x1 - 1)) fun S1 r4 =>
 some (S1, r4))
def sp_X9_start : np_Sp := fun vs w Q => ∃ (q : Nat) (S : pw_S) (i0 : Nat) (x1 : Int32), vs = [.ref (pw_pl 57 i0), .int x1] ∧ pw_ok q 57 i0 = true ∧ pw_W q w S ∧ pw_p (m_X9_start S i0 x1) (fun S' r => ∀ f', pw_W q (w.1, f') S' → Q (some (.int r)) (w.1, f'))
set_option maxRecDepth 100000 in
set_option maxHeartbeats 8000000 in
theorem C_X9_start : np_C yX9_start cX9_start 2 (some .int) 2 43 0 0 sp_X9_start := by
  refine np_of (by decide) ?_
  intro X vs w Q hsp hX hmn hRt hlt
  obtain ⟨q, S, i0, x1, rfl, hi0, hW, h⟩ := hsp
  obtain ⟨n, f⟩ := w
  unfold m_X9_start at h
  have hR : ∀ st w ce sl, np_rt (some .int) 0 0 Q st w ce sl → X.2.2.1 st w ce sl := fun _ _ _ _ h => by rw [hRt]; exact h
  refine np_soundW (so_X9_start hX hR) [] 400 0 _ _ _ _ _ ?_
  conv => whnf
  refine pw_br h (fun _ h => ?_) (fun _ h => ?_)
  · conv => whnf
    exact ⟨Nat.le_of_ble_eq_true rfl, Nat.le_of_ble_eq_true rfl, ⟨_, rfl⟩, _, fun _ _ h9 => h9, pw_ps h _ hW⟩
  · conv => whnf
    refine np_rd_i (hW.g hi0) ?_
    conv => whnf
    refine ⟨q, S, i0, (x1 - 1), rfl, hi0, hW, pw_bd h (fun S1 r4 h f2 hW3 => ?_)⟩
    conv => whnf
    exact ⟨Nat.le_of_ble_eq_true rfl, Nat.le_of_ble_eq_true rfl, ⟨_, rfl⟩, _, fun _ _ h9 => h9, pw_ps h _ hW3⟩
