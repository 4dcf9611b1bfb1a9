/-! The state at the launch. -/
theorem sx389 : (Jvm.Cond.instantiable "NotationPress$Column" (6 : Nat)) ∈ lw_tbl := List.mem_of_getElem? (i := 389) (by decide +kernel)
theorem sx306 : (Jvm.Cond.instantiable "NotationPress$Description" (7 : Nat)) ∈ lw_tbl := List.mem_of_getElem? (i := 306) (by decide +kernel)
theorem sx95 : (Jvm.Cond.instantiable "NotationPress$Items" (5 : Nat)) ∈ lw_tbl := List.mem_of_getElem? (i := 95) (by decide +kernel)
theorem sx133 : (Jvm.Cond.instantiable "NotationPress$Printer" (3 : Nat)) ∈ lw_tbl := List.mem_of_getElem? (i := 133) (by decide +kernel)
theorem sx193 : (Jvm.Cond.instantiable "NotationPress$Reader" (11 : Nat)) ∈ lw_tbl := List.mem_of_getElem? (i := 193) (by decide +kernel)
theorem sx259 : (Jvm.Cond.instantiable "NotationPress$Sampler" (5 : Nat)) ∈ lw_tbl := List.mem_of_getElem? (i := 259) (by decide +kernel)
theorem sx339 : (Jvm.Cond.instantiable "NotationPress$Table" (12 : Nat)) ∈ lw_tbl := List.mem_of_getElem? (i := 339) (by decide +kernel)
theorem sx204 : (Jvm.Cond.instantiable "NotationPress$Text" (3 : Nat)) ∈ lw_tbl := List.mem_of_getElem? (i := 204) (by decide +kernel)
theorem sx139 : (Jvm.Cond.instantiable "NotationPress$Trace" (9 : Nat)) ∈ lw_tbl := List.mem_of_getElem? (i := 139) (by decide +kernel)
theorem sx413 : (Jvm.Cond.instantiable "NotationPress$Upgrade" (7 : Nat)) ∈ lw_tbl := List.mem_of_getElem? (i := 413) (by decide +kernel)
theorem sx285 : (Jvm.Cond.instantiable "NotationPress$UpgradeDraft" (3 : Nat)) ∈ lw_tbl := List.mem_of_getElem? (i := 285) (by decide +kernel)
theorem sx87 : (Jvm.Cond.instantiable "NotationPress" (14 : Nat)) ∈ lw_tbl := List.mem_of_getElem? (i := 87) (by decide +kernel)
set_option maxRecDepth 20000 in
theorem np_cls {args : Array Value} {s : State} (hts : ∀ w ∈ lw_tbl, w.before args s = true) : ∀ q ∈ vwCl, ∃ (k : ClassId) (iS : Nat → Nat), u_Kn s q.1 q.2.1 q.2.2 k iS :=
  List.forall_mem_cons.mpr ⟨u_known (C := RX0) (T := TX0) (N := 6) (n := 6) hts (fun w hw => (List.mem_filter.mp (guX0 w hw)).1) (hts _ sx389), List.forall_mem_cons.mpr ⟨u_known (C := RX1) (T := TX1) (N := 7) (n := 7) hts (fun w hw => (List.mem_filter.mp (guX1 w hw)).1) (hts _ sx306), List.forall_mem_cons.mpr ⟨u_known (C := RX2) (T := TX2) (N := 5) (n := 5) hts (fun w hw => (List.mem_filter.mp (guX2 w hw)).1) (hts _ sx95), List.forall_mem_cons.mpr ⟨u_known (C := RX3) (T := TX3) (N := 3) (n := 3) hts (fun w hw => (List.mem_filter.mp (guX3 w hw)).1) (hts _ sx133), List.forall_mem_cons.mpr ⟨u_known (C := RX4) (T := TX4) (N := 11) (n := 11) hts (fun w hw => (List.mem_filter.mp (guX4 w hw)).1) (hts _ sx193), List.forall_mem_cons.mpr ⟨u_known (C := RX5) (T := TX5) (N := 5) (n := 5) hts (fun w hw => (List.mem_filter.mp (guX5 w hw)).1) (hts _ sx259), List.forall_mem_cons.mpr ⟨u_known (C := RX6) (T := TX6) (N := 12) (n := 12) hts (fun w hw => (List.mem_filter.mp (guX6 w hw)).1) (hts _ sx339), List.forall_mem_cons.mpr ⟨u_known (C := RX7) (T := TX7) (N := 3) (n := 3) hts (fun w hw => (List.mem_filter.mp (guX7 w hw)).1) (hts _ sx204), List.forall_mem_cons.mpr ⟨u_known (C := RX8) (T := TX8) (N := 9) (n := 9) hts (fun w hw => (List.mem_filter.mp (guX8 w hw)).1) (hts _ sx139), List.forall_mem_cons.mpr ⟨u_known (C := RX9) (T := TX9) (N := 7) (n := 7) hts (fun w hw => (List.mem_filter.mp (guX9 w hw)).1) (hts _ sx413), List.forall_mem_cons.mpr ⟨u_known (C := RX10) (T := TX10) (N := 3) (n := 3) hts (fun w hw => (List.mem_filter.mp (guX10 w hw)).1) (hts _ sx285), List.forall_mem_cons.mpr ⟨u_known (C := RX11) (T := TX11) (N := 14) (n := 14) hts (fun w hw => (List.mem_filter.mp (guX11 w hw)).1) (hts _ sx87), fun _ h => nomatch h⟩⟩⟩⟩⟩⟩⟩⟩⟩⟩⟩⟩
theorem sx118 : (Jvm.Cond.arrayClass Jvm.ClassFile.FieldType.int) ∈ lw_tbl := List.mem_of_getElem? (i := 118) (by decide +kernel)
theorem sx221 : (Jvm.Cond.arrayClass Jvm.ClassFile.FieldType.char) ∈ lw_tbl := List.mem_of_getElem? (i := 221) (by decide +kernel)
theorem sx120 : (Jvm.Cond.arrayOver (Jvm.ClassFile.FieldType.object "NotationPress$Description")) ∈ lw_tbl := List.mem_of_getElem? (i := 120) (by decide +kernel)
theorem sx129 : (Jvm.Cond.arrayOver (Jvm.ClassFile.FieldType.object "NotationPress$Text")) ∈ lw_tbl := List.mem_of_getElem? (i := 129) (by decide +kernel)
theorem sx131 : (Jvm.Cond.arrayOver (Jvm.ClassFile.FieldType.object "NotationPress$Table")) ∈ lw_tbl := List.mem_of_getElem? (i := 131) (by decide +kernel)
theorem sx283 : (Jvm.Cond.arrayOver (Jvm.ClassFile.FieldType.object "NotationPress$Column")) ∈ lw_tbl := List.mem_of_getElem? (i := 283) (by decide +kernel)
theorem sx305 : (Jvm.Cond.arrayOver (Jvm.ClassFile.FieldType.object "NotationPress$Upgrade")) ∈ lw_tbl := List.mem_of_getElem? (i := 305) (by decide +kernel)
theorem sx199 : (Jvm.Cond.arrayOver (Jvm.ClassFile.FieldType.object "NotationPress$Trace")) ∈ lw_tbl := List.mem_of_getElem? (i := 199) (by decide +kernel)
theorem np_arrs {args : Array Value} {s : State} (hts : ∀ w ∈ lw_tbl, w.before args s = true) : ∀ ty ∈ np_tys, ArrOfT s (np_cA s ty) ty ∧ va_RA s (np_cA s ty) ty :=
  List.forall_mem_cons.mpr ⟨np_cA_prim (hts _ sx118) (fun C h => nomatch h), List.forall_mem_cons.mpr ⟨np_cA_prim (hts _ sx221) (fun C h => nomatch h), List.forall_mem_cons.mpr ⟨np_cA_obj (hts _ sx120), List.forall_mem_cons.mpr ⟨np_cA_obj (hts _ sx129), List.forall_mem_cons.mpr ⟨np_cA_obj (hts _ sx131), List.forall_mem_cons.mpr ⟨np_cA_obj (hts _ sx283), List.forall_mem_cons.mpr ⟨np_cA_obj (hts _ sx305), List.forall_mem_cons.mpr ⟨np_cA_obj (hts _ sx199), fun _ h => nomatch h⟩⟩⟩⟩⟩⟩⟩⟩
theorem np_hK {args : Array Value} {s : State} (hts : ∀ w ∈ lw_tbl, w.before args s = true) : ∃ D : va_G, va_K D vwCl (np_tys.map fun ty => (np_cA s ty, ty)) s := by
  have h : ∀ k : Nat, ∃ (a : ClassId) (iS : Nat → Nat), ∀ q, vwCl[k]? = some q → u_Kn s q.1 q.2.1 q.2.2 a iS := by
    intro k
    cases hk : vwCl[k]? with
    | none => exact ⟨0, fun _ => 0, fun q hq => nomatch hq⟩
    | some q =>
      obtain ⟨a, iS, ha⟩ := np_cls hts q (List.mem_of_getElem? hk)
      exact ⟨a, iS, fun q' hq => by cases hq; exact ha⟩
  refine ⟨(fun k => Classical.choose (h k), fun k => Classical.choose (Classical.choose_spec (h k))), fun k q hq => Classical.choose_spec (Classical.choose_spec (h k)) q hq, fun k q hq => ?_⟩
  obtain ⟨ty, hty, rfl⟩ := List.mem_map.mp (List.mem_of_getElem? hq)
  exact np_arrs hts ty hty
theorem np_hao : ∀ C ∈ np_ao, Cond.arrayOver (.object C) ∈ lw_tbl :=
  List.forall_mem_cons.mpr ⟨sx120, List.forall_mem_cons.mpr ⟨sx129, List.forall_mem_cons.mpr ⟨sx131, List.forall_mem_cons.mpr ⟨sx283, List.forall_mem_cons.mpr ⟨sx305, List.forall_mem_cons.mpr ⟨sx199, fun _ h => nomatch h⟩⟩⟩⟩⟩⟩
set_option maxRecDepth 100000 in
theorem np_hncB : ∀ q ∈ np_ncs, Cond.not (.castable q.1 q.2) ∈ flatC (Jvm.Cond.and given_1 narrow_1) := by decide +kernel
set_option maxRecDepth 100000 in
theorem np_hstB : (lw_tbl.all fun w => match w with
  | .stringRef own k _ => decide (Cond.exactly (.string own k) "java/lang/String" ∈ flatC (Jvm.Cond.and given_1 narrow_1))
  | _ => true) = true := by decide +kernel
theorem np_hst {args : Array Value} {s : State} (hgv : (Jvm.Cond.and given_1 narrow_1).before args s = true) : ∀ own k tx, Cond.stringRef own k tx ∈ lw_tbl → (Cond.exactly (.string own k) "java/lang/String").before args s = true := fun own k tx h => flat_of_before _ hgv _ (of_decide_eq_true (List.all_eq_true.mp np_hstB _ h))
theorem np_hsd {args : Array Value} {s : State} (hts : ∀ w ∈ lw_tbl, w.before args s = true) (hgv : (Jvm.Cond.and given_1 narrow_1).before args s = true) : np_sd s := np_sd_of hts np_hao (fun q hq => flat_of_before _ hgv _ (np_hncB q hq)) (np_hst hgv)
theorem sx543 : (Jvm.Cond.laysStatic "java/lang/Throwable" "UNASSIGNED_STACK" "[Ljava/lang/StackTraceElement;") ∈ lw_tbl := List.mem_of_getElem? (i := 543) (by decide +kernel)
theorem sx75 : (Jvm.Cond.initialized "java/lang/Throwable") ∈ lw_tbl := List.mem_of_getElem? (i := 75) (by decide +kernel)
theorem sx545 : (Jvm.Cond.laysStatic "java/lang/Throwable" "SUPPRESSED_SENTINEL" "Ljava/util/List;") ∈ lw_tbl := List.mem_of_getElem? (i := 545) (by decide +kernel)
set_option maxRecDepth 100000 in
theorem np_hzU : Cond.isRef (.static Bundle.tN "UNASSIGNED_STACK" Bundle.steD) ∈ flatC (Jvm.Cond.and given_1 narrow_1) := by decide +kernel
set_option maxRecDepth 100000 in
theorem np_hzS : Cond.isRef (.static Bundle.tN "SUPPRESSED_SENTINEL" Bundle.listD) ∈ flatC (Jvm.Cond.and given_1 narrow_1) := by decide +kernel
theorem np_hzq {args : Array Value} {s : State} (hts : ∀ w ∈ lw_tbl, w.before args s = true) (hgv : (Jvm.Cond.and given_1 narrow_1).before args s = true) : np_zq (fun q : Nat => s.heap.size ≤ q) s :=
  ⟨vx_Zqof (hts _ sx543) (hts _ sx75) (flat_of_before _ hgv _ np_hzU) (fun a h => Nat.not_le.mpr h), vx_Zqof (hts _ sx545) (hts _ sx75) (flat_of_before _ hgv _ np_hzS) (fun a h => Nat.not_le.mpr h)⟩
