theorem law_at40 {X : np_Ctx} (hX : np_ok RL cL_law 7 11 432 600002 7302232 .ireturn X) (hRt : X.2.2.1 = fun st _ ce sl => st = [.int 1] ∧ ce ≤ 600002 ∧ sl ≤ 7302232) {xs : Nat → Int32} (hf : np_lf 7 xs X) (y : Int32) : np_G X 40 np_L0 [.int y] (233, np_wl np_W0) 1553 32513 := by
  have hv : np_lv [xs 0, xs 1, xs 2, xs 3, xs 4, xs 5, xs 6] xs := by
    intro j v h
    match j, h with
    | 0, h => cases h; rfl
    | 1, h => cases h; rfl
    | 2, h => cases h; rfl
    | 3, h => cases h; rfl
    | 4, h => cases h; rfl
    | 5, h => cases h; rfl
    | 6, h => cases h; rfl
    | j + 7, h => cases h
  have hs : np_S X 40 (np_tsw (0) (33) [192, 284, 297, 341, 397, 515, 595, 663, 719, 794, 862, 930, 993, 1061, 1141, 1221, 1313, 1381, 1437, 1493, 1561, 1653, 1721, 1813, 1881, 1949, 2041, 2085, 2153, 2209, 2277, 2333, 2389, 2481] 2573) := np_s_tsw hX dL_law_40 (by decide) (by decide) (by decide)
  refine hs (fun pc L st w ce sl => np_G X pc L st w ce sl) (fun _ _ _ _ _ _ h => h) _ _ _ _ _ ?_
  show ((y.toInt < 0 ∨ 33 < y.toInt) → np_G X 2573 np_L0 [] (233, np_wl np_W0) 1553 32513) ∧ np_swg (fun t => np_G X t np_L0 [] (233, np_wl np_W0) 1553 32513) [192, 284, 297, 341, 397, 515, 595, 663, 719, 794, 862, 930, 993, 1061, 1141, 1221, 1313, 1381, 1437, 1493, 1561, 1653, 1721, 1813, 1881, 1949, 2041, 2085, 2153, 2209, 2277, 2333, 2389, 2481] 0 y
  refine ⟨fun _ => case34 hX hRt hf hv, fun _ => case0 hX hRt hf hv, fun _ => case1 hX hRt hf hv, fun _ => case2 hX hRt hf hv, fun _ => case3 hX hRt hf hv, fun _ => case4 hX hRt hf hv, fun _ => case5 hX hRt hf hv, fun _ => case6 hX hRt hf hv, fun _ => case7 hX hRt hf hv, fun _ => case8 hX hRt hf hv, fun _ => case9 hX hRt hf hv, fun _ => case10 hX hRt hf hv, fun _ => case11 hX hRt hf hv, fun _ => case12 hX hRt hf hv, fun _ => case13 hX hRt hf hv, fun _ => case14 hX hRt hf hv, fun _ => case15 hX hRt hf hv, fun _ => case16 hX hRt hf hv, fun _ => case17 hX hRt hf hv, fun _ => case18 hX hRt hf hv, fun _ => case19 hX hRt hf hv, fun _ => case20 hX hRt hf hv, fun _ => case21 hX hRt hf hv, fun _ => case22 hX hRt hf hv, fun _ => case23 hX hRt hf hv, fun _ => case24 hX hRt hf hv, fun _ => case25 hX hRt hf hv, fun _ => case26 hX hRt hf hv, fun _ => case27 hX hRt hf hv, fun _ => case28 hX hRt hf hv, fun _ => case29 hX hRt hf hv, fun _ => case30 hX hRt hf hv, fun _ => case31 hX hRt hf hv, fun _ => case32 hX hRt hf hv, fun _ => case33 hX hRt hf hv, True.intro⟩
theorem law_at23 {X : np_Ctx} (hX : np_ok RL cL_law 7 11 432 600002 7302232 .ireturn X) (hRt : X.2.2.1 = fun st _ ce sl => st = [.int 1] ∧ ce ≤ 600002 ∧ sl ≤ 7302232) {L : Nat} (hL : L ≤ 7) {xs : Nat → Int32} (hf : np_lf L xs X) : np_G X 23 np_L0 [] (233, np_wl np_W0) 1553 32513 := by
  have h9 : L = 0 ∨ L = 1 ∨ L = 2 ∨ L = 3 ∨ L = 4 ∨ L = 5 ∨ L = 6 ∨ L = 7 := by omega
  rcases h9 with rfl | rfl | rfl | rfl | rfl | rfl | rfl | rfl
  · exact caseS0 hX hRt hf
  · exact caseS1 hX hRt hf
  · exact caseS2 hX hRt hf
  · exact caseS3 hX hRt hf
  · exact caseS4 hX hRt hf
  · exact caseS5 hX hRt hf
  · exact caseS6 hX hRt hf
  · have hv : np_lv [xs 0, xs 1, xs 2, xs 3, xs 4, xs 5, xs 6] xs := by
      intro j v h
      match j, h with
      | 0, h => cases h; rfl
      | 1, h => cases h; rfl
      | 2, h => cases h; rfl
      | 3, h => cases h; rfl
      | 4, h => cases h; rfl
      | 5, h => cases h; rfl
      | 6, h => cases h; rfl
      | j + 7, h => cases h
    refine np_soundF (soH_L_law (Rt := fun st _ ce sl => st = [.int 1] ∧ ce ≤ 600002 ∧ sl ≤ 7302232) hX hf hv (fun _ _ _ _ h => by rw [hRt]; exact h)) (heads := [40]) (Hd := fun pc L st w ce sl => pc = 40 ∧ L = np_L0 ∧ st = [.int (xs 0 &&& 63)] ∧ w = (233, np_wl np_W0) ∧ ce = 1553 ∧ sl = 32513) (fun pc L st w ce sl h => ?_) 20 23 _ _ _ _ _ runH
    obtain ⟨rfl, rfl, rfl, rfl, rfl, rfl⟩ := h
    exact law_at40 hX hRt hf _
theorem law_at0 {X : np_Ctx} (hX : np_ok RL cL_law 7 11 432 600002 7302232 .ireturn X) (hRt : X.2.2.1 = fun st _ ce sl => st = [.int 1] ∧ ce ≤ 600002 ∧ sl ≤ 7302232) {L : Nat} (hL : L ≤ 7) {xs : Nat → Int32} (hf : np_lf L xs X) : np_G X 0 [(0, .ref 0)] [] (1, fun _ => none) 0 0 :=
  np_seg (soP_L_law (Rt := fun st _ ce sl => st = [.int 1] ∧ ce ≤ 600002 ∧ sl ≤ 7302232) (vs := []) hX hf (fun j v h => nomatch h) (fun _ _ _ _ h => by rw [hRt]; exact h)) (law_at23 hX hRt hL hf) run_law0
theorem sx454 : (Jvm.Cond.instantiable "NotationPress$Column" (6 : Nat)) ∈ lw_tbl := List.mem_of_getElem? (i := 454) (by decide +kernel)
theorem sx371 : (Jvm.Cond.instantiable "NotationPress$Description" (7 : Nat)) ∈ lw_tbl := List.mem_of_getElem? (i := 371) (by decide +kernel)
theorem sx160 : (Jvm.Cond.instantiable "NotationPress$Items" (5 : Nat)) ∈ lw_tbl := List.mem_of_getElem? (i := 160) (by decide +kernel)
theorem sx198 : (Jvm.Cond.instantiable "NotationPress$Printer" (3 : Nat)) ∈ lw_tbl := List.mem_of_getElem? (i := 198) (by decide +kernel)
theorem sx258 : (Jvm.Cond.instantiable "NotationPress$Reader" (11 : Nat)) ∈ lw_tbl := List.mem_of_getElem? (i := 258) (by decide +kernel)
theorem sx324 : (Jvm.Cond.instantiable "NotationPress$Sampler" (5 : Nat)) ∈ lw_tbl := List.mem_of_getElem? (i := 324) (by decide +kernel)
theorem sx404 : (Jvm.Cond.instantiable "NotationPress$Table" (12 : Nat)) ∈ lw_tbl := List.mem_of_getElem? (i := 404) (by decide +kernel)
theorem sx269 : (Jvm.Cond.instantiable "NotationPress$Text" (3 : Nat)) ∈ lw_tbl := List.mem_of_getElem? (i := 269) (by decide +kernel)
theorem sx204 : (Jvm.Cond.instantiable "NotationPress$Trace" (9 : Nat)) ∈ lw_tbl := List.mem_of_getElem? (i := 204) (by decide +kernel)
theorem sx478 : (Jvm.Cond.instantiable "NotationPress$Upgrade" (7 : Nat)) ∈ lw_tbl := List.mem_of_getElem? (i := 478) (by decide +kernel)
theorem sx350 : (Jvm.Cond.instantiable "NotationPress$UpgradeDraft" (3 : Nat)) ∈ lw_tbl := List.mem_of_getElem? (i := 350) (by decide +kernel)
theorem sx152 : (Jvm.Cond.instantiable "NotationPress" (14 : Nat)) ∈ lw_tbl := List.mem_of_getElem? (i := 152) (by decide +kernel)
theorem sx1627 : (Jvm.Cond.instantiable "NotationPressModel" (77 : Nat)) ∈ lw_tbl := List.mem_of_getElem? (i := 1627) (by decide +kernel)
set_option maxRecDepth 20000 in
theorem np_cls {args : Array Value} {s : State} (hts : ∀ w ∈ lw_tbl, w.before args s = true) : ∀ q ∈ vwCl, ∃ (k : ClassId) (iS : Nat → Nat), u_Kn s q.1 q.2.1 q.2.2 k iS :=
  List.forall_mem_cons.mpr ⟨u_known (C := RX0) (T := TX0) (N := 6) (n := 6) hts (fun w hw => (List.mem_filter.mp (guX0 w hw)).1) (hts _ sx454), List.forall_mem_cons.mpr ⟨u_known (C := RX1) (T := TX1) (N := 7) (n := 7) hts (fun w hw => (List.mem_filter.mp (guX1 w hw)).1) (hts _ sx371), List.forall_mem_cons.mpr ⟨u_known (C := RX2) (T := TX2) (N := 5) (n := 5) hts (fun w hw => (List.mem_filter.mp (guX2 w hw)).1) (hts _ sx160), List.forall_mem_cons.mpr ⟨u_known (C := RX3) (T := TX3) (N := 3) (n := 3) hts (fun w hw => (List.mem_filter.mp (guX3 w hw)).1) (hts _ sx198), List.forall_mem_cons.mpr ⟨u_known (C := RX4) (T := TX4) (N := 11) (n := 11) hts (fun w hw => (List.mem_filter.mp (guX4 w hw)).1) (hts _ sx258), List.forall_mem_cons.mpr ⟨u_known (C := RX5) (T := TX5) (N := 5) (n := 5) hts (fun w hw => (List.mem_filter.mp (guX5 w hw)).1) (hts _ sx324), List.forall_mem_cons.mpr ⟨u_known (C := RX6) (T := TX6) (N := 12) (n := 12) hts (fun w hw => (List.mem_filter.mp (guX6 w hw)).1) (hts _ sx404), List.forall_mem_cons.mpr ⟨u_known (C := RX7) (T := TX7) (N := 3) (n := 3) hts (fun w hw => (List.mem_filter.mp (guX7 w hw)).1) (hts _ sx269), List.forall_mem_cons.mpr ⟨u_known (C := RX8) (T := TX8) (N := 9) (n := 9) hts (fun w hw => (List.mem_filter.mp (guX8 w hw)).1) (hts _ sx204), List.forall_mem_cons.mpr ⟨u_known (C := RX9) (T := TX9) (N := 7) (n := 7) hts (fun w hw => (List.mem_filter.mp (guX9 w hw)).1) (hts _ sx478), List.forall_mem_cons.mpr ⟨u_known (C := RX10) (T := TX10) (N := 3) (n := 3) hts (fun w hw => (List.mem_filter.mp (guX10 w hw)).1) (hts _ sx350), List.forall_mem_cons.mpr ⟨u_known (C := RX11) (T := TX11) (N := 14) (n := 14) hts (fun w hw => (List.mem_filter.mp (guX11 w hw)).1) (hts _ sx152), List.forall_mem_cons.mpr ⟨u_known (C := RX12) (T := TX12) (N := 77) (n := 77) hts (fun w hw => (List.mem_filter.mp (guX12 w hw)).1) (hts _ sx1627), fun _ h => nomatch h⟩⟩⟩⟩⟩⟩⟩⟩⟩⟩⟩⟩⟩
theorem sx183 : (Jvm.Cond.arrayClass Jvm.ClassFile.FieldType.int) ∈ lw_tbl := List.mem_of_getElem? (i := 183) (by decide +kernel)
theorem sx1869 : (Jvm.Cond.arrayClass Jvm.ClassFile.FieldType.long) ∈ lw_tbl := List.mem_of_getElem? (i := 1869) (by decide +kernel)
theorem sx286 : (Jvm.Cond.arrayClass Jvm.ClassFile.FieldType.char) ∈ lw_tbl := List.mem_of_getElem? (i := 286) (by decide +kernel)
theorem sx1868 : (Jvm.Cond.arrayClass Jvm.ClassFile.FieldType.boolean) ∈ lw_tbl := List.mem_of_getElem? (i := 1868) (by decide +kernel)
theorem sx185 : (Jvm.Cond.arrayOver (Jvm.ClassFile.FieldType.object "NotationPress$Description")) ∈ lw_tbl := List.mem_of_getElem? (i := 185) (by decide +kernel)
theorem sx194 : (Jvm.Cond.arrayOver (Jvm.ClassFile.FieldType.object "NotationPress$Text")) ∈ lw_tbl := List.mem_of_getElem? (i := 194) (by decide +kernel)
theorem sx196 : (Jvm.Cond.arrayOver (Jvm.ClassFile.FieldType.object "NotationPress$Table")) ∈ lw_tbl := List.mem_of_getElem? (i := 196) (by decide +kernel)
theorem sx348 : (Jvm.Cond.arrayOver (Jvm.ClassFile.FieldType.object "NotationPress$Column")) ∈ lw_tbl := List.mem_of_getElem? (i := 348) (by decide +kernel)
theorem sx370 : (Jvm.Cond.arrayOver (Jvm.ClassFile.FieldType.object "NotationPress$Upgrade")) ∈ lw_tbl := List.mem_of_getElem? (i := 370) (by decide +kernel)
theorem sx264 : (Jvm.Cond.arrayOver (Jvm.ClassFile.FieldType.object "NotationPress$Trace")) ∈ lw_tbl := List.mem_of_getElem? (i := 264) (by decide +kernel)
theorem np_arrs {args : Array Value} {s : State} (hts : ∀ w ∈ lw_tbl, w.before args s = true) : ∀ ty ∈ np_tys, ArrOfT s (np_cA s ty) ty ∧ va_RA s (np_cA s ty) ty :=
  List.forall_mem_cons.mpr ⟨np_cA_prim (hts _ sx183) (fun C h => nomatch h), List.forall_mem_cons.mpr ⟨np_cA_prim (hts _ sx1869) (fun C h => nomatch h), List.forall_mem_cons.mpr ⟨np_cA_prim (hts _ sx286) (fun C h => nomatch h), List.forall_mem_cons.mpr ⟨np_cA_prim (hts _ sx1868) (fun C h => nomatch h), List.forall_mem_cons.mpr ⟨np_cA_obj (hts _ sx185), List.forall_mem_cons.mpr ⟨np_cA_obj (hts _ sx194), List.forall_mem_cons.mpr ⟨np_cA_obj (hts _ sx196), List.forall_mem_cons.mpr ⟨np_cA_obj (hts _ sx348), List.forall_mem_cons.mpr ⟨np_cA_obj (hts _ sx370), List.forall_mem_cons.mpr ⟨np_cA_obj (hts _ sx264), fun _ h => nomatch h⟩⟩⟩⟩⟩⟩⟩⟩⟩⟩
theorem np_hK {args : Array Value} {s : State} (hts : ∀ w ∈ lw_tbl, w.before args s = true) : ∃ D : va_G, va_K D vwCl (np_tys.map fun ty => (np_cA s ty, ty)) s := by
  have h : ∀ k : Nat, ∃ (a : ClassId) (iS : Nat → Nat), ∀ q, vwCl[k]? = some q → u_Kn s q.1 q.2.1 q.2.2 a iS := by
    intro k
    cases hk : vwCl[k]? with
    | none => exact ⟨0, fun _ => 0, fun q hq => nomatch hq⟩
    | some q =>
      obtain ⟨a, iS, ha⟩ := np_cls hts q (List.mem_of_getElem? hk)
      exact ⟨a, iS, fun q' hq => by cases hq; exact ha⟩
  refine ⟨(fun k => Classical.choose (h k), fun k => Classical.choose (Classical.choose_spec (h k))), fun k q hq => Classical.choose_spec (Classical.choose_spec (h k)) q hq, fun k q hq => ?_⟩
  obtain ⟨ty, hty, rfl⟩ := List.mem_map.mp (List.mem_of_getElem? hq)
  exact np_arrs hts ty hty
theorem np_hao : ∀ C ∈ np_ao, Cond.arrayOver (.object C) ∈ lw_tbl :=
  List.forall_mem_cons.mpr ⟨sx185, List.forall_mem_cons.mpr ⟨sx194, List.forall_mem_cons.mpr ⟨sx196, List.forall_mem_cons.mpr ⟨sx348, List.forall_mem_cons.mpr ⟨sx370, List.forall_mem_cons.mpr ⟨sx264, fun _ h => nomatch h⟩⟩⟩⟩⟩⟩
set_option maxRecDepth 100000 in
theorem np_hncB : ∀ q ∈ np_ncs, Cond.not (.castable q.1 q.2) ∈ flatC (Jvm.Cond.and given_1 narrow_1) := by decide +kernel
set_option maxRecDepth 100000 in
theorem np_hstB : (lw_tbl.all fun w => match w with
  | .stringRef own k _ => decide (Cond.exactly (.string own k) "java/lang/String" ∈ flatC (Jvm.Cond.and given_1 narrow_1))
  | _ => true) = true := by decide +kernel
theorem np_hst {args : Array Value} {s : State} (hgv : (Jvm.Cond.and given_1 narrow_1).before args s = true) : ∀ own k tx, Cond.stringRef own k tx ∈ lw_tbl → (Cond.exactly (.string own k) "java/lang/String").before args s = true := fun own k tx h => flat_of_before _ hgv _ (of_decide_eq_true (List.all_eq_true.mp np_hstB _ h))
theorem np_hsd {args : Array Value} {s : State} (hts : ∀ w ∈ lw_tbl, w.before args s = true) (hgv : (Jvm.Cond.and given_1 narrow_1).before args s = true) : np_sd s := np_sd_of hts np_hao (fun q hq => flat_of_before _ hgv _ (np_hncB q hq)) (np_hst hgv)
theorem sx600 : (Jvm.Cond.laysStatic "java/lang/Throwable" "UNASSIGNED_STACK" "[Ljava/lang/StackTraceElement;") ∈ lw_tbl := List.mem_of_getElem? (i := 600) (by decide +kernel)
theorem sx143 : (Jvm.Cond.initialized "java/lang/Throwable") ∈ lw_tbl := List.mem_of_getElem? (i := 143) (by decide +kernel)
theorem sx602 : (Jvm.Cond.laysStatic "java/lang/Throwable" "SUPPRESSED_SENTINEL" "Ljava/util/List;") ∈ lw_tbl := List.mem_of_getElem? (i := 602) (by decide +kernel)
set_option maxRecDepth 100000 in
theorem np_hzU : Cond.isRef (.static Bundle.tN "UNASSIGNED_STACK" Bundle.steD) ∈ flatC (Jvm.Cond.and given_1 narrow_1) := by decide +kernel
set_option maxRecDepth 100000 in
theorem np_hzS : Cond.isRef (.static Bundle.tN "SUPPRESSED_SENTINEL" Bundle.listD) ∈ flatC (Jvm.Cond.and given_1 narrow_1) := by decide +kernel
theorem np_hzq {args : Array Value} {s : State} (hts : ∀ w ∈ lw_tbl, w.before args s = true) (hgv : (Jvm.Cond.and given_1 narrow_1).before args s = true) : np_zq (fun q : Nat => s.heap.size ≤ q) s :=
  ⟨vx_Zqof (hts _ sx600) (hts _ sx143) (flat_of_before _ hgv _ np_hzU) (fun a h => Nat.not_le.mpr h), vx_Zqof (hts _ sx602) (hts _ sx143) (flat_of_before _ hgv _ np_hzS) (fun a h => Nat.not_le.mpr h)⟩
