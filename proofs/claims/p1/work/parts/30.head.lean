def isC34_L_law (Ls : Nat) (vs : List Int32) (Rt : np_Rt) : List (Nat × np_Op) := [(23, np_ild 2 4), (25, np_ald 1 0), (26, np_slen Ls), (27, np_push 2 (.int 7)), (29, np_ib (fun x y => x - y)), (30, nq_ic (fun x y => y < x) 2579), (2573, np_iinc 4 7), (2576, np_goto 23), (2579, np_push 1 (.int 1)), (2580, np_ret Rt)]
set_option maxRecDepth 20000 in
theorem soC34_L_law {X : np_Ctx} {Rt : np_Rt} (hX : np_ok RL cL_law 7 11 432 600002 7302232 .ireturn X) {Ls : Nat} {vs : List Int32} {xs : Nat → Int32} (hf : np_lf Ls xs X) (hv : np_lv vs xs) (hR : ∀ st w ce sl, Rt st w ce sl → X.2.2.1 st w ce sl) : ∀ q ∈ isC34_L_law Ls vs Rt, np_S X q.1 q.2 :=
  List.forall_mem_cons.mpr ⟨np_s_iload hX dL_law_23, List.forall_mem_cons.mpr ⟨np_s_aload_n hX dL_law_25 rfl, List.forall_mem_cons.mpr ⟨np_s_slen hX hf dL_law_26, List.forall_mem_cons.mpr ⟨np_s_bipush hX dL_law_27 (by decide), List.forall_mem_cons.mpr ⟨np_s_isub hX dL_law_29, List.forall_mem_cons.mpr ⟨np_S.mono (op := np_ic (fun x y => y < x) 2579) (np_s_icmp_gt hX dL_law_30 (by decide)) nq_ic_le, List.forall_mem_cons.mpr ⟨np_s_iinc hX dL_law_2573 (by decide), List.forall_mem_cons.mpr ⟨np_s_goto hX dL_law_2576 (by decide), List.forall_mem_cons.mpr ⟨np_s_iconst hX dL_law_2579 (by decide), List.forall_mem_cons.mpr ⟨np_S.mono (op := np_ret X.2.2.1) (np_s_ret hX dL_law_2580) (nq_ret_le hR), fun _ h => nomatch h⟩⟩⟩⟩⟩⟩⟩⟩⟩⟩
abbrev np_V34 : List (Nat × np_E) := [(1, en_1)]
set_option maxRecDepth 20000 in
set_option maxHeartbeats 8000000 in
theorem runC34 (x0 x1 x2 x3 x4 x5 x6 : Int32) : np_runF (isC34_L_law 7 [x0, x1, x2, x3, x4, x5, x6] (fun st _ ce sl => st = [.int 1] ∧ ce ≤ 600002 ∧ sl ≤ 7302232)) [] (fun _ _ _ _ _ _ => False) 120 2573 np_L0 [] (233, np_wl np_V34) 1553 32513 := by

  repeat' ((conv => whnf); first | refine np_br_i ?_ ?_ | apply And.intro | refine np_chk_i ?_ ?_ | (intro cc; first | contradiction | (exfalso; (try simp only [Int32.lt_iff_toInt_lt, Int32.le_iff_toInt_le, Int32.reduceSub, Int32.reduceToInt, Int32.reduceAdd, Int32.reduceMul] at *); omega) | skip))
  all_goals (first | exact rfl | exact Nat.le_of_ble_eq_true rfl | exact True.intro | exact ⟨rfl, Nat.le_of_ble_eq_true rfl, Nat.le_of_ble_eq_true rfl⟩)
theorem case34 {X : np_Ctx} (hX : np_ok RL cL_law 7 11 432 600002 7302232 .ireturn X) (hRt : X.2.2.1 = fun st _ ce sl => st = [.int 1] ∧ ce ≤ 600002 ∧ sl ≤ 7302232) {xs : Nat → Int32} (hf : np_lf 7 xs X) {x0 x1 x2 x3 x4 x5 x6 : Int32} (hv : np_lv [x0, x1, x2, x3, x4, x5, x6] xs) : np_G X 2573 np_L0 [] (233, np_wl np_W0) 1553 32513 := by
  refine np_weak2 (f := np_wl np_V34) (np_all_sub ⟨rfl, trivial⟩) ?_
  refine np_finF (soC34_L_law (Rt := fun st _ ce sl => st = [.int 1] ∧ ce ≤ 600002 ∧ sl ≤ 7302232) hX hf hv (fun _ _ _ _ h => by rw [hRt]; exact h)) 120 ?_
  exact runC34 x0 x1 x2 x3 x4 x5 x6
def isS_L_law (Ls : Nat) (vs : List Int32) (Rt : np_Rt) : List (Nat × np_Op) := [(23, np_ild 2 4), (25, np_ald 1 0), (26, np_slen Ls), (27, np_push 2 (.int 7)), (29, np_ib (fun x y => x - y)), (30, nq_ic (fun x y => y < x) 2579), (2579, np_push 1 (.int 1)), (2580, np_ret Rt)]
set_option maxRecDepth 20000 in
theorem soS_L_law {X : np_Ctx} {Rt : np_Rt} (hX : np_ok RL cL_law 7 11 432 600002 7302232 .ireturn X) {Ls : Nat} {vs : List Int32} {xs : Nat → Int32} (hf : np_lf Ls xs X) (hv : np_lv vs xs) (hR : ∀ st w ce sl, Rt st w ce sl → X.2.2.1 st w ce sl) : ∀ q ∈ isS_L_law Ls vs Rt, np_S X q.1 q.2 :=
  List.forall_mem_cons.mpr ⟨np_s_iload hX dL_law_23, List.forall_mem_cons.mpr ⟨np_s_aload_n hX dL_law_25 rfl, List.forall_mem_cons.mpr ⟨np_s_slen hX hf dL_law_26, List.forall_mem_cons.mpr ⟨np_s_bipush hX dL_law_27 (by decide), List.forall_mem_cons.mpr ⟨np_s_isub hX dL_law_29, List.forall_mem_cons.mpr ⟨np_S.mono (op := np_ic (fun x y => y < x) 2579) (np_s_icmp_gt hX dL_law_30 (by decide)) nq_ic_le, List.forall_mem_cons.mpr ⟨np_s_iconst hX dL_law_2579 (by decide), List.forall_mem_cons.mpr ⟨np_S.mono (op := np_ret X.2.2.1) (np_s_ret hX dL_law_2580) (nq_ret_le hR), fun _ h => nomatch h⟩⟩⟩⟩⟩⟩⟩⟩
set_option maxRecDepth 20000 in
theorem runS0 : np_runF (isS_L_law 0 [] (fun st _ ce sl => st = [.int 1] ∧ ce ≤ 600002 ∧ sl ≤ 7302232)) [] (fun _ _ _ _ _ _ => False) 20 23 np_L0 [] (233, np_wl []) 1553 32513 := by
  repeat' ((conv => whnf); first | refine np_br_i ?_ ?_ | apply And.intro | refine np_chk_i ?_ ?_ | (intro cc; first | contradiction | (exfalso; (try simp only [Int32.lt_iff_toInt_lt, Int32.le_iff_toInt_le, Int32.reduceSub, Int32.reduceToInt, Int32.reduceAdd, Int32.reduceMul] at *); omega) | skip))
  all_goals (first | exact rfl | exact Nat.le_of_ble_eq_true rfl | exact True.intro | exact ⟨rfl, Nat.le_of_ble_eq_true rfl, Nat.le_of_ble_eq_true rfl⟩)
theorem caseS0 {X : np_Ctx} (hX : np_ok RL cL_law 7 11 432 600002 7302232 .ireturn X) (hRt : X.2.2.1 = fun st _ ce sl => st = [.int 1] ∧ ce ≤ 600002 ∧ sl ≤ 7302232) {xs : Nat → Int32} (hf : np_lf 0 xs X) : np_G X 23 np_L0 [] (233, np_wl np_W0) 1553 32513 := by
  refine np_weak2 (f := np_wl []) (fun k e h => nomatch h) ?_
  exact np_finF (soS_L_law (Rt := fun st _ ce sl => st = [.int 1] ∧ ce ≤ 600002 ∧ sl ≤ 7302232) hX hf (vs := []) (fun j v h => nomatch h) (fun _ _ _ _ h => by rw [hRt]; exact h)) 20 runS0
set_option maxRecDepth 20000 in
theorem runS1 : np_runF (isS_L_law 1 [] (fun st _ ce sl => st = [.int 1] ∧ ce ≤ 600002 ∧ sl ≤ 7302232)) [] (fun _ _ _ _ _ _ => False) 20 23 np_L0 [] (233, np_wl []) 1553 32513 := by
  repeat' ((conv => whnf); first | refine np_br_i ?_ ?_ | apply And.intro | refine np_chk_i ?_ ?_ | (intro cc; first | contradiction | (exfalso; (try simp only [Int32.lt_iff_toInt_lt, Int32.le_iff_toInt_le, Int32.reduceSub, Int32.reduceToInt, Int32.reduceAdd, Int32.reduceMul] at *); omega) | skip))
  all_goals (first | exact rfl | exact Nat.le_of_ble_eq_true rfl | exact True.intro | exact ⟨rfl, Nat.le_of_ble_eq_true rfl, Nat.le_of_ble_eq_true rfl⟩)
theorem caseS1 {X : np_Ctx} (hX : np_ok RL cL_law 7 11 432 600002 7302232 .ireturn X) (hRt : X.2.2.1 = fun st _ ce sl => st = [.int 1] ∧ ce ≤ 600002 ∧ sl ≤ 7302232) {xs : Nat → Int32} (hf : np_lf 1 xs X) : np_G X 23 np_L0 [] (233, np_wl np_W0) 1553 32513 := by
  refine np_weak2 (f := np_wl []) (fun k e h => nomatch h) ?_
  exact np_finF (soS_L_law (Rt := fun st _ ce sl => st = [.int 1] ∧ ce ≤ 600002 ∧ sl ≤ 7302232) hX hf (vs := []) (fun j v h => nomatch h) (fun _ _ _ _ h => by rw [hRt]; exact h)) 20 runS1
set_option maxRecDepth 20000 in
theorem runS2 : np_runF (isS_L_law 2 [] (fun st _ ce sl => st = [.int 1] ∧ ce ≤ 600002 ∧ sl ≤ 7302232)) [] (fun _ _ _ _ _ _ => False) 20 23 np_L0 [] (233, np_wl []) 1553 32513 := by
  repeat' ((conv => whnf); first | refine np_br_i ?_ ?_ | apply And.intro | refine np_chk_i ?_ ?_ | (intro cc; first | contradiction | (exfalso; (try simp only [Int32.lt_iff_toInt_lt, Int32.le_iff_toInt_le, Int32.reduceSub, Int32.reduceToInt, Int32.reduceAdd, Int32.reduceMul] at *); omega) | skip))
  all_goals (first | exact rfl | exact Nat.le_of_ble_eq_true rfl | exact True.intro | exact ⟨rfl, Nat.le_of_ble_eq_true rfl, Nat.le_of_ble_eq_true rfl⟩)
theorem caseS2 {X : np_Ctx} (hX : np_ok RL cL_law 7 11 432 600002 7302232 .ireturn X) (hRt : X.2.2.1 = fun st _ ce sl => st = [.int 1] ∧ ce ≤ 600002 ∧ sl ≤ 7302232) {xs : Nat → Int32} (hf : np_lf 2 xs X) : np_G X 23 np_L0 [] (233, np_wl np_W0) 1553 32513 := by
  refine np_weak2 (f := np_wl []) (fun k e h => nomatch h) ?_
  exact np_finF (soS_L_law (Rt := fun st _ ce sl => st = [.int 1] ∧ ce ≤ 600002 ∧ sl ≤ 7302232) hX hf (vs := []) (fun j v h => nomatch h) (fun _ _ _ _ h => by rw [hRt]; exact h)) 20 runS2
set_option maxRecDepth 20000 in
theorem runS3 : np_runF (isS_L_law 3 [] (fun st _ ce sl => st = [.int 1] ∧ ce ≤ 600002 ∧ sl ≤ 7302232)) [] (fun _ _ _ _ _ _ => False) 20 23 np_L0 [] (233, np_wl []) 1553 32513 := by
  repeat' ((conv => whnf); first | refine np_br_i ?_ ?_ | apply And.intro | refine np_chk_i ?_ ?_ | (intro cc; first | contradiction | (exfalso; (try simp only [Int32.lt_iff_toInt_lt, Int32.le_iff_toInt_le, Int32.reduceSub, Int32.reduceToInt, Int32.reduceAdd, Int32.reduceMul] at *); omega) | skip))
  all_goals (first | exact rfl | exact Nat.le_of_ble_eq_true rfl | exact True.intro | exact ⟨rfl, Nat.le_of_ble_eq_true rfl, Nat.le_of_ble_eq_true rfl⟩)
theorem caseS3 {X : np_Ctx} (hX : np_ok RL cL_law 7 11 432 600002 7302232 .ireturn X) (hRt : X.2.2.1 = fun st _ ce sl => st = [.int 1] ∧ ce ≤ 600002 ∧ sl ≤ 7302232) {xs : Nat → Int32} (hf : np_lf 3 xs X) : np_G X 23 np_L0 [] (233, np_wl np_W0) 1553 32513 := by
  refine np_weak2 (f := np_wl []) (fun k e h => nomatch h) ?_
  exact np_finF (soS_L_law (Rt := fun st _ ce sl => st = [.int 1] ∧ ce ≤ 600002 ∧ sl ≤ 7302232) hX hf (vs := []) (fun j v h => nomatch h) (fun _ _ _ _ h => by rw [hRt]; exact h)) 20 runS3
set_option maxRecDepth 20000 in
theorem runS4 : np_runF (isS_L_law 4 [] (fun st _ ce sl => st = [.int 1] ∧ ce ≤ 600002 ∧ sl ≤ 7302232)) [] (fun _ _ _ _ _ _ => False) 20 23 np_L0 [] (233, np_wl []) 1553 32513 := by
  repeat' ((conv => whnf); first | refine np_br_i ?_ ?_ | apply And.intro | refine np_chk_i ?_ ?_ | (intro cc; first | contradiction | (exfalso; (try simp only [Int32.lt_iff_toInt_lt, Int32.le_iff_toInt_le, Int32.reduceSub, Int32.reduceToInt, Int32.reduceAdd, Int32.reduceMul] at *); omega) | skip))
  all_goals (first | exact rfl | exact Nat.le_of_ble_eq_true rfl | exact True.intro | exact ⟨rfl, Nat.le_of_ble_eq_true rfl, Nat.le_of_ble_eq_true rfl⟩)
theorem caseS4 {X : np_Ctx} (hX : np_ok RL cL_law 7 11 432 600002 7302232 .ireturn X) (hRt : X.2.2.1 = fun st _ ce sl => st = [.int 1] ∧ ce ≤ 600002 ∧ sl ≤ 7302232) {xs : Nat → Int32} (hf : np_lf 4 xs X) : np_G X 23 np_L0 [] (233, np_wl np_W0) 1553 32513 := by
  refine np_weak2 (f := np_wl []) (fun k e h => nomatch h) ?_
  exact np_finF (soS_L_law (Rt := fun st _ ce sl => st = [.int 1] ∧ ce ≤ 600002 ∧ sl ≤ 7302232) hX hf (vs := []) (fun j v h => nomatch h) (fun _ _ _ _ h => by rw [hRt]; exact h)) 20 runS4
set_option maxRecDepth 20000 in
theorem runS5 : np_runF (isS_L_law 5 [] (fun st _ ce sl => st = [.int 1] ∧ ce ≤ 600002 ∧ sl ≤ 7302232)) [] (fun _ _ _ _ _ _ => False) 20 23 np_L0 [] (233, np_wl []) 1553 32513 := by
  repeat' ((conv => whnf); first | refine np_br_i ?_ ?_ | apply And.intro | refine np_chk_i ?_ ?_ | (intro cc; first | contradiction | (exfalso; (try simp only [Int32.lt_iff_toInt_lt, Int32.le_iff_toInt_le, Int32.reduceSub, Int32.reduceToInt, Int32.reduceAdd, Int32.reduceMul] at *); omega) | skip))
  all_goals (first | exact rfl | exact Nat.le_of_ble_eq_true rfl | exact True.intro | exact ⟨rfl, Nat.le_of_ble_eq_true rfl, Nat.le_of_ble_eq_true rfl⟩)
theorem caseS5 {X : np_Ctx} (hX : np_ok RL cL_law 7 11 432 600002 7302232 .ireturn X) (hRt : X.2.2.1 = fun st _ ce sl => st = [.int 1] ∧ ce ≤ 600002 ∧ sl ≤ 7302232) {xs : Nat → Int32} (hf : np_lf 5 xs X) : np_G X 23 np_L0 [] (233, np_wl np_W0) 1553 32513 := by
  refine np_weak2 (f := np_wl []) (fun k e h => nomatch h) ?_
  exact np_finF (soS_L_law (Rt := fun st _ ce sl => st = [.int 1] ∧ ce ≤ 600002 ∧ sl ≤ 7302232) hX hf (vs := []) (fun j v h => nomatch h) (fun _ _ _ _ h => by rw [hRt]; exact h)) 20 runS5
set_option maxRecDepth 20000 in
theorem runS6 : np_runF (isS_L_law 6 [] (fun st _ ce sl => st = [.int 1] ∧ ce ≤ 600002 ∧ sl ≤ 7302232)) [] (fun _ _ _ _ _ _ => False) 20 23 np_L0 [] (233, np_wl []) 1553 32513 := by
  repeat' ((conv => whnf); first | refine np_br_i ?_ ?_ | apply And.intro | refine np_chk_i ?_ ?_ | (intro cc; first | contradiction | (exfalso; (try simp only [Int32.lt_iff_toInt_lt, Int32.le_iff_toInt_le, Int32.reduceSub, Int32.reduceToInt, Int32.reduceAdd, Int32.reduceMul] at *); omega) | skip))
  all_goals (first | exact rfl | exact Nat.le_of_ble_eq_true rfl | exact True.intro | exact ⟨rfl, Nat.le_of_ble_eq_true rfl, Nat.le_of_ble_eq_true rfl⟩)
theorem caseS6 {X : np_Ctx} (hX : np_ok RL cL_law 7 11 432 600002 7302232 .ireturn X) (hRt : X.2.2.1 = fun st _ ce sl => st = [.int 1] ∧ ce ≤ 600002 ∧ sl ≤ 7302232) {xs : Nat → Int32} (hf : np_lf 6 xs X) : np_G X 23 np_L0 [] (233, np_wl np_W0) 1553 32513 := by
  refine np_weak2 (f := np_wl []) (fun k e h => nomatch h) ?_
  exact np_finF (soS_L_law (Rt := fun st _ ce sl => st = [.int 1] ∧ ce ≤ 600002 ∧ sl ≤ 7302232) hX hf (vs := []) (fun j v h => nomatch h) (fun _ _ _ _ h => by rw [hRt]; exact h)) 20 runS6
def isH_L_law (Ls : Nat) (vs : List Int32) (Rt : np_Rt) : List (Nat × np_Op) := [(23, np_ild 2 4), (25, np_ald 1 0), (26, np_slen Ls), (27, np_push 2 (.int 7)), (29, np_ib (fun x y => x - y)), (30, nq_ic (fun x y => y < x) 2579), (33, np_ald 1 0), (34, np_ild 2 4), (36, np_sldv Ls vs), (37, np_push 2 (.int 63)), (39, np_ib (fun x y => x &&& y))]
set_option maxRecDepth 20000 in
theorem soH_L_law {X : np_Ctx} {Rt : np_Rt} (hX : np_ok RL cL_law 7 11 432 600002 7302232 .ireturn X) {Ls : Nat} {vs : List Int32} {xs : Nat → Int32} (hf : np_lf Ls xs X) (hv : np_lv vs xs) (hR : ∀ st w ce sl, Rt st w ce sl → X.2.2.1 st w ce sl) : ∀ q ∈ isH_L_law Ls vs Rt, np_S X q.1 q.2 :=
  List.forall_mem_cons.mpr ⟨np_s_iload hX dL_law_23, List.forall_mem_cons.mpr ⟨np_s_aload_n hX dL_law_25 rfl, List.forall_mem_cons.mpr ⟨np_s_slen hX hf dL_law_26, List.forall_mem_cons.mpr ⟨np_s_bipush hX dL_law_27 (by decide), List.forall_mem_cons.mpr ⟨np_s_isub hX dL_law_29, List.forall_mem_cons.mpr ⟨np_S.mono (op := np_ic (fun x y => y < x) 2579) (np_s_icmp_gt hX dL_law_30 (by decide)) nq_ic_le, List.forall_mem_cons.mpr ⟨np_s_aload_n hX dL_law_33 rfl, List.forall_mem_cons.mpr ⟨np_s_iload hX dL_law_34, List.forall_mem_cons.mpr ⟨np_s_sldv hX hf hv dL_law_36, List.forall_mem_cons.mpr ⟨np_s_bipush hX dL_law_37 (by decide), List.forall_mem_cons.mpr ⟨np_s_iand hX dL_law_39, fun _ h => nomatch h⟩⟩⟩⟩⟩⟩⟩⟩⟩⟩⟩
set_option maxRecDepth 20000 in
theorem runH {Rt : np_Rt} {f : Nat → Option np_E} {x0 x1 x2 x3 x4 x5 x6 : Int32} : np_runF (isH_L_law 7 [x0, x1, x2, x3, x4, x5, x6] Rt) [40] (fun pc L st w ce sl => pc = 40 ∧ L = np_L0 ∧ st = [.int (x0 &&& 63)] ∧ w = (233, f) ∧ ce = 1553 ∧ sl = 32513) 20 23 np_L0 [] (233, f) 1553 32513 := by
  repeat' ((conv => whnf); first | refine np_br_i ?_ ?_ | apply And.intro | refine np_chk_i ?_ ?_ | (intro cc; first | contradiction | (exfalso; (try simp only [Int32.lt_iff_toInt_lt, Int32.le_iff_toInt_le, Int32.reduceSub, Int32.reduceToInt, Int32.reduceAdd, Int32.reduceMul] at *); omega) | skip))
  all_goals (first | exact rfl | exact ⟨rfl, rfl, rfl, rfl, rfl, rfl⟩)
