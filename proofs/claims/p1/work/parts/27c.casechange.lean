set_option maxRecDepth 20000 in
set_option maxHeartbeats 20000000 in
theorem runC25_4 (x0 x2 x3 x4 x5 x6 : Int32) : np_runF (isC25_L_law 7 [x0, 4, x2, x3, x4, x5, x6] (fun st _ ce sl => st = [.int 1] ∧ ce ≤ 600002 ∧ sl ≤ 7302232)) [] (fun _ _ _ _ _ _ => False) 120 1949 np_L0 [] (233, np_wl np_V25) 1553 32513 := by
  rcases np_r8 x2 with rfl | rfl | rfl | rfl | rfl | rfl | rfl | rfl | ⟨hx2, kx2, mx2, nx2⟩ | ⟨hx2, kx2, mx2, nx2, ox2⟩
  repeat' ((conv => whnf); first | refine np_br_i ?_ ?_ | apply And.intro | refine np_chk_i ?_ ?_ | (intro cc; first | contradiction | (exfalso; (try simp only [Int32.lt_iff_toInt_lt, Int32.le_iff_toInt_le, Int32.reduceSub, Int32.reduceToInt, Int32.reduceAdd, Int32.reduceMul] at *); omega) | skip))
  all_goals (first | exact rfl | exact Nat.le_of_ble_eq_true rfl | exact True.intro | exact ⟨rfl, Nat.le_of_ble_eq_true rfl, Nat.le_of_ble_eq_true rfl⟩)
set_option maxRecDepth 20000 in
set_option maxHeartbeats 20000000 in
theorem runC25_5 (x0 x1 x2 x3 x4 x5 x6 : Int32) (hx1 : x1 < 0) (kx1 : ¬ 0 ≤ x1) (mx1 : ¬ 5 ≤ x1) (nx1 : ¬ 4 < x1) : np_runF (isC25_L_law 7 [x0, x1, x2, x3, x4, x5, x6] (fun st _ ce sl => st = [.int 1] ∧ ce ≤ 600002 ∧ sl ≤ 7302232)) [] (fun _ _ _ _ _ _ => False) 120 1949 np_L0 [] (233, np_wl np_V25) 1553 32513 := by
  rcases np_r8 x2 with rfl | rfl | rfl | rfl | rfl | rfl | rfl | rfl | ⟨hx2, kx2, mx2, nx2⟩ | ⟨hx2, kx2, mx2, nx2, ox2⟩
  repeat' ((conv => whnf); first | refine np_br_i ?_ ?_ | apply And.intro | refine np_chk_i ?_ ?_ | (intro cc; first | contradiction | (exfalso; (try simp only [Int32.lt_iff_toInt_lt, Int32.le_iff_toInt_le, Int32.reduceSub, Int32.reduceToInt, Int32.reduceAdd, Int32.reduceMul] at *); omega) | skip))
  all_goals (first | exact rfl | exact Nat.le_of_ble_eq_true rfl | exact True.intro | exact ⟨rfl, Nat.le_of_ble_eq_true rfl, Nat.le_of_ble_eq_true rfl⟩)
set_option maxRecDepth 20000 in
set_option maxHeartbeats 20000000 in
theorem runC25_6 (x0 x1 x2 x3 x4 x5 x6 : Int32) (hx1 : ¬ x1 < 0) (kx1 : 0 ≤ x1) (mx1 : 5 ≤ x1) (nx1 : 4 < x1) (ox1 : ¬ x1 < 5) : np_runF (isC25_L_law 7 [x0, x1, x2, x3, x4, x5, x6] (fun st _ ce sl => st = [.int 1] ∧ ce ≤ 600002 ∧ sl ≤ 7302232)) [] (fun _ _ _ _ _ _ => False) 120 1949 np_L0 [] (233, np_wl np_V25) 1553 32513 := by
  rcases np_r8 x2 with rfl | rfl | rfl | rfl | rfl | rfl | rfl | rfl | ⟨hx2, kx2, mx2, nx2⟩ | ⟨hx2, kx2, mx2, nx2, ox2⟩
  repeat' ((conv => whnf); first | refine np_br_i ?_ ?_ | apply And.intro | refine np_chk_i ?_ ?_ | (intro cc; first | contradiction | (exfalso; (try simp only [Int32.lt_iff_toInt_lt, Int32.le_iff_toInt_le, Int32.reduceSub, Int32.reduceToInt, Int32.reduceAdd, Int32.reduceMul] at *); omega) | skip))
  all_goals (first | exact rfl | exact Nat.le_of_ble_eq_true rfl | exact True.intro | exact ⟨rfl, Nat.le_of_ble_eq_true rfl, Nat.le_of_ble_eq_true rfl⟩)
set_option maxRecDepth 20000 in
set_option maxHeartbeats 8000000 in
theorem runC25 (x0 x1 x2 x3 x4 x5 x6 : Int32) : np_runF (isC25_L_law 7 [x0, x1, x2, x3, x4, x5, x6] (fun st _ ce sl => st = [.int 1] ∧ ce ≤ 600002 ∧ sl ≤ 7302232)) [] (fun _ _ _ _ _ _ => False) 120 1949 np_L0 [] (233, np_wl np_V25) 1553 32513 := by
  rcases np_r5 x1 with rfl | rfl | rfl | rfl | rfl | ⟨hx1, kx1, mx1, nx1⟩ | ⟨hx1, kx1, mx1, nx1, ox1⟩
  · exact runC25_0 x0 x2 x3 x4 x5 x6
  · exact runC25_1 x0 x2 x3 x4 x5 x6
  · exact runC25_2 x0 x2 x3 x4 x5 x6
  · exact runC25_3 x0 x2 x3 x4 x5 x6
  · exact runC25_4 x0 x2 x3 x4 x5 x6
  · exact runC25_5 x0 x1 x2 x3 x4 x5 x6 hx1 kx1 mx1 nx1
  · exact runC25_6 x0 x1 x2 x3 x4 x5 x6 hx1 kx1 mx1 nx1 ox1
theorem case25 {X : np_Ctx} (hX : np_ok RL cL_law 7 11 432 600002 7302232 .ireturn X) (hRt : X.2.2.1 = fun st _ ce sl => st = [.int 1] ∧ ce ≤ 600002 ∧ sl ≤ 7302232) {xs : Nat → Int32} (hf : np_lf 7 xs X) {x0 x1 x2 x3 x4 x5 x6 : Int32} (hv : np_lv [x0, x1, x2, x3, x4, x5, x6] xs) : np_G X 1949 np_L0 [] (233, np_wl np_W0) 1553 32513 := by
  refine np_weak2 (f := np_wl np_V25) (np_all_sub ⟨rfl, rfl, rfl, rfl, rfl, rfl, rfl, rfl, rfl, rfl, trivial⟩) ?_
  refine np_finF (soC25_L_law (Rt := fun st _ ce sl => st = [.int 1] ∧ ce ≤ 600002 ∧ sl ≤ 7302232) hX hf hv (fun _ _ _ _ h => by rw [hRt]; exact h)) 120 ?_
  exact runC25 x0 x1 x2 x3 x4 x5 x6
