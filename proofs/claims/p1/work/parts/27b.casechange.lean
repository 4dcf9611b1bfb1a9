set_option maxRecDepth 20000 in
set_option maxHeartbeats 20000000 in
theorem runC25_2 (x0 x2 x3 x4 x5 x6 : Int32) : np_runF (isC25_L_law 7 [x0, 2, x2, x3, x4, x5, x6] (fun st _ ce sl => st = [.int 1] ∧ ce ≤ 600002 ∧ sl ≤ 7302232)) [] (fun _ _ _ _ _ _ => False) 120 1949 np_L0 [] (233, np_wl np_V25) 1553 32513 := by
  rcases np_r8 x2 with rfl | rfl | rfl | rfl | rfl | rfl | rfl | rfl | ⟨hx2, kx2, mx2, nx2⟩ | ⟨hx2, kx2, mx2, nx2, ox2⟩
  repeat' ((conv => whnf); first | refine np_br_i ?_ ?_ | apply And.intro | refine np_chk_i ?_ ?_ | (intro cc; first | contradiction | (exfalso; (try simp only [Int32.lt_iff_toInt_lt, Int32.le_iff_toInt_le, Int32.reduceSub, Int32.reduceToInt, Int32.reduceAdd, Int32.reduceMul] at *); omega) | skip))
  all_goals (first | exact rfl | exact Nat.le_of_ble_eq_true rfl | exact True.intro | exact ⟨rfl, Nat.le_of_ble_eq_true rfl, Nat.le_of_ble_eq_true rfl⟩)
set_option maxRecDepth 20000 in
set_option maxHeartbeats 20000000 in
theorem runC25_3 (x0 x2 x3 x4 x5 x6 : Int32) : np_runF (isC25_L_law 7 [x0, 3, x2, x3, x4, x5, x6] (fun st _ ce sl => st = [.int 1] ∧ ce ≤ 600002 ∧ sl ≤ 7302232)) [] (fun _ _ _ _ _ _ => False) 120 1949 np_L0 [] (233, np_wl np_V25) 1553 32513 := by
  rcases np_r8 x2 with rfl | rfl | rfl | rfl | rfl | rfl | rfl | rfl | ⟨hx2, kx2, mx2, nx2⟩ | ⟨hx2, kx2, mx2, nx2, ox2⟩
  repeat' ((conv => whnf); first | refine np_br_i ?_ ?_ | apply And.intro | refine np_chk_i ?_ ?_ | (intro cc; first | contradiction | (exfalso; (try simp only [Int32.lt_iff_toInt_lt, Int32.le_iff_toInt_le, Int32.reduceSub, Int32.reduceToInt, Int32.reduceAdd, Int32.reduceMul] at *); omega) | skip))
  all_goals (first | exact rfl | exact Nat.le_of_ble_eq_true rfl | exact True.intro | exact ⟨rfl, Nat.le_of_ble_eq_true rfl, Nat.le_of_ble_eq_true rfl⟩)
