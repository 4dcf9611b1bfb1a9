/-! The world of the loop, typed. -/
theorem np_eqv.te {e e' : np_E} (h : np_eqv e e') (ht : np_te e) : np_te e' := by
  unfold np_eqv at h
  split at h
  · obtain ⟨rfl, -⟩ := h
    exact ht
  · obtain ⟨rfl, -⟩ := h
    exact ht
  · rw [← h]
    exact ht
def pt_w (f : Nat → Option np_E) (a i : Nat) : Prop := ∃ e, f (pw_pl a i) = some e ∧ np_eqv e (pw_ent a i (pS0 a i))
def pt_h (f : Nat → Option np_E) : Prop := np_all f np_LS ∧ rkD 18 1253 17 18 g_X4_init f ∧ rkD 1254 1335 1253 1254 g_X5_init f
theorem pt_2_0 {f : Nat → Option np_E} (h : pt_h f) : pt_w f 2 0 := ⟨en_1343, np_all_sub h.1 (pw_pl 2 0) en_1343 rfl, ⟨rfl, rfl, fun _ _ => rfl⟩⟩
theorem pt_2_1 {f : Nat → Option np_E} (h : pt_h f) : pt_w f 2 1 := ⟨en_1354, np_all_sub h.1 (pw_pl 2 1) en_1354 rfl, ⟨rfl, rfl, fun _ _ => rfl⟩⟩
theorem pt_2_2 {f : Nat → Option np_E} (h : pt_h f) : pt_w f 2 2 := ⟨en_1365, np_all_sub h.1 (pw_pl 2 2) en_1365 rfl, ⟨rfl, rfl, fun _ _ => rfl⟩⟩
theorem pt_2_3 {f : Nat → Option np_E} (h : pt_h f) : pt_w f 2 3 := ⟨en_1376, np_all_sub h.1 (pw_pl 2 3) en_1376 rfl, ⟨rfl, rfl, fun _ _ => rfl⟩⟩
theorem pt_2_4 {f : Nat → Option np_E} (h : pt_h f) : pt_w f 2 4 := ⟨en_1387, np_all_sub h.1 (pw_pl 2 4) en_1387 rfl, ⟨rfl, rfl, fun _ _ => rfl⟩⟩
theorem pt_2_5 {f : Nat → Option np_E} (h : pt_h f) : pt_w f 2 5 := ⟨en_1398, np_all_sub h.1 (pw_pl 2 5) en_1398 rfl, ⟨rfl, rfl, fun _ _ => rfl⟩⟩
theorem pt_2_6 {f : Nat → Option np_E} (h : pt_h f) : pt_w f 2 6 := ⟨en_3, np_all_sub h.1 (pw_pl 2 6) en_3 rfl, ⟨rfl, rfl, fun _ _ => rfl⟩⟩
theorem pt_2_7 {f : Nat → Option np_E} (h : pt_h f) : pt_w f 2 7 := ⟨_, (h.2.1 (pw_pl 2 7) (Nat.le_of_ble_eq_true rfl) (Nat.le_of_ble_eq_true rfl)).trans rfl, ⟨rfl, rfl, fun _ _ => rfl⟩⟩
theorem pt_3_0 {f : Nat → Option np_E} (h : pt_h f) : pt_w f 3 0 := ⟨en_1344, np_all_sub h.1 (pw_pl 3 0) en_1344 rfl, ⟨rfl, rfl, fun _ _ => rfl⟩⟩
theorem pt_3_1 {f : Nat → Option np_E} (h : pt_h f) : pt_w f 3 1 := ⟨en_1355, np_all_sub h.1 (pw_pl 3 1) en_1355 rfl, ⟨rfl, rfl, fun _ _ => rfl⟩⟩
theorem pt_3_2 {f : Nat → Option np_E} (h : pt_h f) : pt_w f 3 2 := ⟨en_1366, np_all_sub h.1 (pw_pl 3 2) en_1366 rfl, ⟨rfl, rfl, fun _ _ => rfl⟩⟩
theorem pt_3_3 {f : Nat → Option np_E} (h : pt_h f) : pt_w f 3 3 := ⟨en_1377, np_all_sub h.1 (pw_pl 3 3) en_1377 rfl, ⟨rfl, rfl, fun _ _ => rfl⟩⟩
theorem pt_3_4 {f : Nat → Option np_E} (h : pt_h f) : pt_w f 3 4 := ⟨en_1388, np_all_sub h.1 (pw_pl 3 4) en_1388 rfl, ⟨rfl, rfl, fun _ _ => rfl⟩⟩
theorem pt_3_5 {f : Nat → Option np_E} (h : pt_h f) : pt_w f 3 5 := ⟨en_1399, np_all_sub h.1 (pw_pl 3 5) en_1399 rfl, ⟨rfl, rfl, fun _ _ => rfl⟩⟩
theorem pt_3_6 {f : Nat → Option np_E} (h : pt_h f) : pt_w f 3 6 := ⟨en_4, np_all_sub h.1 (pw_pl 3 6) en_4 rfl, ⟨rfl, rfl, fun _ _ => rfl⟩⟩
theorem pt_3_7 {f : Nat → Option np_E} (h : pt_h f) : pt_w f 3 7 := ⟨_, (h.2.1 (pw_pl 3 7) (Nat.le_of_ble_eq_true rfl) (Nat.le_of_ble_eq_true rfl)).trans rfl, ⟨rfl, rfl, fun _ _ => rfl⟩⟩
theorem pt_4_0 {f : Nat → Option np_E} (h : pt_h f) : pt_w f 4 0 := ⟨en_1345, np_all_sub h.1 (pw_pl 4 0) en_1345 rfl, ⟨rfl, rfl, fun _ _ => rfl⟩⟩
theorem pt_4_1 {f : Nat → Option np_E} (h : pt_h f) : pt_w f 4 1 := ⟨en_1356, np_all_sub h.1 (pw_pl 4 1) en_1356 rfl, ⟨rfl, rfl, fun _ _ => rfl⟩⟩
theorem pt_4_2 {f : Nat → Option np_E} (h : pt_h f) : pt_w f 4 2 := ⟨en_1367, np_all_sub h.1 (pw_pl 4 2) en_1367 rfl, ⟨rfl, rfl, fun _ _ => rfl⟩⟩
theorem pt_4_3 {f : Nat → Option np_E} (h : pt_h f) : pt_w f 4 3 := ⟨en_1378, np_all_sub h.1 (pw_pl 4 3) en_1378 rfl, ⟨rfl, rfl, fun _ _ => rfl⟩⟩
theorem pt_4_4 {f : Nat → Option np_E} (h : pt_h f) : pt_w f 4 4 := ⟨en_1389, np_all_sub h.1 (pw_pl 4 4) en_1389 rfl, ⟨rfl, rfl, fun _ _ => rfl⟩⟩
theorem pt_4_5 {f : Nat → Option np_E} (h : pt_h f) : pt_w f 4 5 := ⟨en_1400, np_all_sub h.1 (pw_pl 4 5) en_1400 rfl, ⟨rfl, rfl, fun _ _ => rfl⟩⟩
theorem pt_4_6 {f : Nat → Option np_E} (h : pt_h f) : pt_w f 4 6 := ⟨en_5, np_all_sub h.1 (pw_pl 4 6) en_5 rfl, ⟨rfl, rfl, fun _ _ => rfl⟩⟩
theorem pt_4_7 {f : Nat → Option np_E} (h : pt_h f) : pt_w f 4 7 := ⟨_, (h.2.1 (pw_pl 4 7) (Nat.le_of_ble_eq_true rfl) (Nat.le_of_ble_eq_true rfl)).trans rfl, ⟨rfl, rfl, fun _ _ => rfl⟩⟩
theorem pt_5_0 {f : Nat → Option np_E} (h : pt_h f) : pt_w f 5 0 := ⟨en_1346, np_all_sub h.1 (pw_pl 5 0) en_1346 rfl, ⟨rfl, rfl, fun _ _ => rfl⟩⟩
theorem pt_5_1 {f : Nat → Option np_E} (h : pt_h f) : pt_w f 5 1 := ⟨en_1357, np_all_sub h.1 (pw_pl 5 1) en_1357 rfl, ⟨rfl, rfl, fun _ _ => rfl⟩⟩
theorem pt_5_2 {f : Nat → Option np_E} (h : pt_h f) : pt_w f 5 2 := ⟨en_1368, np_all_sub h.1 (pw_pl 5 2) en_1368 rfl, ⟨rfl, rfl, fun _ _ => rfl⟩⟩
theorem pt_5_3 {f : Nat → Option np_E} (h : pt_h f) : pt_w f 5 3 := ⟨en_1379, np_all_sub h.1 (pw_pl 5 3) en_1379 rfl, ⟨rfl, rfl, fun _ _ => rfl⟩⟩
theorem pt_5_4 {f : Nat → Option np_E} (h : pt_h f) : pt_w f 5 4 := ⟨en_1390, np_all_sub h.1 (pw_pl 5 4) en_1390 rfl, ⟨rfl, rfl, fun _ _ => rfl⟩⟩
theorem pt_5_5 {f : Nat → Option np_E} (h : pt_h f) : pt_w f 5 5 := ⟨en_1401, np_all_sub h.1 (pw_pl 5 5) en_1401 rfl, ⟨rfl, rfl, fun _ _ => rfl⟩⟩
theorem pt_5_6 {f : Nat → Option np_E} (h : pt_h f) : pt_w f 5 6 := ⟨en_6, np_all_sub h.1 (pw_pl 5 6) en_6 rfl, ⟨rfl, rfl, fun _ _ => rfl⟩⟩
theorem pt_5_7 {f : Nat → Option np_E} (h : pt_h f) : pt_w f 5 7 := ⟨_, (h.2.1 (pw_pl 5 7) (Nat.le_of_ble_eq_true rfl) (Nat.le_of_ble_eq_true rfl)).trans rfl, ⟨rfl, rfl, fun _ _ => rfl⟩⟩
theorem pt_6_0 {f : Nat → Option np_E} (h : pt_h f) : pt_w f 6 0 := ⟨en_1347, np_all_sub h.1 (pw_pl 6 0) en_1347 rfl, ⟨rfl, rfl, fun _ _ => rfl⟩⟩
theorem pt_6_1 {f : Nat → Option np_E} (h : pt_h f) : pt_w f 6 1 := ⟨en_1358, np_all_sub h.1 (pw_pl 6 1) en_1358 rfl, ⟨rfl, rfl, fun _ _ => rfl⟩⟩
theorem pt_6_2 {f : Nat → Option np_E} (h : pt_h f) : pt_w f 6 2 := ⟨en_1369, np_all_sub h.1 (pw_pl 6 2) en_1369 rfl, ⟨rfl, rfl, fun _ _ => rfl⟩⟩
theorem pt_6_3 {f : Nat → Option np_E} (h : pt_h f) : pt_w f 6 3 := ⟨en_1380, np_all_sub h.1 (pw_pl 6 3) en_1380 rfl, ⟨rfl, rfl, fun _ _ => rfl⟩⟩
theorem pt_6_4 {f : Nat → Option np_E} (h : pt_h f) : pt_w f 6 4 := ⟨en_1391, np_all_sub h.1 (pw_pl 6 4) en_1391 rfl, ⟨rfl, rfl, fun _ _ => rfl⟩⟩
theorem pt_6_5 {f : Nat → Option np_E} (h : pt_h f) : pt_w f 6 5 := ⟨en_1402, np_all_sub h.1 (pw_pl 6 5) en_1402 rfl, ⟨rfl, rfl, fun _ _ => rfl⟩⟩
theorem pt_7_0 {f : Nat → Option np_E} (h : pt_h f) : pt_w f 7 0 := ⟨en_1348, np_all_sub h.1 (pw_pl 7 0) en_1348 rfl, ⟨rfl, rfl, fun _ _ => rfl⟩⟩
theorem pt_7_1 {f : Nat → Option np_E} (h : pt_h f) : pt_w f 7 1 := ⟨en_1359, np_all_sub h.1 (pw_pl 7 1) en_1359 rfl, ⟨rfl, rfl, fun _ _ => rfl⟩⟩
theorem pt_7_2 {f : Nat → Option np_E} (h : pt_h f) : pt_w f 7 2 := ⟨en_1370, np_all_sub h.1 (pw_pl 7 2) en_1370 rfl, ⟨rfl, rfl, fun _ _ => rfl⟩⟩
theorem pt_7_3 {f : Nat → Option np_E} (h : pt_h f) : pt_w f 7 3 := ⟨en_1381, np_all_sub h.1 (pw_pl 7 3) en_1381 rfl, ⟨rfl, rfl, fun _ _ => rfl⟩⟩
theorem pt_7_4 {f : Nat → Option np_E} (h : pt_h f) : pt_w f 7 4 := ⟨en_1392, np_all_sub h.1 (pw_pl 7 4) en_1392 rfl, ⟨rfl, rfl, fun _ _ => rfl⟩⟩
theorem pt_7_5 {f : Nat → Option np_E} (h : pt_h f) : pt_w f 7 5 := ⟨en_1403, np_all_sub h.1 (pw_pl 7 5) en_1403 rfl, ⟨rfl, rfl, fun _ _ => rfl⟩⟩
theorem pt_8_0 {f : Nat → Option np_E} (h : pt_h f) : pt_w f 8 0 := ⟨en_1349, np_all_sub h.1 (pw_pl 8 0) en_1349 rfl, ⟨rfl, rfl, fun _ _ => rfl⟩⟩
theorem pt_8_1 {f : Nat → Option np_E} (h : pt_h f) : pt_w f 8 1 := ⟨en_1360, np_all_sub h.1 (pw_pl 8 1) en_1360 rfl, ⟨rfl, rfl, fun _ _ => rfl⟩⟩
theorem pt_8_2 {f : Nat → Option np_E} (h : pt_h f) : pt_w f 8 2 := ⟨en_1371, np_all_sub h.1 (pw_pl 8 2) en_1371 rfl, ⟨rfl, rfl, fun _ _ => rfl⟩⟩
theorem pt_8_3 {f : Nat → Option np_E} (h : pt_h f) : pt_w f 8 3 := ⟨en_1382, np_all_sub h.1 (pw_pl 8 3) en_1382 rfl, ⟨rfl, rfl, fun _ _ => rfl⟩⟩
theorem pt_8_4 {f : Nat → Option np_E} (h : pt_h f) : pt_w f 8 4 := ⟨en_1393, np_all_sub h.1 (pw_pl 8 4) en_1393 rfl, ⟨rfl, rfl, fun _ _ => rfl⟩⟩
theorem pt_8_5 {f : Nat → Option np_E} (h : pt_h f) : pt_w f 8 5 := ⟨en_1404, np_all_sub h.1 (pw_pl 8 5) en_1404 rfl, ⟨rfl, rfl, fun _ _ => rfl⟩⟩
theorem pt_9_0 {f : Nat → Option np_E} (h : pt_h f) : pt_w f 9 0 := ⟨en_1350, np_all_sub h.1 (pw_pl 9 0) en_1350 rfl, ⟨rfl, rfl, fun _ _ => rfl⟩⟩
theorem pt_9_1 {f : Nat → Option np_E} (h : pt_h f) : pt_w f 9 1 := ⟨en_1361, np_all_sub h.1 (pw_pl 9 1) en_1361 rfl, ⟨rfl, rfl, fun _ _ => rfl⟩⟩
theorem pt_9_2 {f : Nat → Option np_E} (h : pt_h f) : pt_w f 9 2 := ⟨en_1372, np_all_sub h.1 (pw_pl 9 2) en_1372 rfl, ⟨rfl, rfl, fun _ _ => rfl⟩⟩
theorem pt_9_3 {f : Nat → Option np_E} (h : pt_h f) : pt_w f 9 3 := ⟨en_1383, np_all_sub h.1 (pw_pl 9 3) en_1383 rfl, ⟨rfl, rfl, fun _ _ => rfl⟩⟩
theorem pt_9_4 {f : Nat → Option np_E} (h : pt_h f) : pt_w f 9 4 := ⟨en_1394, np_all_sub h.1 (pw_pl 9 4) en_1394 rfl, ⟨rfl, rfl, fun _ _ => rfl⟩⟩
theorem pt_9_5 {f : Nat → Option np_E} (h : pt_h f) : pt_w f 9 5 := ⟨en_1405, np_all_sub h.1 (pw_pl 9 5) en_1405 rfl, ⟨rfl, rfl, fun _ _ => rfl⟩⟩
theorem pt_10_0 {f : Nat → Option np_E} (h : pt_h f) : pt_w f 10 0 := ⟨en_1351, np_all_sub h.1 (pw_pl 10 0) en_1351 rfl, ⟨rfl, rfl, fun _ _ => rfl⟩⟩
theorem pt_10_1 {f : Nat → Option np_E} (h : pt_h f) : pt_w f 10 1 := ⟨en_1362, np_all_sub h.1 (pw_pl 10 1) en_1362 rfl, ⟨rfl, rfl, fun _ _ => rfl⟩⟩
theorem pt_10_2 {f : Nat → Option np_E} (h : pt_h f) : pt_w f 10 2 := ⟨en_1373, np_all_sub h.1 (pw_pl 10 2) en_1373 rfl, ⟨rfl, rfl, fun _ _ => rfl⟩⟩
theorem pt_10_3 {f : Nat → Option np_E} (h : pt_h f) : pt_w f 10 3 := ⟨en_1384, np_all_sub h.1 (pw_pl 10 3) en_1384 rfl, ⟨rfl, rfl, fun _ _ => rfl⟩⟩
theorem pt_10_4 {f : Nat → Option np_E} (h : pt_h f) : pt_w f 10 4 := ⟨en_1395, np_all_sub h.1 (pw_pl 10 4) en_1395 rfl, ⟨rfl, rfl, fun _ _ => rfl⟩⟩
theorem pt_10_5 {f : Nat → Option np_E} (h : pt_h f) : pt_w f 10 5 := ⟨en_1406, np_all_sub h.1 (pw_pl 10 5) en_1406 rfl, ⟨rfl, rfl, fun _ _ => rfl⟩⟩
theorem pt_11_0 {f : Nat → Option np_E} (h : pt_h f) : pt_w f 11 0 := ⟨en_1408, np_all_sub h.1 (pw_pl 11 0) en_1408 rfl, ⟨rfl, rfl, fun _ _ => rfl⟩⟩
theorem pt_11_1 {f : Nat → Option np_E} (h : pt_h f) : pt_w f 11 1 := ⟨en_1410, np_all_sub h.1 (pw_pl 11 1) en_1410 rfl, ⟨rfl, rfl, fun _ _ => rfl⟩⟩
theorem pt_11_2 {f : Nat → Option np_E} (h : pt_h f) : pt_w f 11 2 := ⟨_, (h.2.1 (pw_pl 11 2) (Nat.le_of_ble_eq_true rfl) (Nat.le_of_ble_eq_true rfl)).trans rfl, ⟨rfl, rfl, fun _ _ => rfl⟩⟩
theorem pt_12_0 {f : Nat → Option np_E} (h : pt_h f) : pt_w f 12 0 := ⟨en_1412, np_all_sub h.1 (pw_pl 12 0) en_1412 rfl, ⟨rfl, rfl, fun _ _ => rfl⟩⟩
theorem pt_12_1 {f : Nat → Option np_E} (h : pt_h f) : pt_w f 12 1 := ⟨en_1418, np_all_sub h.1 (pw_pl 12 1) en_1418 rfl, ⟨rfl, rfl, fun _ _ => rfl⟩⟩
theorem pt_13_0 {f : Nat → Option np_E} (h : pt_h f) : pt_w f 13 0 := ⟨en_1413, np_all_sub h.1 (pw_pl 13 0) en_1413 rfl, ⟨rfl, rfl, fun _ _ => rfl⟩⟩
theorem pt_13_1 {f : Nat → Option np_E} (h : pt_h f) : pt_w f 13 1 := ⟨en_1419, np_all_sub h.1 (pw_pl 13 1) en_1419 rfl, ⟨rfl, rfl, fun _ _ => rfl⟩⟩
theorem pt_14_0 {f : Nat → Option np_E} (h : pt_h f) : pt_w f 14 0 := ⟨en_1414, np_all_sub h.1 (pw_pl 14 0) en_1414 rfl, ⟨rfl, rfl, fun _ _ => rfl⟩⟩
theorem pt_14_1 {f : Nat → Option np_E} (h : pt_h f) : pt_w f 14 1 := ⟨en_1420, np_all_sub h.1 (pw_pl 14 1) en_1420 rfl, ⟨rfl, rfl, fun _ _ => rfl⟩⟩
theorem pt_15_0 {f : Nat → Option np_E} (h : pt_h f) : pt_w f 15 0 := ⟨en_1415, np_all_sub h.1 (pw_pl 15 0) en_1415 rfl, ⟨rfl, rfl, fun _ _ => rfl⟩⟩
theorem pt_15_1 {f : Nat → Option np_E} (h : pt_h f) : pt_w f 15 1 := ⟨en_1421, np_all_sub h.1 (pw_pl 15 1) en_1421 rfl, ⟨rfl, rfl, fun _ _ => rfl⟩⟩
theorem pt_16_0 {f : Nat → Option np_E} (h : pt_h f) : pt_w f 16 0 := ⟨en_1416, np_all_sub h.1 (pw_pl 16 0) en_1416 rfl, ⟨rfl, rfl, fun _ _ => rfl⟩⟩
theorem pt_16_1 {f : Nat → Option np_E} (h : pt_h f) : pt_w f 16 1 := ⟨en_1422, np_all_sub h.1 (pw_pl 16 1) en_1422 rfl, ⟨rfl, rfl, fun _ _ => rfl⟩⟩
theorem pt_17_0 {f : Nat → Option np_E} (h : pt_h f) : pt_w f 17 0 := ⟨en_1424, np_all_sub h.1 (pw_pl 17 0) en_1424 rfl, ⟨rfl, rfl, fun _ _ => rfl⟩⟩
theorem pt_17_1 {f : Nat → Option np_E} (h : pt_h f) : pt_w f 17 1 := ⟨en_1427, np_all_sub h.1 (pw_pl 17 1) en_1427 rfl, ⟨rfl, rfl, fun _ _ => rfl⟩⟩
theorem pt_17_2 {f : Nat → Option np_E} (h : pt_h f) : pt_w f 17 2 := ⟨en_1430, np_all_sub h.1 (pw_pl 17 2) en_1430 rfl, ⟨rfl, rfl, fun _ _ => rfl⟩⟩
theorem pt_17_3 {f : Nat → Option np_E} (h : pt_h f) : pt_w f 17 3 := ⟨en_1433, np_all_sub h.1 (pw_pl 17 3) en_1433 rfl, ⟨rfl, rfl, fun _ _ => rfl⟩⟩
theorem pt_17_4 {f : Nat → Option np_E} (h : pt_h f) : pt_w f 17 4 := ⟨en_1436, np_all_sub h.1 (pw_pl 17 4) en_1436 rfl, ⟨rfl, rfl, fun _ _ => rfl⟩⟩
theorem pt_17_5 {f : Nat → Option np_E} (h : pt_h f) : pt_w f 17 5 := ⟨en_1439, np_all_sub h.1 (pw_pl 17 5) en_1439 rfl, ⟨rfl, rfl, fun _ _ => rfl⟩⟩
theorem pt_18_0 {f : Nat → Option np_E} (h : pt_h f) : pt_w f 18 0 := ⟨en_1425, np_all_sub h.1 (pw_pl 18 0) en_1425 rfl, ⟨rfl, rfl, fun _ _ => rfl⟩⟩
theorem pt_18_1 {f : Nat → Option np_E} (h : pt_h f) : pt_w f 18 1 := ⟨en_1428, np_all_sub h.1 (pw_pl 18 1) en_1428 rfl, ⟨rfl, rfl, fun _ _ => rfl⟩⟩
theorem pt_18_2 {f : Nat → Option np_E} (h : pt_h f) : pt_w f 18 2 := ⟨en_1431, np_all_sub h.1 (pw_pl 18 2) en_1431 rfl, ⟨rfl, rfl, fun _ _ => rfl⟩⟩
theorem pt_18_3 {f : Nat → Option np_E} (h : pt_h f) : pt_w f 18 3 := ⟨en_1434, np_all_sub h.1 (pw_pl 18 3) en_1434 rfl, ⟨rfl, rfl, fun _ _ => rfl⟩⟩
theorem pt_18_4 {f : Nat → Option np_E} (h : pt_h f) : pt_w f 18 4 := ⟨en_1437, np_all_sub h.1 (pw_pl 18 4) en_1437 rfl, ⟨rfl, rfl, fun _ _ => rfl⟩⟩
theorem pt_18_5 {f : Nat → Option np_E} (h : pt_h f) : pt_w f 18 5 := ⟨en_1440, np_all_sub h.1 (pw_pl 18 5) en_1440 rfl, ⟨rfl, rfl, fun _ _ => rfl⟩⟩
theorem pt_19_0 {f : Nat → Option np_E} (h : pt_h f) : pt_w f 19 0 := ⟨en_1337, np_all_sub h.1 (pw_pl 19 0) en_1337 rfl, ⟨rfl, rfl, fun _ _ => rfl⟩⟩
theorem pt_20_0 {f : Nat → Option np_E} (h : pt_h f) : pt_w f 20 0 := ⟨en_1338, np_all_sub h.1 (pw_pl 20 0) en_1338 rfl, ⟨rfl, rfl, fun _ _ => rfl⟩⟩
theorem pt_21_0 {f : Nat → Option np_E} (h : pt_h f) : pt_w f 21 0 := ⟨en_1339, np_all_sub h.1 (pw_pl 21 0) en_1339 rfl, ⟨rfl, rfl, fun _ _ => rfl⟩⟩
theorem pt_22_0 {f : Nat → Option np_E} (h : pt_h f) : pt_w f 22 0 := ⟨en_1442, np_all_sub h.1 (pw_pl 22 0) en_1442 rfl, ⟨rfl, rfl, fun _ _ => rfl⟩⟩
theorem pt_22_1 {f : Nat → Option np_E} (h : pt_h f) : pt_w f 22 1 := ⟨en_1449, np_all_sub h.1 (pw_pl 22 1) en_1449 rfl, ⟨rfl, rfl, fun _ _ => rfl⟩⟩
theorem pt_22_2 {f : Nat → Option np_E} (h : pt_h f) : pt_w f 22 2 := ⟨en_1456, np_all_sub h.1 (pw_pl 22 2) en_1456 rfl, ⟨rfl, rfl, fun _ _ => rfl⟩⟩
theorem pt_22_3 {f : Nat → Option np_E} (h : pt_h f) : pt_w f 22 3 := ⟨en_1463, np_all_sub h.1 (pw_pl 22 3) en_1463 rfl, ⟨rfl, rfl, fun _ _ => rfl⟩⟩
theorem pt_22_4 {f : Nat → Option np_E} (h : pt_h f) : pt_w f 22 4 := ⟨en_1470, np_all_sub h.1 (pw_pl 22 4) en_1470 rfl, ⟨rfl, rfl, fun _ _ => rfl⟩⟩
theorem pt_22_5 {f : Nat → Option np_E} (h : pt_h f) : pt_w f 22 5 := ⟨en_1477, np_all_sub h.1 (pw_pl 22 5) en_1477 rfl, ⟨rfl, rfl, fun _ _ => rfl⟩⟩
theorem pt_22_6 {f : Nat → Option np_E} (h : pt_h f) : pt_w f 22 6 := ⟨en_1484, np_all_sub h.1 (pw_pl 22 6) en_1484 rfl, ⟨rfl, rfl, fun _ _ => rfl⟩⟩
theorem pt_22_7 {f : Nat → Option np_E} (h : pt_h f) : pt_w f 22 7 := ⟨en_1491, np_all_sub h.1 (pw_pl 22 7) en_1491 rfl, ⟨rfl, rfl, fun _ _ => rfl⟩⟩
theorem pt_23_0 {f : Nat → Option np_E} (h : pt_h f) : pt_w f 23 0 := ⟨en_1443, np_all_sub h.1 (pw_pl 23 0) en_1443 rfl, ⟨rfl, rfl, fun _ _ => rfl⟩⟩
theorem pt_23_1 {f : Nat → Option np_E} (h : pt_h f) : pt_w f 23 1 := ⟨en_1450, np_all_sub h.1 (pw_pl 23 1) en_1450 rfl, ⟨rfl, rfl, fun _ _ => rfl⟩⟩
theorem pt_23_2 {f : Nat → Option np_E} (h : pt_h f) : pt_w f 23 2 := ⟨en_1457, np_all_sub h.1 (pw_pl 23 2) en_1457 rfl, ⟨rfl, rfl, fun _ _ => rfl⟩⟩
theorem pt_23_3 {f : Nat → Option np_E} (h : pt_h f) : pt_w f 23 3 := ⟨en_1464, np_all_sub h.1 (pw_pl 23 3) en_1464 rfl, ⟨rfl, rfl, fun _ _ => rfl⟩⟩
theorem pt_23_4 {f : Nat → Option np_E} (h : pt_h f) : pt_w f 23 4 := ⟨en_1471, np_all_sub h.1 (pw_pl 23 4) en_1471 rfl, ⟨rfl, rfl, fun _ _ => rfl⟩⟩
theorem pt_23_5 {f : Nat → Option np_E} (h : pt_h f) : pt_w f 23 5 := ⟨en_1478, np_all_sub h.1 (pw_pl 23 5) en_1478 rfl, ⟨rfl, rfl, fun _ _ => rfl⟩⟩
theorem pt_23_6 {f : Nat → Option np_E} (h : pt_h f) : pt_w f 23 6 := ⟨en_1485, np_all_sub h.1 (pw_pl 23 6) en_1485 rfl, ⟨rfl, rfl, fun _ _ => rfl⟩⟩
theorem pt_23_7 {f : Nat → Option np_E} (h : pt_h f) : pt_w f 23 7 := ⟨en_1492, np_all_sub h.1 (pw_pl 23 7) en_1492 rfl, ⟨rfl, rfl, fun _ _ => rfl⟩⟩
theorem pt_24_0 {f : Nat → Option np_E} (h : pt_h f) : pt_w f 24 0 := ⟨en_1444, np_all_sub h.1 (pw_pl 24 0) en_1444 rfl, ⟨rfl, rfl, fun _ _ => rfl⟩⟩
theorem pt_24_1 {f : Nat → Option np_E} (h : pt_h f) : pt_w f 24 1 := ⟨en_1451, np_all_sub h.1 (pw_pl 24 1) en_1451 rfl, ⟨rfl, rfl, fun _ _ => rfl⟩⟩
theorem pt_24_2 {f : Nat → Option np_E} (h : pt_h f) : pt_w f 24 2 := ⟨en_1458, np_all_sub h.1 (pw_pl 24 2) en_1458 rfl, ⟨rfl, rfl, fun _ _ => rfl⟩⟩
theorem pt_24_3 {f : Nat → Option np_E} (h : pt_h f) : pt_w f 24 3 := ⟨en_1465, np_all_sub h.1 (pw_pl 24 3) en_1465 rfl, ⟨rfl, rfl, fun _ _ => rfl⟩⟩
theorem pt_24_4 {f : Nat → Option np_E} (h : pt_h f) : pt_w f 24 4 := ⟨en_1472, np_all_sub h.1 (pw_pl 24 4) en_1472 rfl, ⟨rfl, rfl, fun _ _ => rfl⟩⟩
theorem pt_24_5 {f : Nat → Option np_E} (h : pt_h f) : pt_w f 24 5 := ⟨en_1479, np_all_sub h.1 (pw_pl 24 5) en_1479 rfl, ⟨rfl, rfl, fun _ _ => rfl⟩⟩
theorem pt_24_6 {f : Nat → Option np_E} (h : pt_h f) : pt_w f 24 6 := ⟨en_1486, np_all_sub h.1 (pw_pl 24 6) en_1486 rfl, ⟨rfl, rfl, fun _ _ => rfl⟩⟩
theorem pt_24_7 {f : Nat → Option np_E} (h : pt_h f) : pt_w f 24 7 := ⟨en_1493, np_all_sub h.1 (pw_pl 24 7) en_1493 rfl, ⟨rfl, rfl, fun _ _ => rfl⟩⟩
theorem pt_25_0 {f : Nat → Option np_E} (h : pt_h f) : pt_w f 25 0 := ⟨en_1445, np_all_sub h.1 (pw_pl 25 0) en_1445 rfl, ⟨rfl, rfl, fun _ _ => rfl⟩⟩
theorem pt_25_1 {f : Nat → Option np_E} (h : pt_h f) : pt_w f 25 1 := ⟨en_1452, np_all_sub h.1 (pw_pl 25 1) en_1452 rfl, ⟨rfl, rfl, fun _ _ => rfl⟩⟩
theorem pt_25_2 {f : Nat → Option np_E} (h : pt_h f) : pt_w f 25 2 := ⟨en_1459, np_all_sub h.1 (pw_pl 25 2) en_1459 rfl, ⟨rfl, rfl, fun _ _ => rfl⟩⟩
theorem pt_25_3 {f : Nat → Option np_E} (h : pt_h f) : pt_w f 25 3 := ⟨en_1466, np_all_sub h.1 (pw_pl 25 3) en_1466 rfl, ⟨rfl, rfl, fun _ _ => rfl⟩⟩
theorem pt_25_4 {f : Nat → Option np_E} (h : pt_h f) : pt_w f 25 4 := ⟨en_1473, np_all_sub h.1 (pw_pl 25 4) en_1473 rfl, ⟨rfl, rfl, fun _ _ => rfl⟩⟩
theorem pt_25_5 {f : Nat → Option np_E} (h : pt_h f) : pt_w f 25 5 := ⟨en_1480, np_all_sub h.1 (pw_pl 25 5) en_1480 rfl, ⟨rfl, rfl, fun _ _ => rfl⟩⟩
theorem pt_25_6 {f : Nat → Option np_E} (h : pt_h f) : pt_w f 25 6 := ⟨en_1487, np_all_sub h.1 (pw_pl 25 6) en_1487 rfl, ⟨rfl, rfl, fun _ _ => rfl⟩⟩
theorem pt_25_7 {f : Nat → Option np_E} (h : pt_h f) : pt_w f 25 7 := ⟨en_1494, np_all_sub h.1 (pw_pl 25 7) en_1494 rfl, ⟨rfl, rfl, fun _ _ => rfl⟩⟩
theorem pt_26_0 {f : Nat → Option np_E} (h : pt_h f) : pt_w f 26 0 := ⟨en_1446, np_all_sub h.1 (pw_pl 26 0) en_1446 rfl, ⟨rfl, rfl, fun _ _ => rfl⟩⟩
theorem pt_26_1 {f : Nat → Option np_E} (h : pt_h f) : pt_w f 26 1 := ⟨en_1453, np_all_sub h.1 (pw_pl 26 1) en_1453 rfl, ⟨rfl, rfl, fun _ _ => rfl⟩⟩
theorem pt_26_2 {f : Nat → Option np_E} (h : pt_h f) : pt_w f 26 2 := ⟨en_1460, np_all_sub h.1 (pw_pl 26 2) en_1460 rfl, ⟨rfl, rfl, fun _ _ => rfl⟩⟩
theorem pt_26_3 {f : Nat → Option np_E} (h : pt_h f) : pt_w f 26 3 := ⟨en_1467, np_all_sub h.1 (pw_pl 26 3) en_1467 rfl, ⟨rfl, rfl, fun _ _ => rfl⟩⟩
theorem pt_26_4 {f : Nat → Option np_E} (h : pt_h f) : pt_w f 26 4 := ⟨en_1474, np_all_sub h.1 (pw_pl 26 4) en_1474 rfl, ⟨rfl, rfl, fun _ _ => rfl⟩⟩
theorem pt_26_5 {f : Nat → Option np_E} (h : pt_h f) : pt_w f 26 5 := ⟨en_1481, np_all_sub h.1 (pw_pl 26 5) en_1481 rfl, ⟨rfl, rfl, fun _ _ => rfl⟩⟩
theorem pt_26_6 {f : Nat → Option np_E} (h : pt_h f) : pt_w f 26 6 := ⟨en_1488, np_all_sub h.1 (pw_pl 26 6) en_1488 rfl, ⟨rfl, rfl, fun _ _ => rfl⟩⟩
theorem pt_26_7 {f : Nat → Option np_E} (h : pt_h f) : pt_w f 26 7 := ⟨en_1495, np_all_sub h.1 (pw_pl 26 7) en_1495 rfl, ⟨rfl, rfl, fun _ _ => rfl⟩⟩
theorem pt_27_0 {f : Nat → Option np_E} (h : pt_h f) : pt_w f 27 0 := ⟨en_1447, np_all_sub h.1 (pw_pl 27 0) en_1447 rfl, ⟨rfl, rfl, fun _ _ => rfl⟩⟩
theorem pt_27_1 {f : Nat → Option np_E} (h : pt_h f) : pt_w f 27 1 := ⟨en_1454, np_all_sub h.1 (pw_pl 27 1) en_1454 rfl, ⟨rfl, rfl, fun _ _ => rfl⟩⟩
theorem pt_27_2 {f : Nat → Option np_E} (h : pt_h f) : pt_w f 27 2 := ⟨en_1461, np_all_sub h.1 (pw_pl 27 2) en_1461 rfl, ⟨rfl, rfl, fun _ _ => rfl⟩⟩
theorem pt_27_3 {f : Nat → Option np_E} (h : pt_h f) : pt_w f 27 3 := ⟨en_1468, np_all_sub h.1 (pw_pl 27 3) en_1468 rfl, ⟨rfl, rfl, fun _ _ => rfl⟩⟩
theorem pt_27_4 {f : Nat → Option np_E} (h : pt_h f) : pt_w f 27 4 := ⟨en_1475, np_all_sub h.1 (pw_pl 27 4) en_1475 rfl, ⟨rfl, rfl, fun _ _ => rfl⟩⟩
theorem pt_27_5 {f : Nat → Option np_E} (h : pt_h f) : pt_w f 27 5 := ⟨en_1482, np_all_sub h.1 (pw_pl 27 5) en_1482 rfl, ⟨rfl, rfl, fun _ _ => rfl⟩⟩
theorem pt_27_6 {f : Nat → Option np_E} (h : pt_h f) : pt_w f 27 6 := ⟨en_1489, np_all_sub h.1 (pw_pl 27 6) en_1489 rfl, ⟨rfl, rfl, fun _ _ => rfl⟩⟩
theorem pt_27_7 {f : Nat → Option np_E} (h : pt_h f) : pt_w f 27 7 := ⟨en_1496, np_all_sub h.1 (pw_pl 27 7) en_1496 rfl, ⟨rfl, rfl, fun _ _ => rfl⟩⟩
theorem pt_28_0 {f : Nat → Option np_E} (h : pt_h f) : pt_w f 28 0 := ⟨en_12, np_all_sub h.1 (pw_pl 28 0) en_12 rfl, ⟨rfl, rfl, fun _ _ => rfl⟩⟩
theorem pt_29_0 {f : Nat → Option np_E} (h : pt_h f) : pt_w f 29 0 := ⟨en_13, np_all_sub h.1 (pw_pl 29 0) en_13 rfl, ⟨rfl, rfl, fun _ _ => rfl⟩⟩
theorem pt_30_0 {f : Nat → Option np_E} (h : pt_h f) : pt_w f 30 0 := ⟨_, (h.2.1 (pw_pl 30 0) (Nat.le_of_ble_eq_true rfl) (Nat.le_of_ble_eq_true rfl)).trans rfl, ⟨rfl, rfl, fun _ _ => rfl⟩⟩
theorem pt_31_0 {f : Nat → Option np_E} (h : pt_h f) : pt_w f 31 0 := ⟨_, (h.2.1 (pw_pl 31 0) (Nat.le_of_ble_eq_true rfl) (Nat.le_of_ble_eq_true rfl)).trans rfl, ⟨rfl, rfl, fun _ _ => rfl⟩⟩
theorem pt_32_0 {f : Nat → Option np_E} (h : pt_h f) : pt_w f 32 0 := ⟨_, (h.2.1 (pw_pl 32 0) (Nat.le_of_ble_eq_true rfl) (Nat.le_of_ble_eq_true rfl)).trans rfl, ⟨rfl, rfl, fun _ _ => rfl⟩⟩
set_option maxRecDepth 100000 in
theorem pt_33_0 {f : Nat → Option np_E} (h : pt_h f) : pt_w f 33 0 := ⟨_, (h.2.2 (pw_pl 33 0) (Nat.le_of_ble_eq_true rfl) (Nat.le_of_ble_eq_true rfl)).trans rfl, ⟨rfl, rfl, fun _ _ => rfl⟩⟩
set_option maxRecDepth 100000 in
theorem pt_34_0 {f : Nat → Option np_E} (h : pt_h f) : pt_w f 34 0 := ⟨_, (h.2.2 (pw_pl 34 0) (Nat.le_of_ble_eq_true rfl) (Nat.le_of_ble_eq_true rfl)).trans rfl, ⟨rfl, rfl, fun _ _ => rfl⟩⟩
theorem pt_35_0 {f : Nat → Option np_E} (h : pt_h f) : pt_w f 35 0 := ⟨en_8, np_all_sub h.1 (pw_pl 35 0) en_8 rfl, ⟨rfl, rfl, fun _ _ => rfl⟩⟩
theorem pt_36_0 {f : Nat → Option np_E} (h : pt_h f) : pt_w f 36 0 := ⟨en_1497, np_all_sub h.1 (pw_pl 36 0) en_1497 rfl, ⟨rfl, rfl, fun _ _ => rfl⟩⟩
theorem pt_37_0 {f : Nat → Option np_E} (h : pt_h f) : pt_w f 37 0 := ⟨en_1498, np_all_sub h.1 (pw_pl 37 0) en_1498 rfl, ⟨rfl, rfl, fun _ _ => rfl⟩⟩
theorem pt_38_0 {f : Nat → Option np_E} (h : pt_h f) : pt_w f 38 0 := ⟨en_1499, np_all_sub h.1 (pw_pl 38 0) en_1499 rfl, ⟨rfl, rfl, fun _ _ => rfl⟩⟩
theorem pt_39_0 {f : Nat → Option np_E} (h : pt_h f) : pt_w f 39 0 := ⟨en_1500, np_all_sub h.1 (pw_pl 39 0) en_1500 rfl, ⟨rfl, rfl, fun _ _ => rfl⟩⟩
theorem pt_41_0 {f : Nat → Option np_E} (h : pt_h f) : pt_w f 41 0 := by
  refine ⟨_, (h.2.1 (pw_pl 41 0) (Nat.le_of_ble_eq_true rfl) (Nat.le_of_ble_eq_true rfl)).trans rfl, rfl, rfl, fun j hj => ?_⟩
  exact (by decide +kernel : ∀ j : Fin 407, ((if j.val < 407 then some (15 + 3 * j.val) else none).map (np_rh 17 18)) = some (pw_pl 50 (j.val % 407))) ⟨j, hj⟩
set_option maxRecDepth 100000 in
theorem pt_42_0 {f : Nat → Option np_E} (h : pt_h f) : pt_w f 42 0 := by
  refine ⟨_, (h.2.2 (pw_pl 42 0) (Nat.le_of_ble_eq_true rfl) (Nat.le_of_ble_eq_true rfl)).trans rfl, rfl, rfl, fun j hj => ?_⟩
  exact (by decide +kernel : ∀ j : Fin 26, ((if j.val < 26 then some (4 + 3 * j.val) else none).map (np_rh 1253 1254)) = some (pw_pl 50 (409 + j.val % 26))) ⟨j, hj⟩
theorem pt_43_0 {f : Nat → Option np_E} (h : pt_h f) : pt_w f 43 0 := by
  refine ⟨en_7, np_all_sub h.1 (pw_pl 43 0) en_7 rfl, rfl, rfl, fun j hj => ?_⟩
  exact (by decide +kernel : ∀ j : Fin 6, (va_up (va_up (va_up (va_up (va_up (va_up (fun _ => none) 0 (some 1341)) 1 (some 1352)) 2 (some 1363)) 3 (some 1374)) 4 (some 1385)) 5 (some 1396)) j.val = some (pw_pl 52 (j.val % 6))) ⟨j, hj⟩
theorem pt_44_0 {f : Nat → Option np_E} (h : pt_h f) : pt_w f 44 0 := by
  refine ⟨en_9, np_all_sub h.1 (pw_pl 44 0) en_9 rfl, rfl, rfl, fun j hj => ?_⟩
  exact (by decide +kernel : ∀ j : Fin 2, (va_up (va_up (fun _ => none) 0 (some 1407)) 1 (some 1409)) j.val = some (pw_pl 53 (j.val % 2))) ⟨j, hj⟩
theorem pt_45_0 {f : Nat → Option np_E} (h : pt_h f) : pt_w f 45 0 := by
  refine ⟨en_10, np_all_sub h.1 (pw_pl 45 0) en_10 rfl, rfl, rfl, fun j hj => ?_⟩
  exact (by decide +kernel : ∀ j : Fin 2, (va_up (va_up (fun _ => none) 0 (some 1411)) 1 (some 1417)) j.val = some (pw_pl 54 (j.val % 2))) ⟨j, hj⟩
theorem pt_46_0 {f : Nat → Option np_E} (h : pt_h f) : pt_w f 46 0 := by
  refine ⟨en_1335, np_all_sub h.1 (pw_pl 46 0) en_1335 rfl, rfl, rfl, fun j hj => ?_⟩
  exact (by decide +kernel : ∀ j : Fin 6, (va_up (va_up (va_up (va_up (va_up (va_up (fun _ => none) 0 (some 1423)) 1 (some 1426)) 2 (some 1429)) 3 (some 1432)) 4 (some 1435)) 5 (some 1438)) j.val = some (pw_pl 55 (j.val % 6))) ⟨j, hj⟩
theorem pt_47_0 {f : Nat → Option np_E} (h : pt_h f) : pt_w f 47 0 := by
  refine ⟨en_1340, np_all_sub h.1 (pw_pl 47 0) en_1340 rfl, rfl, rfl, fun j hj => ?_⟩
  exact (by decide +kernel : ∀ j : Fin 8, (va_up (va_up (va_up (va_up (va_up (va_up (va_up (va_up (fun _ => none) 0 (some 1441)) 1 (some 1448)) 2 (some 1455)) 3 (some 1462)) 4 (some 1469)) 5 (some 1476)) 6 (some 1483)) 7 (some 1490)) j.val = some (pw_pl 57 (j.val % 8))) ⟨j, hj⟩
theorem pt_51_0 {f : Nat → Option np_E} (h : pt_h f) : pt_w f 51 0 := ⟨en_1342, np_all_sub h.1 (pw_pl 51 0) en_1342 rfl, rfl⟩
theorem pt_51_1 {f : Nat → Option np_E} (h : pt_h f) : pt_w f 51 1 := ⟨en_1353, np_all_sub h.1 (pw_pl 51 1) en_1353 rfl, rfl⟩
theorem pt_51_2 {f : Nat → Option np_E} (h : pt_h f) : pt_w f 51 2 := ⟨en_1364, np_all_sub h.1 (pw_pl 51 2) en_1364 rfl, rfl⟩
theorem pt_51_3 {f : Nat → Option np_E} (h : pt_h f) : pt_w f 51 3 := ⟨en_1375, np_all_sub h.1 (pw_pl 51 3) en_1375 rfl, rfl⟩
theorem pt_51_4 {f : Nat → Option np_E} (h : pt_h f) : pt_w f 51 4 := ⟨en_1386, np_all_sub h.1 (pw_pl 51 4) en_1386 rfl, rfl⟩
theorem pt_51_5 {f : Nat → Option np_E} (h : pt_h f) : pt_w f 51 5 := ⟨en_1397, np_all_sub h.1 (pw_pl 51 5) en_1397 rfl, rfl⟩
theorem pt_51_6 {f : Nat → Option np_E} (h : pt_h f) : pt_w f 51 6 := ⟨en_2, np_all_sub h.1 (pw_pl 51 6) en_2 rfl, rfl⟩
theorem pt_51_7 {f : Nat → Option np_E} (h : pt_h f) : pt_w f 51 7 := ⟨_, (h.2.1 (pw_pl 51 7) (Nat.le_of_ble_eq_true rfl) (Nat.le_of_ble_eq_true rfl)).trans rfl, rfl⟩
theorem pt_52_0 {f : Nat → Option np_E} (h : pt_h f) : pt_w f 52 0 := ⟨en_1341, np_all_sub h.1 (pw_pl 52 0) en_1341 rfl, rfl⟩
theorem pt_52_1 {f : Nat → Option np_E} (h : pt_h f) : pt_w f 52 1 := ⟨en_1352, np_all_sub h.1 (pw_pl 52 1) en_1352 rfl, rfl⟩
theorem pt_52_2 {f : Nat → Option np_E} (h : pt_h f) : pt_w f 52 2 := ⟨en_1363, np_all_sub h.1 (pw_pl 52 2) en_1363 rfl, rfl⟩
theorem pt_52_3 {f : Nat → Option np_E} (h : pt_h f) : pt_w f 52 3 := ⟨en_1374, np_all_sub h.1 (pw_pl 52 3) en_1374 rfl, rfl⟩
theorem pt_52_4 {f : Nat → Option np_E} (h : pt_h f) : pt_w f 52 4 := ⟨en_1385, np_all_sub h.1 (pw_pl 52 4) en_1385 rfl, rfl⟩
theorem pt_52_5 {f : Nat → Option np_E} (h : pt_h f) : pt_w f 52 5 := ⟨en_1396, np_all_sub h.1 (pw_pl 52 5) en_1396 rfl, rfl⟩
theorem pt_53_0 {f : Nat → Option np_E} (h : pt_h f) : pt_w f 53 0 := ⟨en_1407, np_all_sub h.1 (pw_pl 53 0) en_1407 rfl, rfl⟩
theorem pt_53_1 {f : Nat → Option np_E} (h : pt_h f) : pt_w f 53 1 := ⟨en_1409, np_all_sub h.1 (pw_pl 53 1) en_1409 rfl, rfl⟩
theorem pt_53_2 {f : Nat → Option np_E} (h : pt_h f) : pt_w f 53 2 := ⟨_, (h.2.1 (pw_pl 53 2) (Nat.le_of_ble_eq_true rfl) (Nat.le_of_ble_eq_true rfl)).trans rfl, rfl⟩
theorem pt_54_0 {f : Nat → Option np_E} (h : pt_h f) : pt_w f 54 0 := ⟨en_1411, np_all_sub h.1 (pw_pl 54 0) en_1411 rfl, rfl⟩
theorem pt_54_1 {f : Nat → Option np_E} (h : pt_h f) : pt_w f 54 1 := ⟨en_1417, np_all_sub h.1 (pw_pl 54 1) en_1417 rfl, rfl⟩
theorem pt_55_0 {f : Nat → Option np_E} (h : pt_h f) : pt_w f 55 0 := ⟨en_1423, np_all_sub h.1 (pw_pl 55 0) en_1423 rfl, rfl⟩
theorem pt_55_1 {f : Nat → Option np_E} (h : pt_h f) : pt_w f 55 1 := ⟨en_1426, np_all_sub h.1 (pw_pl 55 1) en_1426 rfl, rfl⟩
theorem pt_55_2 {f : Nat → Option np_E} (h : pt_h f) : pt_w f 55 2 := ⟨en_1429, np_all_sub h.1 (pw_pl 55 2) en_1429 rfl, rfl⟩
theorem pt_55_3 {f : Nat → Option np_E} (h : pt_h f) : pt_w f 55 3 := ⟨en_1432, np_all_sub h.1 (pw_pl 55 3) en_1432 rfl, rfl⟩
theorem pt_55_4 {f : Nat → Option np_E} (h : pt_h f) : pt_w f 55 4 := ⟨en_1435, np_all_sub h.1 (pw_pl 55 4) en_1435 rfl, rfl⟩
theorem pt_55_5 {f : Nat → Option np_E} (h : pt_h f) : pt_w f 55 5 := ⟨en_1438, np_all_sub h.1 (pw_pl 55 5) en_1438 rfl, rfl⟩
theorem pt_56_0 {f : Nat → Option np_E} (h : pt_h f) : pt_w f 56 0 := ⟨en_1336, np_all_sub h.1 (pw_pl 56 0) en_1336 rfl, rfl⟩
theorem pt_57_0 {f : Nat → Option np_E} (h : pt_h f) : pt_w f 57 0 := ⟨en_1441, np_all_sub h.1 (pw_pl 57 0) en_1441 rfl, rfl⟩
theorem pt_57_1 {f : Nat → Option np_E} (h : pt_h f) : pt_w f 57 1 := ⟨en_1448, np_all_sub h.1 (pw_pl 57 1) en_1448 rfl, rfl⟩
theorem pt_57_2 {f : Nat → Option np_E} (h : pt_h f) : pt_w f 57 2 := ⟨en_1455, np_all_sub h.1 (pw_pl 57 2) en_1455 rfl, rfl⟩
theorem pt_57_3 {f : Nat → Option np_E} (h : pt_h f) : pt_w f 57 3 := ⟨en_1462, np_all_sub h.1 (pw_pl 57 3) en_1462 rfl, rfl⟩
theorem pt_57_4 {f : Nat → Option np_E} (h : pt_h f) : pt_w f 57 4 := ⟨en_1469, np_all_sub h.1 (pw_pl 57 4) en_1469 rfl, rfl⟩
theorem pt_57_5 {f : Nat → Option np_E} (h : pt_h f) : pt_w f 57 5 := ⟨en_1476, np_all_sub h.1 (pw_pl 57 5) en_1476 rfl, rfl⟩
theorem pt_57_6 {f : Nat → Option np_E} (h : pt_h f) : pt_w f 57 6 := ⟨en_1483, np_all_sub h.1 (pw_pl 57 6) en_1483 rfl, rfl⟩
theorem pt_57_7 {f : Nat → Option np_E} (h : pt_h f) : pt_w f 57 7 := ⟨en_1490, np_all_sub h.1 (pw_pl 57 7) en_1490 rfl, rfl⟩
theorem pt_58_0 {f : Nat → Option np_E} (h : pt_h f) : pt_w f 58 0 := ⟨en_11, np_all_sub h.1 (pw_pl 58 0) en_11 rfl, rfl⟩
theorem pt_59_0 {f : Nat → Option np_E} (h : pt_h f) : pt_w f 59 0 := ⟨en_17, np_all_sub h.1 (pw_pl 59 0) en_17 rfl, rfl⟩
theorem pt_60_0 {f : Nat → Option np_E} (h : pt_h f) : pt_w f 60 0 := ⟨en_1253, np_all_sub h.1 (pw_pl 60 0) en_1253 rfl, rfl⟩
theorem pt_61_0 {f : Nat → Option np_E} (h : pt_h f) : pt_w f 61 0 := ⟨en_1, np_all_sub h.1 (pw_pl 61 0) en_1 rfl, rfl⟩
theorem pt_gX4_50 {j : Nat} (hj : j < 407) : g_X4_init (15 + 3 * j) = some (np_tro (15 + 3 * j + 1)) := by
  unfold g_X4_init
  rw [show Nat.blt (15 + 3 * j) 15 = false from by
    cases hb : Nat.blt (15 + 3 * j) 15 with
    | false => rfl
    | true => exact absurd (pw_blt hb) (by omega), show Nat.blt (15 + 3 * j) (1235 + 1) = true from Nat.ble_eq_true_of_le (by omega)]
  dsimp only
  rw [show (15 + 3 * j - 15) % 3 = 0 by omega]
  rfl
theorem pt_pX4_50 : ∀ j : Fin 407, pw_pl 50 (j.val) = 32 + 3 * j.val := by decide +kernel
theorem pt_gX5_50 {j : Nat} (hj : j < 26) : g_X5_init (4 + 3 * j) = some (np_tro (4 + 3 * j + 1)) := by
  unfold g_X5_init
  rw [show Nat.blt (4 + 3 * j) 4 = false from by
    cases hb : Nat.blt (4 + 3 * j) 4 with
    | false => rfl
    | true => exact absurd (pw_blt hb) (by omega), show Nat.blt (4 + 3 * j) (81 + 1) = true from Nat.ble_eq_true_of_le (by omega)]
  dsimp only
  rw [show (4 + 3 * j - 4) % 3 = 0 by omega]
  rfl
theorem pt_pX5_50 : ∀ j : Fin 26, pw_pl 50 (409 + j.val) = 1257 + 3 * j.val := by decide +kernel
theorem pt_gX4_0 {j : Nat} (hj : j < 407) : g_X4_init (16 + 3 * j) = some (np_e24) := by
  unfold g_X4_init
  rw [show Nat.blt (16 + 3 * j) 15 = false from by
    cases hb : Nat.blt (16 + 3 * j) 15 with
    | false => rfl
    | true => exact absurd (pw_blt hb) (by omega), show Nat.blt (16 + 3 * j) (1235 + 1) = true from Nat.ble_eq_true_of_le (by omega)]
  dsimp only
  rw [show (16 + 3 * j - 15) % 3 = 1 by omega]
  rfl
theorem pt_pX4_0 : ∀ j : Fin 407, pw_pl 0 (j.val) = 33 + 3 * j.val := by decide +kernel
theorem pt_gX5_0 {j : Nat} (hj : j < 26) : g_X5_init (5 + 3 * j) = some (np_e24) := by
  unfold g_X5_init
  rw [show Nat.blt (5 + 3 * j) 4 = false from by
    cases hb : Nat.blt (5 + 3 * j) 4 with
    | false => rfl
    | true => exact absurd (pw_blt hb) (by omega), show Nat.blt (5 + 3 * j) (81 + 1) = true from Nat.ble_eq_true_of_le (by omega)]
  dsimp only
  rw [show (5 + 3 * j - 4) % 3 = 1 by omega]
  rfl
theorem pt_pX5_0 : ∀ j : Fin 26, pw_pl 0 (409 + j.val) = 1258 + 3 * j.val := by decide +kernel
theorem pt_gX4_1 {j : Nat} (hj : j < 407) : g_X4_init (17 + 3 * j) = some (np_e8) := by
  unfold g_X4_init
  rw [show Nat.blt (17 + 3 * j) 15 = false from by
    cases hb : Nat.blt (17 + 3 * j) 15 with
    | false => rfl
    | true => exact absurd (pw_blt hb) (by omega), show Nat.blt (17 + 3 * j) (1235 + 1) = true from Nat.ble_eq_true_of_le (by omega)]
  dsimp only
  rw [show (17 + 3 * j - 15) % 3 = 2 by omega]
  rfl
theorem pt_pX4_1 : ∀ j : Fin 407, pw_pl 1 (j.val) = 34 + 3 * j.val := by decide +kernel
theorem pt_gX5_1 {j : Nat} (hj : j < 26) : g_X5_init (6 + 3 * j) = some (np_e8) := by
  unfold g_X5_init
  rw [show Nat.blt (6 + 3 * j) 4 = false from by
    cases hb : Nat.blt (6 + 3 * j) 4 with
    | false => rfl
    | true => exact absurd (pw_blt hb) (by omega), show Nat.blt (6 + 3 * j) (81 + 1) = true from Nat.ble_eq_true_of_le (by omega)]
  dsimp only
  rw [show (6 + 3 * j - 4) % 3 = 2 by omega]
  rfl
theorem pt_pX5_1 : ∀ j : Fin 26, pw_pl 1 (409 + j.val) = 1259 + 3 * j.val := by decide +kernel
theorem pt_tX4_50 {f : Nat → Option np_E} (h : pt_h f) {j : Nat} (hj : j < 407) : pt_w f 50 (j) := by
  have e1 : pw_pl 50 (j) = 32 + 3 * j := pt_pX4_50 ⟨j, hj⟩
  have e2 := h.2.1 (32 + 3 * j) (by omega) (by omega)
  rw [show 32 + 3 * j - 18 + 1 = 15 + 3 * j by omega, pt_gX4_50 hj] at e2
  unfold pt_w
  rw [e1]
  refine ⟨_, e2, ?_⟩
  have e3 : pw_pl 0 (j) = 33 + 3 * j := pt_pX4_0 ⟨j, hj⟩
  have e4 : pw_pl 1 (j) = 34 + 3 * j := pt_pX4_1 ⟨j, hj⟩
  show (.inr (8, [.ref (np_rh 17 18 (15 + 3 * j + 1)), .ref (np_rh 17 18 (15 + 3 * j + 1 + 1)), .int 0, .int 0, .int 0, .int 0, .int 0, .int 0, .int 0]) : np_E) = .inr (8, [.ref (pw_pl 0 (j)), .ref (pw_pl 1 (j)), .int 0, .int 0, .int 0, .int 0, .int 0, .int 0, .int 0])
  rw [e3, e4]
  show (.inr (8, [.ref (18 + (15 + 3 * j)), .ref (18 + (15 + 3 * j + 1)), .int 0, .int 0, .int 0, .int 0, .int 0, .int 0, .int 0]) : np_E) = _
  rw [show 18 + (15 + 3 * j) = 33 + 3 * j by omega, show 18 + (15 + 3 * j + 1) = 34 + 3 * j by omega]
theorem pt_tX4_0 {f : Nat → Option np_E} (h : pt_h f) {j : Nat} (hj : j < 407) : pt_w f 0 (j) := by
  have e1 : pw_pl 0 (j) = 33 + 3 * j := pt_pX4_0 ⟨j, hj⟩
  have e2 := h.2.1 (33 + 3 * j) (by omega) (by omega)
  rw [show 33 + 3 * j - 18 + 1 = 16 + 3 * j by omega, pt_gX4_0 hj] at e2
  unfold pt_w
  rw [e1]
  refine ⟨_, e2, ?_⟩
  exact ⟨rfl, rfl, fun _ _ => rfl⟩
theorem pt_tX4_1 {f : Nat → Option np_E} (h : pt_h f) {j : Nat} (hj : j < 407) : pt_w f 1 (j) := by
  have e1 : pw_pl 1 (j) = 34 + 3 * j := pt_pX4_1 ⟨j, hj⟩
  have e2 := h.2.1 (34 + 3 * j) (by omega) (by omega)
  rw [show 34 + 3 * j - 18 + 1 = 17 + 3 * j by omega, pt_gX4_1 hj] at e2
  unfold pt_w
  rw [e1]
  refine ⟨_, e2, ?_⟩
  exact ⟨rfl, rfl, fun _ _ => rfl⟩
theorem pt_tX5_50 {f : Nat → Option np_E} (h : pt_h f) {j : Nat} (hj : j < 26) : pt_w f 50 (409 + j) := by
  have e1 : pw_pl 50 (409 + j) = 1257 + 3 * j := pt_pX5_50 ⟨j, hj⟩
  have e2 := h.2.2 (1257 + 3 * j) (by omega) (by omega)
  rw [show 1257 + 3 * j - 1254 + 1 = 4 + 3 * j by omega, pt_gX5_50 hj] at e2
  unfold pt_w
  rw [e1]
  refine ⟨_, e2, ?_⟩
  have e3 : pw_pl 0 (409 + j) = 1258 + 3 * j := pt_pX5_0 ⟨j, hj⟩
  have e4 : pw_pl 1 (409 + j) = 1259 + 3 * j := pt_pX5_1 ⟨j, hj⟩
  show (.inr (8, [.ref (np_rh 1253 1254 (4 + 3 * j + 1)), .ref (np_rh 1253 1254 (4 + 3 * j + 1 + 1)), .int 0, .int 0, .int 0, .int 0, .int 0, .int 0, .int 0]) : np_E) = .inr (8, [.ref (pw_pl 0 (409 + j)), .ref (pw_pl 1 (409 + j)), .int 0, .int 0, .int 0, .int 0, .int 0, .int 0, .int 0])
  rw [e3, e4]
  show (.inr (8, [.ref (1254 + (4 + 3 * j)), .ref (1254 + (4 + 3 * j + 1)), .int 0, .int 0, .int 0, .int 0, .int 0, .int 0, .int 0]) : np_E) = _
  rw [show 1254 + (4 + 3 * j) = 1258 + 3 * j by omega, show 1254 + (4 + 3 * j + 1) = 1259 + 3 * j by omega]
theorem pt_tX5_0 {f : Nat → Option np_E} (h : pt_h f) {j : Nat} (hj : j < 26) : pt_w f 0 (409 + j) := by
  have e1 : pw_pl 0 (409 + j) = 1258 + 3 * j := pt_pX5_0 ⟨j, hj⟩
  have e2 := h.2.2 (1258 + 3 * j) (by omega) (by omega)
  rw [show 1258 + 3 * j - 1254 + 1 = 5 + 3 * j by omega, pt_gX5_0 hj] at e2
  unfold pt_w
  rw [e1]
  refine ⟨_, e2, ?_⟩
  exact ⟨rfl, rfl, fun _ _ => rfl⟩
theorem pt_tX5_1 {f : Nat → Option np_E} (h : pt_h f) {j : Nat} (hj : j < 26) : pt_w f 1 (409 + j) := by
  have e1 : pw_pl 1 (409 + j) = 1259 + 3 * j := pt_pX5_1 ⟨j, hj⟩
  have e2 := h.2.2 (1259 + 3 * j) (by omega) (by omega)
  rw [show 1259 + 3 * j - 1254 + 1 = 6 + 3 * j by omega, pt_gX5_1 hj] at e2
  unfold pt_w
  rw [e1]
  refine ⟨_, e2, ?_⟩
  exact ⟨rfl, rfl, fun _ _ => rfl⟩
theorem pt_50_407 {f : Nat → Option np_E} (h : pt_h f) : pt_w f 50 407 := ⟨_, (h.2.1 (pw_pl 50 407) (Nat.le_of_ble_eq_true rfl) (Nat.le_of_ble_eq_true rfl)).trans rfl, rfl⟩
theorem pt_50_408 {f : Nat → Option np_E} (h : pt_h f) : pt_w f 50 408 := ⟨en_14, np_all_sub h.1 (pw_pl 50 408) en_14 rfl, rfl⟩
theorem ptA_50 {f : Nat → Option np_E} (h : pt_h f) {i : Nat} (hi : i < 435) : pt_w f 50 i := by
  by_cases h1 : i < 407
  · exact pt_tX4_50 h h1
  · by_cases h2 : i = 407
    · rw [h2]
      exact pt_50_407 h
    · by_cases h3 : i = 408
      · rw [h3]
        exact pt_50_408 h
      · have h4 := pt_tX5_50 h (j := i - 409) (by omega)
        rw [show 409 + (i - 409) = i by omega] at h4
        exact h4
theorem pt_0_407 {f : Nat → Option np_E} (h : pt_h f) : pt_w f 0 407 := ⟨_, (h.2.1 (pw_pl 0 407) (Nat.le_of_ble_eq_true rfl) (Nat.le_of_ble_eq_true rfl)).trans rfl, ⟨rfl, rfl, fun _ _ => rfl⟩⟩
theorem pt_0_408 {f : Nat → Option np_E} (h : pt_h f) : pt_w f 0 408 := ⟨en_15, np_all_sub h.1 (pw_pl 0 408) en_15 rfl, ⟨rfl, rfl, fun _ _ => rfl⟩⟩
theorem ptA_0 {f : Nat → Option np_E} (h : pt_h f) {i : Nat} (hi : i < 435) : pt_w f 0 i := by
  by_cases h1 : i < 407
  · exact pt_tX4_0 h h1
  · by_cases h2 : i = 407
    · rw [h2]
      exact pt_0_407 h
    · by_cases h3 : i = 408
      · rw [h3]
        exact pt_0_408 h
      · have h4 := pt_tX5_0 h (j := i - 409) (by omega)
        rw [show 409 + (i - 409) = i by omega] at h4
        exact h4
theorem pt_1_407 {f : Nat → Option np_E} (h : pt_h f) : pt_w f 1 407 := ⟨_, (h.2.1 (pw_pl 1 407) (Nat.le_of_ble_eq_true rfl) (Nat.le_of_ble_eq_true rfl)).trans rfl, ⟨rfl, rfl, fun _ _ => rfl⟩⟩
theorem pt_1_408 {f : Nat → Option np_E} (h : pt_h f) : pt_w f 1 408 := ⟨en_16, np_all_sub h.1 (pw_pl 1 408) en_16 rfl, ⟨rfl, rfl, fun _ _ => rfl⟩⟩
theorem ptA_1 {f : Nat → Option np_E} (h : pt_h f) {i : Nat} (hi : i < 435) : pt_w f 1 i := by
  by_cases h1 : i < 407
  · exact pt_tX4_1 h h1
  · by_cases h2 : i = 407
    · rw [h2]
      exact pt_1_407 h
    · by_cases h3 : i = 408
      · rw [h3]
        exact pt_1_408 h
      · have h4 := pt_tX5_1 h (j := i - 409) (by omega)
        rw [show 409 + (i - 409) = i by omega] at h4
        exact h4
