/-! The world of the loop, typed, whole. -/
theorem ptA_2 {f : Nat → Option np_E} (h : pt_h f) {i : Nat} (hi : i < 8) : pt_w f 2 i := by
  rcases (by omega : i = 0 ∨ i = 1 ∨ i = 2 ∨ i = 3 ∨ i = 4 ∨ i = 5 ∨ i = 6 ∨ i = 7) with rfl | rfl | rfl | rfl | rfl | rfl | rfl | rfl
  · exact pt_2_0 h
  · exact pt_2_1 h
  · exact pt_2_2 h
  · exact pt_2_3 h
  · exact pt_2_4 h
  · exact pt_2_5 h
  · exact pt_2_6 h
  · exact pt_2_7 h
theorem ptA_3 {f : Nat → Option np_E} (h : pt_h f) {i : Nat} (hi : i < 8) : pt_w f 3 i := by
  rcases (by omega : i = 0 ∨ i = 1 ∨ i = 2 ∨ i = 3 ∨ i = 4 ∨ i = 5 ∨ i = 6 ∨ i = 7) with rfl | rfl | rfl | rfl | rfl | rfl | rfl | rfl
  · exact pt_3_0 h
  · exact pt_3_1 h
  · exact pt_3_2 h
  · exact pt_3_3 h
  · exact pt_3_4 h
  · exact pt_3_5 h
  · exact pt_3_6 h
  · exact pt_3_7 h
theorem ptA_4 {f : Nat → Option np_E} (h : pt_h f) {i : Nat} (hi : i < 8) : pt_w f 4 i := by
  rcases (by omega : i = 0 ∨ i = 1 ∨ i = 2 ∨ i = 3 ∨ i = 4 ∨ i = 5 ∨ i = 6 ∨ i = 7) with rfl | rfl | rfl | rfl | rfl | rfl | rfl | rfl
  · exact pt_4_0 h
  · exact pt_4_1 h
  · exact pt_4_2 h
  · exact pt_4_3 h
  · exact pt_4_4 h
  · exact pt_4_5 h
  · exact pt_4_6 h
  · exact pt_4_7 h
theorem ptA_5 {f : Nat → Option np_E} (h : pt_h f) {i : Nat} (hi : i < 8) : pt_w f 5 i := by
  rcases (by omega : i = 0 ∨ i = 1 ∨ i = 2 ∨ i = 3 ∨ i = 4 ∨ i = 5 ∨ i = 6 ∨ i = 7) with rfl | rfl | rfl | rfl | rfl | rfl | rfl | rfl
  · exact pt_5_0 h
  · exact pt_5_1 h
  · exact pt_5_2 h
  · exact pt_5_3 h
  · exact pt_5_4 h
  · exact pt_5_5 h
  · exact pt_5_6 h
  · exact pt_5_7 h
theorem ptA_6 {f : Nat → Option np_E} (h : pt_h f) {i : Nat} (hi : i < 6) : pt_w f 6 i := by
  rcases (by omega : i = 0 ∨ i = 1 ∨ i = 2 ∨ i = 3 ∨ i = 4 ∨ i = 5) with rfl | rfl | rfl | rfl | rfl | rfl
  · exact pt_6_0 h
  · exact pt_6_1 h
  · exact pt_6_2 h
  · exact pt_6_3 h
  · exact pt_6_4 h
  · exact pt_6_5 h
theorem ptA_7 {f : Nat → Option np_E} (h : pt_h f) {i : Nat} (hi : i < 6) : pt_w f 7 i := by
  rcases (by omega : i = 0 ∨ i = 1 ∨ i = 2 ∨ i = 3 ∨ i = 4 ∨ i = 5) with rfl | rfl | rfl | rfl | rfl | rfl
  · exact pt_7_0 h
  · exact pt_7_1 h
  · exact pt_7_2 h
  · exact pt_7_3 h
  · exact pt_7_4 h
  · exact pt_7_5 h
theorem ptA_8 {f : Nat → Option np_E} (h : pt_h f) {i : Nat} (hi : i < 6) : pt_w f 8 i := by
  rcases (by omega : i = 0 ∨ i = 1 ∨ i = 2 ∨ i = 3 ∨ i = 4 ∨ i = 5) with rfl | rfl | rfl | rfl | rfl | rfl
  · exact pt_8_0 h
  · exact pt_8_1 h
  · exact pt_8_2 h
  · exact pt_8_3 h
  · exact pt_8_4 h
  · exact pt_8_5 h
theorem ptA_9 {f : Nat → Option np_E} (h : pt_h f) {i : Nat} (hi : i < 6) : pt_w f 9 i := by
  rcases (by omega : i = 0 ∨ i = 1 ∨ i = 2 ∨ i = 3 ∨ i = 4 ∨ i = 5) with rfl | rfl | rfl | rfl | rfl | rfl
  · exact pt_9_0 h
  · exact pt_9_1 h
  · exact pt_9_2 h
  · exact pt_9_3 h
  · exact pt_9_4 h
  · exact pt_9_5 h
theorem ptA_10 {f : Nat → Option np_E} (h : pt_h f) {i : Nat} (hi : i < 6) : pt_w f 10 i := by
  rcases (by omega : i = 0 ∨ i = 1 ∨ i = 2 ∨ i = 3 ∨ i = 4 ∨ i = 5) with rfl | rfl | rfl | rfl | rfl | rfl
  · exact pt_10_0 h
  · exact pt_10_1 h
  · exact pt_10_2 h
  · exact pt_10_3 h
  · exact pt_10_4 h
  · exact pt_10_5 h
theorem ptA_11 {f : Nat → Option np_E} (h : pt_h f) {i : Nat} (hi : i < 3) : pt_w f 11 i := by
  rcases (by omega : i = 0 ∨ i = 1 ∨ i = 2) with rfl | rfl | rfl
  · exact pt_11_0 h
  · exact pt_11_1 h
  · exact pt_11_2 h
theorem ptA_12 {f : Nat → Option np_E} (h : pt_h f) {i : Nat} (hi : i < 2) : pt_w f 12 i := by
  rcases (by omega : i = 0 ∨ i = 1) with rfl | rfl
  · exact pt_12_0 h
  · exact pt_12_1 h
theorem ptA_13 {f : Nat → Option np_E} (h : pt_h f) {i : Nat} (hi : i < 2) : pt_w f 13 i := by
  rcases (by omega : i = 0 ∨ i = 1) with rfl | rfl
  · exact pt_13_0 h
  · exact pt_13_1 h
theorem ptA_14 {f : Nat → Option np_E} (h : pt_h f) {i : Nat} (hi : i < 2) : pt_w f 14 i := by
  rcases (by omega : i = 0 ∨ i = 1) with rfl | rfl
  · exact pt_14_0 h
  · exact pt_14_1 h
theorem ptA_15 {f : Nat → Option np_E} (h : pt_h f) {i : Nat} (hi : i < 2) : pt_w f 15 i := by
  rcases (by omega : i = 0 ∨ i = 1) with rfl | rfl
  · exact pt_15_0 h
  · exact pt_15_1 h
theorem ptA_16 {f : Nat → Option np_E} (h : pt_h f) {i : Nat} (hi : i < 2) : pt_w f 16 i := by
  rcases (by omega : i = 0 ∨ i = 1) with rfl | rfl
  · exact pt_16_0 h
  · exact pt_16_1 h
theorem ptA_17 {f : Nat → Option np_E} (h : pt_h f) {i : Nat} (hi : i < 6) : pt_w f 17 i := by
  rcases (by omega : i = 0 ∨ i = 1 ∨ i = 2 ∨ i = 3 ∨ i = 4 ∨ i = 5) with rfl | rfl | rfl | rfl | rfl | rfl
  · exact pt_17_0 h
  · exact pt_17_1 h
  · exact pt_17_2 h
  · exact pt_17_3 h
  · exact pt_17_4 h
  · exact pt_17_5 h
theorem ptA_18 {f : Nat → Option np_E} (h : pt_h f) {i : Nat} (hi : i < 6) : pt_w f 18 i := by
  rcases (by omega : i = 0 ∨ i = 1 ∨ i = 2 ∨ i = 3 ∨ i = 4 ∨ i = 5) with rfl | rfl | rfl | rfl | rfl | rfl
  · exact pt_18_0 h
  · exact pt_18_1 h
  · exact pt_18_2 h
  · exact pt_18_3 h
  · exact pt_18_4 h
  · exact pt_18_5 h
theorem ptA_19 {f : Nat → Option np_E} (h : pt_h f) {i : Nat} (hi : i < 1) : pt_w f 19 i := by
  rw [show i = 0 by omega]
  exact pt_19_0 h
theorem ptA_20 {f : Nat → Option np_E} (h : pt_h f) {i : Nat} (hi : i < 1) : pt_w f 20 i := by
  rw [show i = 0 by omega]
  exact pt_20_0 h
theorem ptA_21 {f : Nat → Option np_E} (h : pt_h f) {i : Nat} (hi : i < 1) : pt_w f 21 i := by
  rw [show i = 0 by omega]
  exact pt_21_0 h
theorem ptA_22 {f : Nat → Option np_E} (h : pt_h f) {i : Nat} (hi : i < 8) : pt_w f 22 i := by
  rcases (by omega : i = 0 ∨ i = 1 ∨ i = 2 ∨ i = 3 ∨ i = 4 ∨ i = 5 ∨ i = 6 ∨ i = 7) with rfl | rfl | rfl | rfl | rfl | rfl | rfl | rfl
  · exact pt_22_0 h
  · exact pt_22_1 h
  · exact pt_22_2 h
  · exact pt_22_3 h
  · exact pt_22_4 h
  · exact pt_22_5 h
  · exact pt_22_6 h
  · exact pt_22_7 h
theorem ptA_23 {f : Nat → Option np_E} (h : pt_h f) {i : Nat} (hi : i < 8) : pt_w f 23 i := by
  rcases (by omega : i = 0 ∨ i = 1 ∨ i = 2 ∨ i = 3 ∨ i = 4 ∨ i = 5 ∨ i = 6 ∨ i = 7) with rfl | rfl | rfl | rfl | rfl | rfl | rfl | rfl
  · exact pt_23_0 h
  · exact pt_23_1 h
  · exact pt_23_2 h
  · exact pt_23_3 h
  · exact pt_23_4 h
  · exact pt_23_5 h
  · exact pt_23_6 h
  · exact pt_23_7 h
theorem ptA_24 {f : Nat → Option np_E} (h : pt_h f) {i : Nat} (hi : i < 8) : pt_w f 24 i := by
  rcases (by omega : i = 0 ∨ i = 1 ∨ i = 2 ∨ i = 3 ∨ i = 4 ∨ i = 5 ∨ i = 6 ∨ i = 7) with rfl | rfl | rfl | rfl | rfl | rfl | rfl | rfl
  · exact pt_24_0 h
  · exact pt_24_1 h
  · exact pt_24_2 h
  · exact pt_24_3 h
  · exact pt_24_4 h
  · exact pt_24_5 h
  · exact pt_24_6 h
  · exact pt_24_7 h
theorem ptA_25 {f : Nat → Option np_E} (h : pt_h f) {i : Nat} (hi : i < 8) : pt_w f 25 i := by
  rcases (by omega : i = 0 ∨ i = 1 ∨ i = 2 ∨ i = 3 ∨ i = 4 ∨ i = 5 ∨ i = 6 ∨ i = 7) with rfl | rfl | rfl | rfl | rfl | rfl | rfl | rfl
  · exact pt_25_0 h
  · exact pt_25_1 h
  · exact pt_25_2 h
  · exact pt_25_3 h
  · exact pt_25_4 h
  · exact pt_25_5 h
  · exact pt_25_6 h
  · exact pt_25_7 h
theorem ptA_26 {f : Nat → Option np_E} (h : pt_h f) {i : Nat} (hi : i < 8) : pt_w f 26 i := by
  rcases (by omega : i = 0 ∨ i = 1 ∨ i = 2 ∨ i = 3 ∨ i = 4 ∨ i = 5 ∨ i = 6 ∨ i = 7) with rfl | rfl | rfl | rfl | rfl | rfl | rfl | rfl
  · exact pt_26_0 h
  · exact pt_26_1 h
  · exact pt_26_2 h
  · exact pt_26_3 h
  · exact pt_26_4 h
  · exact pt_26_5 h
  · exact pt_26_6 h
  · exact pt_26_7 h
theorem ptA_27 {f : Nat → Option np_E} (h : pt_h f) {i : Nat} (hi : i < 8) : pt_w f 27 i := by
  rcases (by omega : i = 0 ∨ i = 1 ∨ i = 2 ∨ i = 3 ∨ i = 4 ∨ i = 5 ∨ i = 6 ∨ i = 7) with rfl | rfl | rfl | rfl | rfl | rfl | rfl | rfl
  · exact pt_27_0 h
  · exact pt_27_1 h
  · exact pt_27_2 h
  · exact pt_27_3 h
  · exact pt_27_4 h
  · exact pt_27_5 h
  · exact pt_27_6 h
  · exact pt_27_7 h
theorem ptA_28 {f : Nat → Option np_E} (h : pt_h f) {i : Nat} (hi : i < 1) : pt_w f 28 i := by
  rw [show i = 0 by omega]
  exact pt_28_0 h
theorem ptA_29 {f : Nat → Option np_E} (h : pt_h f) {i : Nat} (hi : i < 1) : pt_w f 29 i := by
  rw [show i = 0 by omega]
  exact pt_29_0 h
theorem ptA_30 {f : Nat → Option np_E} (h : pt_h f) {i : Nat} (hi : i < 1) : pt_w f 30 i := by
  rw [show i = 0 by omega]
  exact pt_30_0 h
theorem ptA_31 {f : Nat → Option np_E} (h : pt_h f) {i : Nat} (hi : i < 1) : pt_w f 31 i := by
  rw [show i = 0 by omega]
  exact pt_31_0 h
theorem ptA_32 {f : Nat → Option np_E} (h : pt_h f) {i : Nat} (hi : i < 1) : pt_w f 32 i := by
  rw [show i = 0 by omega]
  exact pt_32_0 h
theorem ptA_33 {f : Nat → Option np_E} (h : pt_h f) {i : Nat} (hi : i < 1) : pt_w f 33 i := by
  rw [show i = 0 by omega]
  exact pt_33_0 h
theorem ptA_34 {f : Nat → Option np_E} (h : pt_h f) {i : Nat} (hi : i < 1) : pt_w f 34 i := by
  rw [show i = 0 by omega]
  exact pt_34_0 h
theorem ptA_35 {f : Nat → Option np_E} (h : pt_h f) {i : Nat} (hi : i < 1) : pt_w f 35 i := by
  rw [show i = 0 by omega]
  exact pt_35_0 h
theorem ptA_36 {f : Nat → Option np_E} (h : pt_h f) {i : Nat} (hi : i < 1) : pt_w f 36 i := by
  rw [show i = 0 by omega]
  exact pt_36_0 h
theorem ptA_37 {f : Nat → Option np_E} (h : pt_h f) {i : Nat} (hi : i < 1) : pt_w f 37 i := by
  rw [show i = 0 by omega]
  exact pt_37_0 h
theorem ptA_38 {f : Nat → Option np_E} (h : pt_h f) {i : Nat} (hi : i < 1) : pt_w f 38 i := by
  rw [show i = 0 by omega]
  exact pt_38_0 h
theorem ptA_39 {f : Nat → Option np_E} (h : pt_h f) {i : Nat} (hi : i < 1) : pt_w f 39 i := by
  rw [show i = 0 by omega]
  exact pt_39_0 h
theorem ptA_41 {f : Nat → Option np_E} (h : pt_h f) {i : Nat} (hi : i < 1) : pt_w f 41 i := by
  rw [show i = 0 by omega]
  exact pt_41_0 h
theorem ptA_42 {f : Nat → Option np_E} (h : pt_h f) {i : Nat} (hi : i < 1) : pt_w f 42 i := by
  rw [show i = 0 by omega]
  exact pt_42_0 h
theorem ptA_43 {f : Nat → Option np_E} (h : pt_h f) {i : Nat} (hi : i < 1) : pt_w f 43 i := by
  rw [show i = 0 by omega]
  exact pt_43_0 h
theorem ptA_44 {f : Nat → Option np_E} (h : pt_h f) {i : Nat} (hi : i < 1) : pt_w f 44 i := by
  rw [show i = 0 by omega]
  exact pt_44_0 h
theorem ptA_45 {f : Nat → Option np_E} (h : pt_h f) {i : Nat} (hi : i < 1) : pt_w f 45 i := by
  rw [show i = 0 by omega]
  exact pt_45_0 h
theorem ptA_46 {f : Nat → Option np_E} (h : pt_h f) {i : Nat} (hi : i < 1) : pt_w f 46 i := by
  rw [show i = 0 by omega]
  exact pt_46_0 h
theorem ptA_47 {f : Nat → Option np_E} (h : pt_h f) {i : Nat} (hi : i < 1) : pt_w f 47 i := by
  rw [show i = 0 by omega]
  exact pt_47_0 h
theorem ptA_51 {f : Nat → Option np_E} (h : pt_h f) {i : Nat} (hi : i < 8) : pt_w f 51 i := by
  rcases (by omega : i = 0 ∨ i = 1 ∨ i = 2 ∨ i = 3 ∨ i = 4 ∨ i = 5 ∨ i = 6 ∨ i = 7) with rfl | rfl | rfl | rfl | rfl | rfl | rfl | rfl
  · exact pt_51_0 h
  · exact pt_51_1 h
  · exact pt_51_2 h
  · exact pt_51_3 h
  · exact pt_51_4 h
  · exact pt_51_5 h
  · exact pt_51_6 h
  · exact pt_51_7 h
theorem ptA_52 {f : Nat → Option np_E} (h : pt_h f) {i : Nat} (hi : i < 6) : pt_w f 52 i := by
  rcases (by omega : i = 0 ∨ i = 1 ∨ i = 2 ∨ i = 3 ∨ i = 4 ∨ i = 5) with rfl | rfl | rfl | rfl | rfl | rfl
  · exact pt_52_0 h
  · exact pt_52_1 h
  · exact pt_52_2 h
  · exact pt_52_3 h
  · exact pt_52_4 h
  · exact pt_52_5 h
theorem ptA_53 {f : Nat → Option np_E} (h : pt_h f) {i : Nat} (hi : i < 3) : pt_w f 53 i := by
  rcases (by omega : i = 0 ∨ i = 1 ∨ i = 2) with rfl | rfl | rfl
  · exact pt_53_0 h
  · exact pt_53_1 h
  · exact pt_53_2 h
theorem ptA_54 {f : Nat → Option np_E} (h : pt_h f) {i : Nat} (hi : i < 2) : pt_w f 54 i := by
  rcases (by omega : i = 0 ∨ i = 1) with rfl | rfl
  · exact pt_54_0 h
  · exact pt_54_1 h
theorem ptA_55 {f : Nat → Option np_E} (h : pt_h f) {i : Nat} (hi : i < 6) : pt_w f 55 i := by
  rcases (by omega : i = 0 ∨ i = 1 ∨ i = 2 ∨ i = 3 ∨ i = 4 ∨ i = 5) with rfl | rfl | rfl | rfl | rfl | rfl
  · exact pt_55_0 h
  · exact pt_55_1 h
  · exact pt_55_2 h
  · exact pt_55_3 h
  · exact pt_55_4 h
  · exact pt_55_5 h
theorem ptA_56 {f : Nat → Option np_E} (h : pt_h f) {i : Nat} (hi : i < 1) : pt_w f 56 i := by
  rw [show i = 0 by omega]
  exact pt_56_0 h
theorem ptA_57 {f : Nat → Option np_E} (h : pt_h f) {i : Nat} (hi : i < 8) : pt_w f 57 i := by
  rcases (by omega : i = 0 ∨ i = 1 ∨ i = 2 ∨ i = 3 ∨ i = 4 ∨ i = 5 ∨ i = 6 ∨ i = 7) with rfl | rfl | rfl | rfl | rfl | rfl | rfl | rfl
  · exact pt_57_0 h
  · exact pt_57_1 h
  · exact pt_57_2 h
  · exact pt_57_3 h
  · exact pt_57_4 h
  · exact pt_57_5 h
  · exact pt_57_6 h
  · exact pt_57_7 h
theorem ptA_58 {f : Nat → Option np_E} (h : pt_h f) {i : Nat} (hi : i < 1) : pt_w f 58 i := by
  rw [show i = 0 by omega]
  exact pt_58_0 h
theorem ptA_59 {f : Nat → Option np_E} (h : pt_h f) {i : Nat} (hi : i < 1) : pt_w f 59 i := by
  rw [show i = 0 by omega]
  exact pt_59_0 h
theorem ptA_60 {f : Nat → Option np_E} (h : pt_h f) {i : Nat} (hi : i < 1) : pt_w f 60 i := by
  rw [show i = 0 by omega]
  exact pt_60_0 h
theorem ptA_61 {f : Nat → Option np_E} (h : pt_h f) {i : Nat} (hi : i < 1) : pt_w f 61 i := by
  rw [show i = 0 by omega]
  exact pt_61_0 h
theorem pt_all {f : Nat → Option np_E} (h : pt_h f) {a i : Nat} (ha : a < 62) (hi : i < pw_cnts.getD a 0) : pt_w f a i := by
  rcases (by omega : a = 0 ∨ a = 1 ∨ a = 2 ∨ a = 3 ∨ a = 4 ∨ a = 5 ∨ a = 6 ∨ a = 7 ∨ a = 8 ∨ a = 9 ∨ a = 10 ∨ a = 11 ∨ a = 12 ∨ a = 13 ∨ a = 14 ∨ a = 15 ∨ a = 16 ∨ a = 17 ∨ a = 18 ∨ a = 19 ∨ a = 20 ∨ a = 21 ∨ a = 22 ∨ a = 23 ∨ a = 24 ∨ a = 25 ∨ a = 26 ∨ a = 27 ∨ a = 28 ∨ a = 29 ∨ a = 30 ∨ a = 31 ∨ a = 32 ∨ a = 33 ∨ a = 34 ∨ a = 35 ∨ a = 36 ∨ a = 37 ∨ a = 38 ∨ a = 39 ∨ a = 40 ∨ a = 41 ∨ a = 42 ∨ a = 43 ∨ a = 44 ∨ a = 45 ∨ a = 46 ∨ a = 47 ∨ a = 48 ∨ a = 49 ∨ a = 50 ∨ a = 51 ∨ a = 52 ∨ a = 53 ∨ a = 54 ∨ a = 55 ∨ a = 56 ∨ a = 57 ∨ a = 58 ∨ a = 59 ∨ a = 60 ∨ a = 61) with rfl | rfl | rfl | rfl | rfl | rfl | rfl | rfl | rfl | rfl | rfl | rfl | rfl | rfl | rfl | rfl | rfl | rfl | rfl | rfl | rfl | rfl | rfl | rfl | rfl | rfl | rfl | rfl | rfl | rfl | rfl | rfl | rfl | rfl | rfl | rfl | rfl | rfl | rfl | rfl | rfl | rfl | rfl | rfl | rfl | rfl | rfl | rfl | rfl | rfl | rfl | rfl | rfl | rfl | rfl | rfl | rfl | rfl | rfl | rfl | rfl | rfl
  · exact ptA_0 h hi
  · exact ptA_1 h hi
  · exact ptA_2 h hi
  · exact ptA_3 h hi
  · exact ptA_4 h hi
  · exact ptA_5 h hi
  · exact ptA_6 h hi
  · exact ptA_7 h hi
  · exact ptA_8 h hi
  · exact ptA_9 h hi
  · exact ptA_10 h hi
  · exact ptA_11 h hi
  · exact ptA_12 h hi
  · exact ptA_13 h hi
  · exact ptA_14 h hi
  · exact ptA_15 h hi
  · exact ptA_16 h hi
  · exact ptA_17 h hi
  · exact ptA_18 h hi
  · exact ptA_19 h hi
  · exact ptA_20 h hi
  · exact ptA_21 h hi
  · exact ptA_22 h hi
  · exact ptA_23 h hi
  · exact ptA_24 h hi
  · exact ptA_25 h hi
  · exact ptA_26 h hi
  · exact ptA_27 h hi
  · exact ptA_28 h hi
  · exact ptA_29 h hi
  · exact ptA_30 h hi
  · exact ptA_31 h hi
  · exact ptA_32 h hi
  · exact ptA_33 h hi
  · exact ptA_34 h hi
  · exact ptA_35 h hi
  · exact ptA_36 h hi
  · exact ptA_37 h hi
  · exact ptA_38 h hi
  · exact ptA_39 h hi
  · exact absurd hi (Nat.not_lt_zero i)
  · exact ptA_41 h hi
  · exact ptA_42 h hi
  · exact ptA_43 h hi
  · exact ptA_44 h hi
  · exact ptA_45 h hi
  · exact ptA_46 h hi
  · exact ptA_47 h hi
  · exact absurd hi (Nat.not_lt_zero i)
  · exact absurd hi (Nat.not_lt_zero i)
  · exact ptA_50 h hi
  · exact ptA_51 h hi
  · exact ptA_52 h hi
  · exact ptA_53 h hi
  · exact ptA_54 h hi
  · exact ptA_55 h hi
  · exact ptA_56 h hi
  · exact ptA_57 h hi
  · exact ptA_58 h hi
  · exact ptA_59 h hi
  · exact ptA_60 h hi
  · exact ptA_61 h hi
theorem pt_world {f : Nat → Option np_E} (h : pt_h f) : ∃ f', pw_W 0 (65536, f') pS0 ∧ ∀ k e', f' k = some e' → np_ce 65536 e' ∧ ∃ e, f k = some e ∧ np_eqv e e' ∧ (np_te e → np_te e') := by
  refine ⟨fun k => if pw_ok 0 (pw_inv k / 1000) (pw_inv k % 1000) = true ∧ pw_pl (pw_inv k / 1000) (pw_inv k % 1000) = k then some (pw_ent (pw_inv k / 1000) (pw_inv k % 1000) (pS0 (pw_inv k / 1000) (pw_inv k % 1000))) else none, ⟨rfl, fun a i hok => ?_⟩, fun k e' hk => ?_⟩
  · have hlt : a < 62 ∧ i < 435 := by
      rcases pw_ok_lt hok with z | z | z
      · exact z
      · omega
      · omega
    have e1 := (pw_pl_one hlt.1 (pw_ok_lo hok hlt.1)).1
    show (if pw_ok 0 (pw_inv (pw_pl a i) / 1000) (pw_inv (pw_pl a i) % 1000) = true ∧ pw_pl (pw_inv (pw_pl a i) / 1000) (pw_inv (pw_pl a i) % 1000) = pw_pl a i then some (pw_ent (pw_inv (pw_pl a i) / 1000) (pw_inv (pw_pl a i) % 1000) (pS0 (pw_inv (pw_pl a i) / 1000) (pw_inv (pw_pl a i) % 1000))) else none) = _
    rw [e1, show (1000 * a + i) / 1000 = a by omega, show (1000 * a + i) % 1000 = i by omega, if_pos ⟨hok, rfl⟩]
  · dsimp only at hk
    split at hk
    · rename_i hex
      obtain ⟨h1, h2⟩ := hex
      cases hk
      have hlt : pw_inv k / 1000 < 62 := by
        rcases pw_ok_lt h1 with z | z | z
        · exact z.1
        · omega
        · omega
      obtain ⟨e, g1, g2⟩ := pt_all h hlt (pw_ok_lo h1 hlt)
      rw [h2] at g1
      exact ⟨pw_ent_ce h1, e, g1, g2, g2.te⟩
    · cases hk
