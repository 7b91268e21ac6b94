/-! findTaken, its checks. -/
theorem y_c270_0_0 : s_seg y_X (s_num (vP 20)) 270 (y_at [10, 22]) 90 58 (y_T270f 0) (y_a270 0) = true := by decide +kernel
theorem y_c270_1_0 : s_seg y_X (s_num (vP 20)) 270 (y_at [10, 22]) 90 58 (y_T270f 1) (y_a270 1) = true := by decide +kernel
theorem y_c270_2_0 : s_seg y_X (s_num (vP 20)) 270 (y_at [10, 22]) 90 58 (y_T270f 2) (y_a270 2) = true := by decide +kernel
theorem y_c270_3_0 : s_seg y_X (s_num (vP 20)) 270 (y_at [10, 22]) 90 58 (y_T270f 3) (y_a270 3) = true := by decide +kernel
theorem y_c270_4_0 : s_seg y_X (s_num (vP 20)) 270 (y_at [10, 22]) 90 58 (y_T270f 4) (y_a270 4) = true := by decide +kernel
theorem y_c270_5_0 : s_seg y_X (s_num (vP 20)) 270 (y_at [10, 22]) 90 58 (y_T270f 5) (y_a270 5) = true := by decide +kernel
theorem y_c270_6_0 : s_seg y_X (s_num (vP 20)) 270 (y_at [10, 22]) 90 58 (y_T270f 6) (y_a270 6) = true := by decide +kernel
theorem y_c270_7_0 : s_seg y_X (s_num (vP 20)) 270 (y_at [10, 22]) 90 58 (y_T270f 7) (y_a270 7) = true := by decide +kernel
theorem y_c270_8_0 : s_seg y_X (s_num (vP 20)) 270 (y_at [10, 22]) 90 58 (y_T270f 8) (y_a270 8) = true := by decide +kernel
theorem y_c270_9_0 : s_seg y_X (s_num (vP 20)) 270 (y_at [10, 22]) 90 58 (y_T270f 9) (y_a270 9) = true := by decide +kernel
theorem y_c270_10_0 : s_seg y_X (s_num (vP 20)) 270 (y_at [10, 22]) 90 58 (y_T270f 10) (y_a270 10) = true := by decide +kernel
theorem y_c270_11_0 : s_seg y_X (s_num (vP 20)) 270 (y_at [10, 22]) 90 58 (y_T270f 11) (y_a270 11) = true := by decide +kernel
theorem y_c270_12_0 : s_seg y_X (s_num (vP 20)) 270 (y_at [10, 22]) 90 58 (y_T270f 12) (y_a270 12) = true := by decide +kernel
theorem y_c270_13_0 : s_seg y_X (s_num (vP 20)) 270 (y_at [10, 22]) 90 58 (y_T270f 13) (y_a270 13) = true := by decide +kernel
theorem y_c270_14_0 : s_seg y_X (s_num (vP 20)) 270 (y_at [10, 22]) 90 58 (y_T270f 14) (y_a270 14) = true := by decide +kernel
theorem y_c270_15_0 : s_seg y_X (s_num (vP 20)) 270 (y_at [10, 22]) 90 58 (y_T270f 15) (y_a270 15) = true := by decide +kernel
theorem y_c270_16_0 : s_seg y_X (s_num (vP 20)) 270 (y_at [10, 22]) 90 58 (y_T270f 16) (y_a270 16) = true := by decide +kernel
theorem y_c270_17_0 : s_seg y_X (s_num (vP 20)) 270 (y_at [10, 22]) 90 58 (y_T270f 17) (y_a270 17) = true := by decide +kernel
theorem y_c270_18_0 : s_seg y_X (s_num (vP 20)) 270 (y_at [10, 22]) 90 58 (y_T270f 18) (y_a270 18) = true := by decide +kernel
theorem y_c270_19_0 : s_seg y_X (s_num (vP 20)) 270 (y_at [10, 22]) 90 58 (y_T270f 19) (y_a270 19) = true := by decide +kernel
theorem y_c270_20_0 : s_seg y_X (s_num (vP 20)) 270 (y_at [10, 22]) 90 58 (y_T270f 20) (y_a270 20) = true := by decide +kernel
theorem y_c270_21_0 : s_seg y_X (s_num (vP 20)) 270 (y_at [10, 22]) 90 58 (y_T270f 21) (y_a270 21) = true := by decide +kernel
theorem y_c270_22_0 : s_seg y_X (s_num (vP 20)) 270 (y_at [10, 22]) 90 58 (y_T270f 22) (y_a270 22) = true := by decide +kernel
theorem y_c270_23_0 : s_seg y_X (s_num (vP 20)) 270 (y_at [10, 22]) 90 58 (y_T270f 23) (y_a270 23) = true := by decide +kernel
theorem y_c270_24_0 : s_seg y_X (s_num (vP 20)) 270 (y_at [10, 22]) 90 58 (y_T270f 24) (y_a270 24) = true := by decide +kernel
theorem y_c270_25_0 : s_seg y_X (s_num (vP 20)) 270 (y_at [10, 22]) 90 58 (y_T270f 25) (y_a270 25) = true := by decide +kernel
theorem y_c270_26_0 : s_seg y_X (s_num (vP 20)) 270 (y_at [10, 22]) 90 58 (y_T270f 26) (y_a270 26) = true := by decide +kernel
theorem y_c270 : ∀ i, i < 27 → s_seg y_X (s_num (vP 20)) 270 (y_at [10, 22]) 90 58 (y_T270f i) (y_a270 i) = true := by
  intro i hi
  match i, hi with
  | 0, _ => exact y_c270_0_0
  | 1, _ => exact y_c270_1_0
  | 2, _ => exact y_c270_2_0
  | 3, _ => exact y_c270_3_0
  | 4, _ => exact y_c270_4_0
  | 5, _ => exact y_c270_5_0
  | 6, _ => exact y_c270_6_0
  | 7, _ => exact y_c270_7_0
  | 8, _ => exact y_c270_8_0
  | 9, _ => exact y_c270_9_0
  | 10, _ => exact y_c270_10_0
  | 11, _ => exact y_c270_11_0
  | 12, _ => exact y_c270_12_0
  | 13, _ => exact y_c270_13_0
  | 14, _ => exact y_c270_14_0
  | 15, _ => exact y_c270_15_0
  | 16, _ => exact y_c270_16_0
  | 17, _ => exact y_c270_17_0
  | 18, _ => exact y_c270_18_0
  | 19, _ => exact y_c270_19_0
  | 20, _ => exact y_c270_20_0
  | 21, _ => exact y_c270_21_0
  | 22, _ => exact y_c270_22_0
  | 23, _ => exact y_c270_23_0
  | 24, _ => exact y_c270_24_0
  | 25, _ => exact y_c270_25_0
  | 26, _ => exact y_c270_26_0
  | i + 27, hi => omega
theorem y_d270_0_0 : s_seg (y_X0 (0 + 1) 86) (s_num (vP 20)) 270 (y_at [10, 22]) 90 58 (y_T270h 0) (y_h270 0) = true := by decide +kernel
theorem y_d270_0_1 : s_seg (y_X0 (0 + 1) 86) (s_num (vP 20)) 270 (y_at [10, 22]) 90 58 (y_T270l 0) (y_l270 0) = true := by decide +kernel
theorem y_d270_1_0 : s_seg (y_X0 (1 + 1) 86) (s_num (vP 20)) 270 (y_at [10, 22]) 90 58 (y_T270h 1) (y_h270 1) = true := by decide +kernel
theorem y_d270_1_1 : s_seg (y_X0 (1 + 1) 86) (s_num (vP 20)) 270 (y_at [10, 22]) 90 58 (y_T270l 1) (y_l270 1) = true := by decide +kernel
theorem y_d270_2_0 : s_seg (y_X0 (2 + 1) 86) (s_num (vP 20)) 270 (y_at [10, 22]) 90 58 (y_T270h 2) (y_h270 2) = true := by decide +kernel
theorem y_d270_2_1 : s_seg (y_X0 (2 + 1) 86) (s_num (vP 20)) 270 (y_at [10, 22]) 90 58 (y_T270l 2) (y_l270 2) = true := by decide +kernel
theorem y_d270_3_0 : s_seg (y_X0 (3 + 1) 86) (s_num (vP 20)) 270 (y_at [10, 22]) 90 58 (y_T270h 3) (y_h270 3) = true := by decide +kernel
theorem y_d270_3_1 : s_seg (y_X0 (3 + 1) 86) (s_num (vP 20)) 270 (y_at [10, 22]) 90 58 (y_T270l 3) (y_l270 3) = true := by decide +kernel
theorem y_d270_4_0 : s_seg (y_X0 (4 + 1) 86) (s_num (vP 20)) 270 (y_at [10, 22]) 90 58 (y_T270h 4) (y_h270 4) = true := by decide +kernel
theorem y_d270_4_1 : s_seg (y_X0 (4 + 1) 86) (s_num (vP 20)) 270 (y_at [10, 22]) 90 58 (y_T270l 4) (y_l270 4) = true := by decide +kernel
theorem y_d270_5_0 : s_seg (y_X0 (5 + 1) 86) (s_num (vP 20)) 270 (y_at [10, 22]) 90 58 (y_T270h 5) (y_h270 5) = true := by decide +kernel
theorem y_d270_5_1 : s_seg (y_X0 (5 + 1) 86) (s_num (vP 20)) 270 (y_at [10, 22]) 90 58 (y_T270l 5) (y_l270 5) = true := by decide +kernel
theorem y_d270_6_0 : s_seg (y_X0 (6 + 1) 86) (s_num (vP 20)) 270 (y_at [10, 22]) 90 58 (y_T270h 6) (y_h270 6) = true := by decide +kernel
theorem y_d270_6_1 : s_seg (y_X0 (6 + 1) 86) (s_num (vP 20)) 270 (y_at [10, 22]) 90 58 (y_T270l 6) (y_l270 6) = true := by decide +kernel
theorem y_d270_7_0 : s_seg (y_X0 (7 + 1) 86) (s_num (vP 20)) 270 (y_at [10, 22]) 90 58 (y_T270h 7) (y_h270 7) = true := by decide +kernel
theorem y_d270_7_1 : s_seg (y_X0 (7 + 1) 86) (s_num (vP 20)) 270 (y_at [10, 22]) 90 58 (y_T270l 7) (y_l270 7) = true := by decide +kernel
theorem y_d270_8_0 : s_seg (y_X0 (8 + 1) 86) (s_num (vP 20)) 270 (y_at [10, 22]) 90 58 (y_T270h 8) (y_h270 8) = true := by decide +kernel
theorem y_d270_8_1 : s_seg (y_X0 (8 + 1) 86) (s_num (vP 20)) 270 (y_at [10, 22]) 90 58 (y_T270l 8) (y_l270 8) = true := by decide +kernel
theorem y_d270_9_0 : s_seg (y_X0 (9 + 1) 86) (s_num (vP 20)) 270 (y_at [10, 22]) 90 58 (y_T270h 9) (y_h270 9) = true := by decide +kernel
theorem y_d270_9_1 : s_seg (y_X0 (9 + 1) 86) (s_num (vP 20)) 270 (y_at [10, 22]) 90 58 (y_T270l 9) (y_l270 9) = true := by decide +kernel
theorem y_d270_10_0 : s_seg (y_X0 (10 + 1) 86) (s_num (vP 20)) 270 (y_at [10, 22]) 90 58 (y_T270h 10) (y_h270 10) = true := by decide +kernel
theorem y_d270_10_1 : s_seg (y_X0 (10 + 1) 86) (s_num (vP 20)) 270 (y_at [10, 22]) 90 58 (y_T270l 10) (y_l270 10) = true := by decide +kernel
theorem y_d270_11_0 : s_seg (y_X0 (11 + 1) 86) (s_num (vP 20)) 270 (y_at [10, 22]) 90 58 (y_T270h 11) (y_h270 11) = true := by decide +kernel
theorem y_d270_11_1 : s_seg (y_X0 (11 + 1) 86) (s_num (vP 20)) 270 (y_at [10, 22]) 90 58 (y_T270l 11) (y_l270 11) = true := by decide +kernel
theorem y_d270_12_0 : s_seg (y_X0 (12 + 1) 86) (s_num (vP 20)) 270 (y_at [10, 22]) 90 58 (y_T270h 12) (y_h270 12) = true := by decide +kernel
theorem y_d270_12_1 : s_seg (y_X0 (12 + 1) 86) (s_num (vP 20)) 270 (y_at [10, 22]) 90 58 (y_T270l 12) (y_l270 12) = true := by decide +kernel
theorem y_d270_13_0 : s_seg (y_X0 (13 + 1) 86) (s_num (vP 20)) 270 (y_at [10, 22]) 90 58 (y_T270h 13) (y_h270 13) = true := by decide +kernel
theorem y_d270_13_1 : s_seg (y_X0 (13 + 1) 86) (s_num (vP 20)) 270 (y_at [10, 22]) 90 58 (y_T270l 13) (y_l270 13) = true := by decide +kernel
theorem y_d270_14_0 : s_seg (y_X0 (14 + 1) 86) (s_num (vP 20)) 270 (y_at [10, 22]) 90 58 (y_T270h 14) (y_h270 14) = true := by decide +kernel
theorem y_d270_14_1 : s_seg (y_X0 (14 + 1) 86) (s_num (vP 20)) 270 (y_at [10, 22]) 90 58 (y_T270l 14) (y_l270 14) = true := by decide +kernel
theorem y_d270_15_0 : s_seg (y_X0 (15 + 1) 86) (s_num (vP 20)) 270 (y_at [10, 22]) 90 58 (y_T270h 15) (y_h270 15) = true := by decide +kernel
theorem y_d270_15_1 : s_seg (y_X0 (15 + 1) 86) (s_num (vP 20)) 270 (y_at [10, 22]) 90 58 (y_T270l 15) (y_l270 15) = true := by decide +kernel
theorem y_d270_16_0 : s_seg (y_X0 (16 + 1) 86) (s_num (vP 20)) 270 (y_at [10, 22]) 90 58 (y_T270h 16) (y_h270 16) = true := by decide +kernel
theorem y_d270_16_1 : s_seg (y_X0 (16 + 1) 86) (s_num (vP 20)) 270 (y_at [10, 22]) 90 58 (y_T270l 16) (y_l270 16) = true := by decide +kernel
theorem y_d270_17_0 : s_seg (y_X0 (17 + 1) 86) (s_num (vP 20)) 270 (y_at [10, 22]) 90 58 (y_T270h 17) (y_h270 17) = true := by decide +kernel
theorem y_d270_17_1 : s_seg (y_X0 (17 + 1) 86) (s_num (vP 20)) 270 (y_at [10, 22]) 90 58 (y_T270l 17) (y_l270 17) = true := by decide +kernel
theorem y_d270_18_0 : s_seg (y_X0 (18 + 1) 86) (s_num (vP 20)) 270 (y_at [10, 22]) 90 58 (y_T270h 18) (y_h270 18) = true := by decide +kernel
theorem y_d270_18_1 : s_seg (y_X0 (18 + 1) 86) (s_num (vP 20)) 270 (y_at [10, 22]) 90 58 (y_T270l 18) (y_l270 18) = true := by decide +kernel
theorem y_d270_19_0 : s_seg (y_X0 (19 + 1) 86) (s_num (vP 20)) 270 (y_at [10, 22]) 90 58 (y_T270h 19) (y_h270 19) = true := by decide +kernel
theorem y_d270_19_1 : s_seg (y_X0 (19 + 1) 86) (s_num (vP 20)) 270 (y_at [10, 22]) 90 58 (y_T270l 19) (y_l270 19) = true := by decide +kernel
theorem y_d270_20_0 : s_seg (y_X0 (20 + 1) 86) (s_num (vP 20)) 270 (y_at [10, 22]) 90 58 (y_T270h 20) (y_h270 20) = true := by decide +kernel
theorem y_d270_20_1 : s_seg (y_X0 (20 + 1) 86) (s_num (vP 20)) 270 (y_at [10, 22]) 90 58 (y_T270l 20) (y_l270 20) = true := by decide +kernel
theorem y_d270_21_0 : s_seg (y_X0 (21 + 1) 86) (s_num (vP 20)) 270 (y_at [10, 22]) 90 58 (y_T270h 21) (y_h270 21) = true := by decide +kernel
theorem y_d270_21_1 : s_seg (y_X0 (21 + 1) 86) (s_num (vP 20)) 270 (y_at [10, 22]) 90 58 (y_T270l 21) (y_l270 21) = true := by decide +kernel
theorem y_d270_22_0 : s_seg (y_X0 (22 + 1) 86) (s_num (vP 20)) 270 (y_at [10, 22]) 90 58 (y_T270h 22) (y_h270 22) = true := by decide +kernel
theorem y_d270_22_1 : s_seg (y_X0 (22 + 1) 86) (s_num (vP 20)) 270 (y_at [10, 22]) 90 58 (y_T270l 22) (y_l270 22) = true := by decide +kernel
theorem y_d270_23_0 : s_seg (y_X0 (23 + 1) 86) (s_num (vP 20)) 270 (y_at [10, 22]) 90 58 (y_T270h 23) (y_h270 23) = true := by decide +kernel
theorem y_d270_23_1 : s_seg (y_X0 (23 + 1) 86) (s_num (vP 20)) 270 (y_at [10, 22]) 90 58 (y_T270l 23) (y_l270 23) = true := by decide +kernel
theorem y_d270_24_0 : s_seg (y_X0 (24 + 1) 86) (s_num (vP 20)) 270 (y_at [10, 22]) 90 58 (y_T270h 24) (y_h270 24) = true := by decide +kernel
theorem y_d270_24_1 : s_seg (y_X0 (24 + 1) 86) (s_num (vP 20)) 270 (y_at [10, 22]) 90 58 (y_T270l 24) (y_l270 24) = true := by decide +kernel
theorem y_d270_25_0 : s_seg (y_X0 (25 + 1) 86) (s_num (vP 20)) 270 (y_at [10, 22]) 90 58 (y_T270h 25) (y_h270 25) = true := by decide +kernel
theorem y_d270_25_1 : s_seg (y_X0 (25 + 1) 86) (s_num (vP 20)) 270 (y_at [10, 22]) 90 58 (y_T270l 25) (y_l270 25) = true := by decide +kernel
theorem y_d270 : ∀ i, i < 26 → s_seg (y_X0 (i + 1) 86) (s_num (vP 20)) 270 (y_at [10, 22]) 90 58 (y_T270h i) (y_h270 i) = true ∧ s_seg (y_X0 (i + 1) 86) (s_num (vP 20)) 270 (y_at [10, 22]) 90 58 (y_T270l i) (y_l270 i) = true := by
  intro i hi
  match i, hi with
  | 0, _ => exact ⟨y_d270_0_0, y_d270_0_1⟩
  | 1, _ => exact ⟨y_d270_1_0, y_d270_1_1⟩
  | 2, _ => exact ⟨y_d270_2_0, y_d270_2_1⟩
  | 3, _ => exact ⟨y_d270_3_0, y_d270_3_1⟩
  | 4, _ => exact ⟨y_d270_4_0, y_d270_4_1⟩
  | 5, _ => exact ⟨y_d270_5_0, y_d270_5_1⟩
  | 6, _ => exact ⟨y_d270_6_0, y_d270_6_1⟩
  | 7, _ => exact ⟨y_d270_7_0, y_d270_7_1⟩
  | 8, _ => exact ⟨y_d270_8_0, y_d270_8_1⟩
  | 9, _ => exact ⟨y_d270_9_0, y_d270_9_1⟩
  | 10, _ => exact ⟨y_d270_10_0, y_d270_10_1⟩
  | 11, _ => exact ⟨y_d270_11_0, y_d270_11_1⟩
  | 12, _ => exact ⟨y_d270_12_0, y_d270_12_1⟩
  | 13, _ => exact ⟨y_d270_13_0, y_d270_13_1⟩
  | 14, _ => exact ⟨y_d270_14_0, y_d270_14_1⟩
  | 15, _ => exact ⟨y_d270_15_0, y_d270_15_1⟩
  | 16, _ => exact ⟨y_d270_16_0, y_d270_16_1⟩
  | 17, _ => exact ⟨y_d270_17_0, y_d270_17_1⟩
  | 18, _ => exact ⟨y_d270_18_0, y_d270_18_1⟩
  | 19, _ => exact ⟨y_d270_19_0, y_d270_19_1⟩
  | 20, _ => exact ⟨y_d270_20_0, y_d270_20_1⟩
  | 21, _ => exact ⟨y_d270_21_0, y_d270_21_1⟩
  | 22, _ => exact ⟨y_d270_22_0, y_d270_22_1⟩
  | 23, _ => exact ⟨y_d270_23_0, y_d270_23_1⟩
  | 24, _ => exact ⟨y_d270_24_0, y_d270_24_1⟩
  | 25, _ => exact ⟨y_d270_25_0, y_d270_25_1⟩
  | i + 26, hi => omega
