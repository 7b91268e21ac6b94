/-! wanting, its checks. -/
theorem y_c269_0_0 : s_seg y_X9 (s_num (vP 10)) 269 (y_at [7, 20]) 90 86 (y_T269i 0 0) (y_a269 0 0) = true := by decide +kernel
theorem y_c269_0_1 : s_seg y_X9 (s_num (vP 10)) 269 (y_at [7, 20]) 90 86 (y_T269i 0 1) (y_a269 0 1) = true := by decide +kernel
theorem y_c269_1_0 : s_seg y_X9 (s_num (vP 10)) 269 (y_at [7, 20]) 90 86 (y_T269i 1 0) (y_a269 1 0) = true := by decide +kernel
theorem y_c269_1_1 : s_seg y_X9 (s_num (vP 10)) 269 (y_at [7, 20]) 90 86 (y_T269i 1 1) (y_a269 1 1) = true := by decide +kernel
theorem y_c269_2_0 : s_seg y_X9 (s_num (vP 10)) 269 (y_at [7, 20]) 90 86 (y_T269i 2 0) (y_a269 2 0) = true := by decide +kernel
theorem y_c269_2_1 : s_seg y_X9 (s_num (vP 10)) 269 (y_at [7, 20]) 90 86 (y_T269i 2 1) (y_a269 2 1) = true := by decide +kernel
theorem y_c269_3_0 : s_seg y_X9 (s_num (vP 10)) 269 (y_at [7, 20]) 90 86 (y_T269i 3 0) (y_a269 3 0) = true := by decide +kernel
theorem y_c269_3_1 : s_seg y_X9 (s_num (vP 10)) 269 (y_at [7, 20]) 90 86 (y_T269i 3 1) (y_a269 3 1) = true := by decide +kernel
theorem y_c269_4_0 : s_seg y_X9 (s_num (vP 10)) 269 (y_at [7, 20]) 90 86 (y_T269i 4 0) (y_a269 4 0) = true := by decide +kernel
theorem y_c269_4_1 : s_seg y_X9 (s_num (vP 10)) 269 (y_at [7, 20]) 90 86 (y_T269i 4 1) (y_a269 4 1) = true := by decide +kernel
theorem y_c269_5_0 : s_seg y_X9 (s_num (vP 10)) 269 (y_at [7, 20]) 90 86 (y_T269i 5 0) (y_a269 5 0) = true := by decide +kernel
theorem y_c269_5_1 : s_seg y_X9 (s_num (vP 10)) 269 (y_at [7, 20]) 90 86 (y_T269i 5 1) (y_a269 5 1) = true := by decide +kernel
theorem y_c269_6_0 : s_seg y_X9 (s_num (vP 10)) 269 (y_at [7, 20]) 90 86 (y_T269i 6 0) (y_a269 6 0) = true := by decide +kernel
theorem y_c269_6_1 : s_seg y_X9 (s_num (vP 10)) 269 (y_at [7, 20]) 90 86 (y_T269i 6 1) (y_a269 6 1) = true := by decide +kernel
theorem y_c269_7_0 : s_seg y_X9 (s_num (vP 10)) 269 (y_at [7, 20]) 90 86 (y_T269i 7 0) (y_a269 7 0) = true := by decide +kernel
theorem y_c269_7_1 : s_seg y_X9 (s_num (vP 10)) 269 (y_at [7, 20]) 90 86 (y_T269i 7 1) (y_a269 7 1) = true := by decide +kernel
theorem y_c269_8_0 : s_seg y_X9 (s_num (vP 10)) 269 (y_at [7, 20]) 90 86 (y_T269i 8 0) (y_a269 8 0) = true := by decide +kernel
theorem y_c269_8_1 : s_seg y_X9 (s_num (vP 10)) 269 (y_at [7, 20]) 90 86 (y_T269i 8 1) (y_a269 8 1) = true := by decide +kernel
theorem y_c269_9_0 : s_seg y_X9 (s_num (vP 10)) 269 (y_at [7, 20]) 90 86 (y_T269i 9 0) (y_a269 9 0) = true := by decide +kernel
theorem y_c269_9_1 : s_seg y_X9 (s_num (vP 10)) 269 (y_at [7, 20]) 90 86 (y_T269i 9 1) (y_a269 9 1) = true := by decide +kernel
theorem y_c269_10_0 : s_seg y_X9 (s_num (vP 10)) 269 (y_at [7, 20]) 90 86 (y_T269i 10 0) (y_a269 10 0) = true := by decide +kernel
theorem y_c269_10_1 : s_seg y_X9 (s_num (vP 10)) 269 (y_at [7, 20]) 90 86 (y_T269i 10 1) (y_a269 10 1) = true := by decide +kernel
theorem y_c269_11_0 : s_seg y_X9 (s_num (vP 10)) 269 (y_at [7, 20]) 90 86 (y_T269i 11 0) (y_a269 11 0) = true := by decide +kernel
theorem y_c269_11_1 : s_seg y_X9 (s_num (vP 10)) 269 (y_at [7, 20]) 90 86 (y_T269i 11 1) (y_a269 11 1) = true := by decide +kernel
theorem y_c269_12_0 : s_seg y_X9 (s_num (vP 10)) 269 (y_at [7, 20]) 90 86 (y_T269i 12 0) (y_a269 12 0) = true := by decide +kernel
theorem y_c269_12_1 : s_seg y_X9 (s_num (vP 10)) 269 (y_at [7, 20]) 90 86 (y_T269i 12 1) (y_a269 12 1) = true := by decide +kernel
theorem y_c269_13_0 : s_seg y_X9 (s_num (vP 10)) 269 (y_at [7, 20]) 90 86 (y_T269i 13 0) (y_a269 13 0) = true := by decide +kernel
theorem y_c269_13_1 : s_seg y_X9 (s_num (vP 10)) 269 (y_at [7, 20]) 90 86 (y_T269i 13 1) (y_a269 13 1) = true := by decide +kernel
theorem y_c269_14_0 : s_seg y_X9 (s_num (vP 10)) 269 (y_at [7, 20]) 90 86 (y_T269i 14 0) (y_a269 14 0) = true := by decide +kernel
theorem y_c269_14_1 : s_seg y_X9 (s_num (vP 10)) 269 (y_at [7, 20]) 90 86 (y_T269i 14 1) (y_a269 14 1) = true := by decide +kernel
theorem y_c269_15_0 : s_seg y_X9 (s_num (vP 10)) 269 (y_at [7, 20]) 90 86 (y_T269i 15 0) (y_a269 15 0) = true := by decide +kernel
theorem y_c269_15_1 : s_seg y_X9 (s_num (vP 10)) 269 (y_at [7, 20]) 90 86 (y_T269i 15 1) (y_a269 15 1) = true := by decide +kernel
theorem y_c269_16_0 : s_seg y_X9 (s_num (vP 10)) 269 (y_at [7, 20]) 90 86 (y_T269i 16 0) (y_a269 16 0) = true := by decide +kernel
theorem y_c269_16_1 : s_seg y_X9 (s_num (vP 10)) 269 (y_at [7, 20]) 90 86 (y_T269i 16 1) (y_a269 16 1) = true := by decide +kernel
theorem y_c269_17_0 : s_seg y_X9 (s_num (vP 10)) 269 (y_at [7, 20]) 90 86 (y_T269i 17 0) (y_a269 17 0) = true := by decide +kernel
theorem y_c269_17_1 : s_seg y_X9 (s_num (vP 10)) 269 (y_at [7, 20]) 90 86 (y_T269i 17 1) (y_a269 17 1) = true := by decide +kernel
theorem y_c269_18_0 : s_seg y_X9 (s_num (vP 10)) 269 (y_at [7, 20]) 90 86 (y_T269i 18 0) (y_a269 18 0) = true := by decide +kernel
theorem y_c269_18_1 : s_seg y_X9 (s_num (vP 10)) 269 (y_at [7, 20]) 90 86 (y_T269i 18 1) (y_a269 18 1) = true := by decide +kernel
theorem y_c269_19_0 : s_seg y_X9 (s_num (vP 10)) 269 (y_at [7, 20]) 90 86 (y_T269i 19 0) (y_a269 19 0) = true := by decide +kernel
theorem y_c269_19_1 : s_seg y_X9 (s_num (vP 10)) 269 (y_at [7, 20]) 90 86 (y_T269i 19 1) (y_a269 19 1) = true := by decide +kernel
theorem y_c269_20_0 : s_seg y_X9 (s_num (vP 10)) 269 (y_at [7, 20]) 90 86 (y_T269i 20 0) (y_a269 20 0) = true := by decide +kernel
theorem y_c269_20_1 : s_seg y_X9 (s_num (vP 10)) 269 (y_at [7, 20]) 90 86 (y_T269i 20 1) (y_a269 20 1) = true := by decide +kernel
theorem y_c269_21_0 : s_seg y_X9 (s_num (vP 10)) 269 (y_at [7, 20]) 90 86 (y_T269i 21 0) (y_a269 21 0) = true := by decide +kernel
theorem y_c269_21_1 : s_seg y_X9 (s_num (vP 10)) 269 (y_at [7, 20]) 90 86 (y_T269i 21 1) (y_a269 21 1) = true := by decide +kernel
theorem y_c269_22_0 : s_seg y_X9 (s_num (vP 10)) 269 (y_at [7, 20]) 90 86 (y_T269i 22 0) (y_a269 22 0) = true := by decide +kernel
theorem y_c269_22_1 : s_seg y_X9 (s_num (vP 10)) 269 (y_at [7, 20]) 90 86 (y_T269i 22 1) (y_a269 22 1) = true := by decide +kernel
theorem y_c269_23_0 : s_seg y_X9 (s_num (vP 10)) 269 (y_at [7, 20]) 90 86 (y_T269i 23 0) (y_a269 23 0) = true := by decide +kernel
theorem y_c269_23_1 : s_seg y_X9 (s_num (vP 10)) 269 (y_at [7, 20]) 90 86 (y_T269i 23 1) (y_a269 23 1) = true := by decide +kernel
theorem y_c269_24_0 : s_seg y_X9 (s_num (vP 10)) 269 (y_at [7, 20]) 90 86 (y_T269i 24 0) (y_a269 24 0) = true := by decide +kernel
theorem y_c269_24_1 : s_seg y_X9 (s_num (vP 10)) 269 (y_at [7, 20]) 90 86 (y_T269i 24 1) (y_a269 24 1) = true := by decide +kernel
theorem y_c269_25_0 : s_seg y_X9 (s_num (vP 10)) 269 (y_at [7, 20]) 90 86 (y_T269i 25 0) (y_a269 25 0) = true := by decide +kernel
theorem y_c269_25_1 : s_seg y_X9 (s_num (vP 10)) 269 (y_at [7, 20]) 90 86 (y_T269i 25 1) (y_a269 25 1) = true := by decide +kernel
theorem y_c269_26_0 : s_seg y_X9 (s_num (vP 10)) 269 (y_at [7, 20]) 90 86 (y_T269i 26 0) (y_a269 26 0) = true := by decide +kernel
theorem y_c269_26_1 : s_seg y_X9 (s_num (vP 10)) 269 (y_at [7, 20]) 90 86 (y_T269i 26 1) (y_a269 26 1) = true := by decide +kernel
theorem y_c269 : ∀ i, i < 27 → s_seg y_X9 (s_num (vP 10)) 269 (y_at [7, 20]) 90 86 (y_T269i i 0) (y_a269 i 0) = true ∧ s_seg y_X9 (s_num (vP 10)) 269 (y_at [7, 20]) 90 86 (y_T269i i 1) (y_a269 i 1) = true := by
  intro i hi
  match i, hi with
  | 0, _ => exact ⟨y_c269_0_0, y_c269_0_1⟩
  | 1, _ => exact ⟨y_c269_1_0, y_c269_1_1⟩
  | 2, _ => exact ⟨y_c269_2_0, y_c269_2_1⟩
  | 3, _ => exact ⟨y_c269_3_0, y_c269_3_1⟩
  | 4, _ => exact ⟨y_c269_4_0, y_c269_4_1⟩
  | 5, _ => exact ⟨y_c269_5_0, y_c269_5_1⟩
  | 6, _ => exact ⟨y_c269_6_0, y_c269_6_1⟩
  | 7, _ => exact ⟨y_c269_7_0, y_c269_7_1⟩
  | 8, _ => exact ⟨y_c269_8_0, y_c269_8_1⟩
  | 9, _ => exact ⟨y_c269_9_0, y_c269_9_1⟩
  | 10, _ => exact ⟨y_c269_10_0, y_c269_10_1⟩
  | 11, _ => exact ⟨y_c269_11_0, y_c269_11_1⟩
  | 12, _ => exact ⟨y_c269_12_0, y_c269_12_1⟩
  | 13, _ => exact ⟨y_c269_13_0, y_c269_13_1⟩
  | 14, _ => exact ⟨y_c269_14_0, y_c269_14_1⟩
  | 15, _ => exact ⟨y_c269_15_0, y_c269_15_1⟩
  | 16, _ => exact ⟨y_c269_16_0, y_c269_16_1⟩
  | 17, _ => exact ⟨y_c269_17_0, y_c269_17_1⟩
  | 18, _ => exact ⟨y_c269_18_0, y_c269_18_1⟩
  | 19, _ => exact ⟨y_c269_19_0, y_c269_19_1⟩
  | 20, _ => exact ⟨y_c269_20_0, y_c269_20_1⟩
  | 21, _ => exact ⟨y_c269_21_0, y_c269_21_1⟩
  | 22, _ => exact ⟨y_c269_22_0, y_c269_22_1⟩
  | 23, _ => exact ⟨y_c269_23_0, y_c269_23_1⟩
  | 24, _ => exact ⟨y_c269_24_0, y_c269_24_1⟩
  | 25, _ => exact ⟨y_c269_25_0, y_c269_25_1⟩
  | 26, _ => exact ⟨y_c269_26_0, y_c269_26_1⟩
  | i + 27, hi => omega
