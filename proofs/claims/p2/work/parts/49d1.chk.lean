/-! isServed, its checks. -/
theorem y_c268_0_0 : s_seg y_X (s_num (vP 5)) 268 (y_at [2]) 60 87 (y_T268 0) (y_a268 0) = true := by decide +kernel
theorem y_c268_1_0 : s_seg y_X (s_num (vP 5)) 268 (y_at [2]) 60 87 (y_T268 1) (y_a268 1) = true := by decide +kernel
theorem y_c268_2_0 : s_seg y_X (s_num (vP 5)) 268 (y_at [2]) 60 87 (y_T268 2) (y_a268 2) = true := by decide +kernel
theorem y_c268_3_0 : s_seg y_X (s_num (vP 5)) 268 (y_at [2]) 60 87 (y_T268 3) (y_a268 3) = true := by decide +kernel
theorem y_c268_4_0 : s_seg y_X (s_num (vP 5)) 268 (y_at [2]) 60 87 (y_T268 4) (y_a268 4) = true := by decide +kernel
theorem y_c268_5_0 : s_seg y_X (s_num (vP 5)) 268 (y_at [2]) 60 87 (y_T268 5) (y_a268 5) = true := by decide +kernel
theorem y_c268_6_0 : s_seg y_X (s_num (vP 5)) 268 (y_at [2]) 60 87 (y_T268 6) (y_a268 6) = true := by decide +kernel
theorem y_c268_7_0 : s_seg y_X (s_num (vP 5)) 268 (y_at [2]) 60 87 (y_T268 7) (y_a268 7) = true := by decide +kernel
theorem y_c268_8_0 : s_seg y_X (s_num (vP 5)) 268 (y_at [2]) 60 87 (y_T268 8) (y_a268 8) = true := by decide +kernel
theorem y_c268_9_0 : s_seg y_X (s_num (vP 5)) 268 (y_at [2]) 60 87 (y_T268 9) (y_a268 9) = true := by decide +kernel
theorem y_c268_10_0 : s_seg y_X (s_num (vP 5)) 268 (y_at [2]) 60 87 (y_T268 10) (y_a268 10) = true := by decide +kernel
theorem y_c268_11_0 : s_seg y_X (s_num (vP 5)) 268 (y_at [2]) 60 87 (y_T268 11) (y_a268 11) = true := by decide +kernel
theorem y_c268_12_0 : s_seg y_X (s_num (vP 5)) 268 (y_at [2]) 60 87 (y_T268 12) (y_a268 12) = true := by decide +kernel
theorem y_c268_13_0 : s_seg y_X (s_num (vP 5)) 268 (y_at [2]) 60 87 (y_T268 13) (y_a268 13) = true := by decide +kernel
theorem y_c268_14_0 : s_seg y_X (s_num (vP 5)) 268 (y_at [2]) 60 87 (y_T268 14) (y_a268 14) = true := by decide +kernel
theorem y_c268_15_0 : s_seg y_X (s_num (vP 5)) 268 (y_at [2]) 60 87 (y_T268 15) (y_a268 15) = true := by decide +kernel
theorem y_c268_16_0 : s_seg y_X (s_num (vP 5)) 268 (y_at [2]) 60 87 (y_T268 16) (y_a268 16) = true := by decide +kernel
theorem y_c268_17_0 : s_seg y_X (s_num (vP 5)) 268 (y_at [2]) 60 87 (y_T268 17) (y_a268 17) = true := by decide +kernel
theorem y_c268_18_0 : s_seg y_X (s_num (vP 5)) 268 (y_at [2]) 60 87 (y_T268 18) (y_a268 18) = true := by decide +kernel
theorem y_c268_19_0 : s_seg y_X (s_num (vP 5)) 268 (y_at [2]) 60 87 (y_T268 19) (y_a268 19) = true := by decide +kernel
theorem y_c268_20_0 : s_seg y_X (s_num (vP 5)) 268 (y_at [2]) 60 87 (y_T268 20) (y_a268 20) = true := by decide +kernel
theorem y_c268_21_0 : s_seg y_X (s_num (vP 5)) 268 (y_at [2]) 60 87 (y_T268 21) (y_a268 21) = true := by decide +kernel
theorem y_c268_22_0 : s_seg y_X (s_num (vP 5)) 268 (y_at [2]) 60 87 (y_T268 22) (y_a268 22) = true := by decide +kernel
theorem y_c268_23_0 : s_seg y_X (s_num (vP 5)) 268 (y_at [2]) 60 87 (y_T268 23) (y_a268 23) = true := by decide +kernel
theorem y_c268_24_0 : s_seg y_X (s_num (vP 5)) 268 (y_at [2]) 60 87 (y_T268 24) (y_a268 24) = true := by decide +kernel
theorem y_c268_25_0 : s_seg y_X (s_num (vP 5)) 268 (y_at [2]) 60 87 (y_T268 25) (y_a268 25) = true := by decide +kernel
theorem y_c268_26_0 : s_seg y_X (s_num (vP 5)) 268 (y_at [2]) 60 87 (y_T268 26) (y_a268 26) = true := by decide +kernel
theorem y_c268 : ∀ i, i < 27 → s_seg y_X (s_num (vP 5)) 268 (y_at [2]) 60 87 (y_T268 i) (y_a268 i) = true := by
  intro i hi
  match i, hi with
  | 0, _ => exact y_c268_0_0
  | 1, _ => exact y_c268_1_0
  | 2, _ => exact y_c268_2_0
  | 3, _ => exact y_c268_3_0
  | 4, _ => exact y_c268_4_0
  | 5, _ => exact y_c268_5_0
  | 6, _ => exact y_c268_6_0
  | 7, _ => exact y_c268_7_0
  | 8, _ => exact y_c268_8_0
  | 9, _ => exact y_c268_9_0
  | 10, _ => exact y_c268_10_0
  | 11, _ => exact y_c268_11_0
  | 12, _ => exact y_c268_12_0
  | 13, _ => exact y_c268_13_0
  | 14, _ => exact y_c268_14_0
  | 15, _ => exact y_c268_15_0
  | 16, _ => exact y_c268_16_0
  | 17, _ => exact y_c268_17_0
  | 18, _ => exact y_c268_18_0
  | 19, _ => exact y_c268_19_0
  | 20, _ => exact y_c268_20_0
  | 21, _ => exact y_c268_21_0
  | 22, _ => exact y_c268_22_0
  | 23, _ => exact y_c268_23_0
  | 24, _ => exact y_c268_24_0
  | 25, _ => exact y_c268_25_0
  | 26, _ => exact y_c268_26_0
  | i + 27, hi => omega
