/-! trunk: the inner while. -/
theorem x_c98_0 : s_seg y_X (s_num (vP 227)) 272 (y_at [61, 98]) 90 34 (x_T98g 0) (x_a98 0) = true := by decide +kernel
theorem x_c98_1 : s_seg y_X (s_num (vP 227)) 272 (y_at [61, 98]) 90 34 (x_T98g 1) (x_a98 1) = true := by decide +kernel
theorem x_c98_2 : s_seg y_X (s_num (vP 227)) 272 (y_at [61, 98]) 90 34 (x_T98g 2) (x_a98 2) = true := by decide +kernel
theorem x_c98_3 : s_seg y_X (s_num (vP 227)) 272 (y_at [61, 98]) 90 34 (x_T98g 3) (x_a98 3) = true := by decide +kernel
theorem x_c98_4 : s_seg y_X (s_num (vP 227)) 272 (y_at [61, 98]) 90 34 (x_T98g 4) (x_a98 4) = true := by decide +kernel
theorem x_c98_5 : s_seg y_X (s_num (vP 227)) 272 (y_at [61, 98]) 90 34 (x_T98g 5) (x_a98 5) = true := by decide +kernel
theorem x_c98_6 : s_seg y_X (s_num (vP 227)) 272 (y_at [61, 98]) 90 34 (x_T98g 6) (x_a98 6) = true := by decide +kernel
theorem x_c98_7 : s_seg y_X (s_num (vP 227)) 272 (y_at [61, 98]) 90 34 (x_T98g 7) (x_a98 7) = true := by decide +kernel
theorem x_c98_8 : s_seg y_X (s_num (vP 227)) 272 (y_at [61, 98]) 90 34 (x_T98g 8) (x_a98 8) = true := by decide +kernel
theorem x_c98_9 : s_seg y_X (s_num (vP 227)) 272 (y_at [61, 98]) 90 34 (x_T98g 9) (x_a98 9) = true := by decide +kernel
theorem x_c98_10 : s_seg y_X (s_num (vP 227)) 272 (y_at [61, 98]) 90 34 (x_T98g 10) (x_a98 10) = true := by decide +kernel
theorem x_c98_11 : s_seg y_X (s_num (vP 227)) 272 (y_at [61, 98]) 90 34 (x_T98g 11) (x_a98 11) = true := by decide +kernel
theorem x_c98_12 : s_seg y_X (s_num (vP 227)) 272 (y_at [61, 98]) 90 34 (x_T98g 12) (x_a98 12) = true := by decide +kernel
theorem x_c98_13 : s_seg y_X (s_num (vP 227)) 272 (y_at [61, 98]) 90 34 (x_T98g 13) (x_a98 13) = true := by decide +kernel
theorem x_c98_14 : s_seg y_X (s_num (vP 227)) 272 (y_at [61, 98]) 90 34 (x_T98g 14) (x_a98 14) = true := by decide +kernel
theorem x_c98_15 : s_seg y_X (s_num (vP 227)) 272 (y_at [61, 98]) 90 34 (x_T98g 15) (x_a98 15) = true := by decide +kernel
theorem x_c98_16 : s_seg y_X (s_num (vP 227)) 272 (y_at [61, 98]) 90 34 (x_T98g 16) (x_a98 16) = true := by decide +kernel
theorem x_c98_17 : s_seg y_X (s_num (vP 227)) 272 (y_at [61, 98]) 90 34 (x_T98g 17) (x_a98 17) = true := by decide +kernel
theorem x_c98_18 : s_seg y_X (s_num (vP 227)) 272 (y_at [61, 98]) 90 34 (x_T98g 18) (x_a98 18) = true := by decide +kernel
theorem x_c98_19 : s_seg y_X (s_num (vP 227)) 272 (y_at [61, 98]) 90 34 (x_T98g 19) (x_a98 19) = true := by decide +kernel
theorem x_c98_20 : s_seg y_X (s_num (vP 227)) 272 (y_at [61, 98]) 90 34 (x_T98g 20) (x_a98 20) = true := by decide +kernel
theorem x_c98_21 : s_seg y_X (s_num (vP 227)) 272 (y_at [61, 98]) 90 34 (x_T98g 21) (x_a98 21) = true := by decide +kernel
theorem x_c98_22 : s_seg y_X (s_num (vP 227)) 272 (y_at [61, 98]) 90 34 (x_T98g 22) (x_a98 22) = true := by decide +kernel
theorem x_c98_23 : s_seg y_X (s_num (vP 227)) 272 (y_at [61, 98]) 90 34 (x_T98g 23) (x_a98 23) = true := by decide +kernel
theorem x_c98_24 : s_seg y_X (s_num (vP 227)) 272 (y_at [61, 98]) 90 34 (x_T98g 24) (x_a98 24) = true := by decide +kernel
theorem x_c98_25 : s_seg y_X (s_num (vP 227)) 272 (y_at [61, 98]) 90 34 (x_T98g 25) (x_a98 25) = true := by decide +kernel
theorem x_c98 : ∀ i, i < 26 → s_seg y_X (s_num (vP 227)) 272 (y_at [61, 98]) 90 34 (x_T98g i) (x_a98 i) = true := by
  intro i hi
  match i, hi with
  | 0, _ => exact x_c98_0
  | 1, _ => exact x_c98_1
  | 2, _ => exact x_c98_2
  | 3, _ => exact x_c98_3
  | 4, _ => exact x_c98_4
  | 5, _ => exact x_c98_5
  | 6, _ => exact x_c98_6
  | 7, _ => exact x_c98_7
  | 8, _ => exact x_c98_8
  | 9, _ => exact x_c98_9
  | 10, _ => exact x_c98_10
  | 11, _ => exact x_c98_11
  | 12, _ => exact x_c98_12
  | 13, _ => exact x_c98_13
  | 14, _ => exact x_c98_14
  | 15, _ => exact x_c98_15
  | 16, _ => exact x_c98_16
  | 17, _ => exact x_c98_17
  | 18, _ => exact x_c98_18
  | 19, _ => exact x_c98_19
  | 20, _ => exact x_c98_20
  | 21, _ => exact x_c98_21
  | 22, _ => exact x_c98_22
  | 23, _ => exact x_c98_23
  | 24, _ => exact x_c98_24
  | 25, _ => exact x_c98_25
  | i + 26, hi => omega
