/-! Checks. -/
theorem o_292_2 : s_chk0 tab 248 (s_var k_292 32 (vP 2)) w_292_2 4000 = true := by decide +kernel
theorem o_292_2_0 : s_chk1 tab 248 (s_var k_292 32 (vP 2)) w_292_2 4000 2 w_292_2_0 = true := by decide +kernel
theorem o_292_2_1 : s_chk1 tab 248 (s_var k_292 32 (vP 2)) w_292_2 4000 2 w_292_2_1 = true := by decide +kernel
theorem o_292_2_2 : s_chk1 tab 248 (s_var k_292 32 (vP 2)) w_292_2 4000 2 w_292_2_2 = true := by decide +kernel
theorem o_292_2_3 : s_chk1 tab 248 (s_var k_292 32 (vP 2)) w_292_2 4000 2 w_292_2_3 = true := by decide +kernel
theorem o_292_2_4 : s_chk1 tab 248 (s_var k_292 32 (vP 2)) w_292_2 4000 2 w_292_2_4 = true := by decide +kernel
theorem o_292_2_5 : s_chk1 tab 248 (s_var k_292 32 (vP 2)) w_292_2 4000 2 w_292_2_5 = true := by decide +kernel
theorem o_292_2_6 : s_chk1 tab 248 (s_var k_292 32 (vP 2)) w_292_2 4000 2 w_292_2_6 = true := by decide +kernel
theorem o_292_2_7 : s_chk1 tab 248 (s_var k_292 32 (vP 2)) w_292_2 4000 2 w_292_2_7 = true := by decide +kernel
theorem o_292_2_8 : s_chk1 tab 248 (s_var k_292 32 (vP 2)) w_292_2 4000 2 w_292_2_8 = true := by decide +kernel
theorem o_292_2_9 : s_chk1 tab 248 (s_var k_292 32 (vP 2)) w_292_2 4000 2 w_292_2_9 = true := by decide +kernel
theorem o_292_2_10 : s_chk1 tab 248 (s_var k_292 32 (vP 2)) w_292_2 4000 2 w_292_2_10 = true := by decide +kernel
theorem o_292_2_11 : s_chk1 tab 248 (s_var k_292 32 (vP 2)) w_292_2 4000 2 w_292_2_11 = true := by decide +kernel
theorem o_292_2_12 : s_chk1 tab 248 (s_var k_292 32 (vP 2)) w_292_2 4000 2 w_292_2_12 = true := by decide +kernel
theorem o_292_2_13 : s_chk1 tab 248 (s_var k_292 32 (vP 2)) w_292_2 4000 2 w_292_2_13 = true := by decide +kernel
theorem o_292_2_14 : s_chk1 tab 248 (s_var k_292 32 (vP 2)) w_292_2 4000 2 w_292_2_14 = true := by decide +kernel
theorem o_292_2_15 : s_chk1 tab 248 (s_var k_292 32 (vP 2)) w_292_2 4000 2 w_292_2_15 = true := by decide +kernel
theorem o_292_2_16 : s_chk1 tab 248 (s_var k_292 32 (vP 2)) w_292_2 4000 2 w_292_2_16 = true := by decide +kernel
theorem o_292_2_17 : s_chk1 tab 248 (s_var k_292 32 (vP 2)) w_292_2 4000 2 w_292_2_17 = true := by decide +kernel
theorem o_292_2_18 : s_chk1 tab 248 (s_var k_292 32 (vP 2)) w_292_2 4000 2 w_292_2_18 = true := by decide +kernel
theorem o_292_3 : s_chk0 tab 248 (s_var k_292 32 (vP 3)) w_292_3 4000 = true := by decide +kernel
theorem o_292_3_0 : s_chk1 tab 248 (s_var k_292 32 (vP 3)) w_292_3 4000 2 w_292_3_0 = true := by decide +kernel
theorem o_292_3_1 : s_chk1 tab 248 (s_var k_292 32 (vP 3)) w_292_3 4000 2 w_292_3_1 = true := by decide +kernel
theorem o_292_3_2 : s_chk1 tab 248 (s_var k_292 32 (vP 3)) w_292_3 4000 2 w_292_3_2 = true := by decide +kernel
theorem o_292_3_3 : s_chk1 tab 248 (s_var k_292 32 (vP 3)) w_292_3 4000 2 w_292_3_3 = true := by decide +kernel
theorem o_292_3_4 : s_chk1 tab 248 (s_var k_292 32 (vP 3)) w_292_3 4000 2 w_292_3_4 = true := by decide +kernel
theorem o_292_3_5 : s_chk1 tab 248 (s_var k_292 32 (vP 3)) w_292_3 4000 2 w_292_3_5 = true := by decide +kernel
theorem o_292_3_6 : s_chk1 tab 248 (s_var k_292 32 (vP 3)) w_292_3 4000 2 w_292_3_6 = true := by decide +kernel
theorem o_292_3_7 : s_chk1 tab 248 (s_var k_292 32 (vP 3)) w_292_3 4000 2 w_292_3_7 = true := by decide +kernel
theorem o_292_3_8 : s_chk1 tab 248 (s_var k_292 32 (vP 3)) w_292_3 4000 2 w_292_3_8 = true := by decide +kernel
theorem o_292_3_9 : s_chk1 tab 248 (s_var k_292 32 (vP 3)) w_292_3 4000 2 w_292_3_9 = true := by decide +kernel
theorem o_292_3_10 : s_chk1 tab 248 (s_var k_292 32 (vP 3)) w_292_3 4000 2 w_292_3_10 = true := by decide +kernel
theorem o_292_3_11 : s_chk1 tab 248 (s_var k_292 32 (vP 3)) w_292_3 4000 2 w_292_3_11 = true := by decide +kernel
theorem o_292_3_12 : s_chk1 tab 248 (s_var k_292 32 (vP 3)) w_292_3 4000 2 w_292_3_12 = true := by decide +kernel
theorem o_292_3_13 : s_chk1 tab 248 (s_var k_292 32 (vP 3)) w_292_3 4000 2 w_292_3_13 = true := by decide +kernel
theorem o_292_3_14 : s_chk1 tab 248 (s_var k_292 32 (vP 3)) w_292_3 4000 2 w_292_3_14 = true := by decide +kernel
theorem o_292_3_15 : s_chk1 tab 248 (s_var k_292 32 (vP 3)) w_292_3 4000 2 w_292_3_15 = true := by decide +kernel
theorem o_292_3_16 : s_chk1 tab 248 (s_var k_292 32 (vP 3)) w_292_3 4000 2 w_292_3_16 = true := by decide +kernel
theorem o_292_3_17 : s_chk1 tab 248 (s_var k_292 32 (vP 3)) w_292_3 4000 2 w_292_3_17 = true := by decide +kernel
theorem o_292_4 : s_chk0 tab 248 (s_var k_292 32 (vP 4)) w_292_4 4000 = true := by decide +kernel
