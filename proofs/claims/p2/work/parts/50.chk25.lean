/-! Checks. -/
theorem o_292_6_5 : s_chk1 tab 248 (s_var k_292 32 (vP 6)) w_292_6 4000 2 w_292_6_5 = true := by decide +kernel
theorem o_292_6_6 : s_chk1 tab 248 (s_var k_292 32 (vP 6)) w_292_6 4000 2 w_292_6_6 = true := by decide +kernel
theorem o_292_6_7 : s_chk1 tab 248 (s_var k_292 32 (vP 6)) w_292_6 4000 2 w_292_6_7 = true := by decide +kernel
theorem o_292_6_8 : s_chk1 tab 248 (s_var k_292 32 (vP 6)) w_292_6 4000 2 w_292_6_8 = true := by decide +kernel
theorem o_292_6_9 : s_chk1 tab 248 (s_var k_292 32 (vP 6)) w_292_6 4000 2 w_292_6_9 = true := by decide +kernel
theorem o_292_6_10 : s_chk1 tab 248 (s_var k_292 32 (vP 6)) w_292_6 4000 2 w_292_6_10 = true := by decide +kernel
theorem o_292_6_11 : s_chk1 tab 248 (s_var k_292 32 (vP 6)) w_292_6 4000 2 w_292_6_11 = true := by decide +kernel
theorem o_292_6_12 : s_chk1 tab 248 (s_var k_292 32 (vP 6)) w_292_6 4000 2 w_292_6_12 = true := by decide +kernel
theorem o_292_6_13 : s_chk1 tab 248 (s_var k_292 32 (vP 6)) w_292_6 4000 2 w_292_6_13 = true := by decide +kernel
theorem o_292_6_14 : s_chk1 tab 248 (s_var k_292 32 (vP 6)) w_292_6 4000 2 w_292_6_14 = true := by decide +kernel
theorem o_292_7 : s_chk0 tab 248 (s_var k_292 32 (vP 7)) w_292_7 4000 = true := by decide +kernel
theorem o_292_7_0 : s_chk1 tab 248 (s_var k_292 32 (vP 7)) w_292_7 4000 2 w_292_7_0 = true := by decide +kernel
theorem o_292_7_1 : s_chk1 tab 248 (s_var k_292 32 (vP 7)) w_292_7 4000 2 w_292_7_1 = true := by decide +kernel
theorem o_292_7_2 : s_chk1 tab 248 (s_var k_292 32 (vP 7)) w_292_7 4000 2 w_292_7_2 = true := by decide +kernel
theorem o_292_7_3 : s_chk1 tab 248 (s_var k_292 32 (vP 7)) w_292_7 4000 2 w_292_7_3 = true := by decide +kernel
theorem o_292_7_4 : s_chk1 tab 248 (s_var k_292 32 (vP 7)) w_292_7 4000 2 w_292_7_4 = true := by decide +kernel
theorem o_292_7_5 : s_chk1 tab 248 (s_var k_292 32 (vP 7)) w_292_7 4000 2 w_292_7_5 = true := by decide +kernel
theorem o_292_7_6 : s_chk1 tab 248 (s_var k_292 32 (vP 7)) w_292_7 4000 2 w_292_7_6 = true := by decide +kernel
theorem o_292_7_7 : s_chk1 tab 248 (s_var k_292 32 (vP 7)) w_292_7 4000 2 w_292_7_7 = true := by decide +kernel
theorem o_292_7_8 : s_chk1 tab 248 (s_var k_292 32 (vP 7)) w_292_7 4000 2 w_292_7_8 = true := by decide +kernel
theorem o_292_7_9 : s_chk1 tab 248 (s_var k_292 32 (vP 7)) w_292_7 4000 2 w_292_7_9 = true := by decide +kernel
theorem o_292_7_10 : s_chk1 tab 248 (s_var k_292 32 (vP 7)) w_292_7 4000 2 w_292_7_10 = true := by decide +kernel
theorem o_292_7_11 : s_chk1 tab 248 (s_var k_292 32 (vP 7)) w_292_7 4000 2 w_292_7_11 = true := by decide +kernel
theorem o_292_7_12 : s_chk1 tab 248 (s_var k_292 32 (vP 7)) w_292_7 4000 2 w_292_7_12 = true := by decide +kernel
theorem o_292_7_13 : s_chk1 tab 248 (s_var k_292 32 (vP 7)) w_292_7 4000 2 w_292_7_13 = true := by decide +kernel
theorem o_292_8 : s_chk0 tab 248 (s_var k_292 32 (vP 8)) w_292_8 4000 = true := by decide +kernel
theorem o_292_8_0 : s_chk1 tab 248 (s_var k_292 32 (vP 8)) w_292_8 4000 2 w_292_8_0 = true := by decide +kernel
theorem o_292_8_1 : s_chk1 tab 248 (s_var k_292 32 (vP 8)) w_292_8 4000 2 w_292_8_1 = true := by decide +kernel
theorem o_292_8_2 : s_chk1 tab 248 (s_var k_292 32 (vP 8)) w_292_8 4000 2 w_292_8_2 = true := by decide +kernel
theorem o_292_8_3 : s_chk1 tab 248 (s_var k_292 32 (vP 8)) w_292_8 4000 2 w_292_8_3 = true := by decide +kernel
theorem o_292_8_4 : s_chk1 tab 248 (s_var k_292 32 (vP 8)) w_292_8 4000 2 w_292_8_4 = true := by decide +kernel
theorem o_292_8_5 : s_chk1 tab 248 (s_var k_292 32 (vP 8)) w_292_8 4000 2 w_292_8_5 = true := by decide +kernel
theorem o_292_8_6 : s_chk1 tab 248 (s_var k_292 32 (vP 8)) w_292_8 4000 2 w_292_8_6 = true := by decide +kernel
theorem o_292_8_7 : s_chk1 tab 248 (s_var k_292 32 (vP 8)) w_292_8 4000 2 w_292_8_7 = true := by decide +kernel
theorem o_292_8_8 : s_chk1 tab 248 (s_var k_292 32 (vP 8)) w_292_8 4000 2 w_292_8_8 = true := by decide +kernel
theorem o_292_8_9 : s_chk1 tab 248 (s_var k_292 32 (vP 8)) w_292_8 4000 2 w_292_8_9 = true := by decide +kernel
theorem o_292_8_10 : s_chk1 tab 248 (s_var k_292 32 (vP 8)) w_292_8 4000 2 w_292_8_10 = true := by decide +kernel
theorem o_292_8_11 : s_chk1 tab 248 (s_var k_292 32 (vP 8)) w_292_8 4000 2 w_292_8_11 = true := by decide +kernel
theorem o_292_8_12 : s_chk1 tab 248 (s_var k_292 32 (vP 8)) w_292_8 4000 2 w_292_8_12 = true := by decide +kernel
theorem o_292_9 : s_chk0 tab 248 (s_var k_292 32 (vP 9)) w_292_9 4000 = true := by decide +kernel
