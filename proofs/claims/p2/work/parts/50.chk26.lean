/-! Checks. -/
theorem o_292_9_0 : s_chk1 tab 248 (s_var k_292 32 (vP 9)) w_292_9 4000 2 w_292_9_0 = true := by decide +kernel
theorem o_292_9_1 : s_chk1 tab 248 (s_var k_292 32 (vP 9)) w_292_9 4000 2 w_292_9_1 = true := by decide +kernel
theorem o_292_9_2 : s_chk1 tab 248 (s_var k_292 32 (vP 9)) w_292_9 4000 2 w_292_9_2 = true := by decide +kernel
theorem o_292_9_3 : s_chk1 tab 248 (s_var k_292 32 (vP 9)) w_292_9 4000 2 w_292_9_3 = true := by decide +kernel
theorem o_292_9_4 : s_chk1 tab 248 (s_var k_292 32 (vP 9)) w_292_9 4000 2 w_292_9_4 = true := by decide +kernel
theorem o_292_9_5 : s_chk1 tab 248 (s_var k_292 32 (vP 9)) w_292_9 4000 2 w_292_9_5 = true := by decide +kernel
theorem o_292_9_6 : s_chk1 tab 248 (s_var k_292 32 (vP 9)) w_292_9 4000 2 w_292_9_6 = true := by decide +kernel
theorem o_292_9_7 : s_chk1 tab 248 (s_var k_292 32 (vP 9)) w_292_9 4000 2 w_292_9_7 = true := by decide +kernel
theorem o_292_9_8 : s_chk1 tab 248 (s_var k_292 32 (vP 9)) w_292_9 4000 2 w_292_9_8 = true := by decide +kernel
theorem o_292_9_9 : s_chk1 tab 248 (s_var k_292 32 (vP 9)) w_292_9 4000 2 w_292_9_9 = true := by decide +kernel
theorem o_292_9_10 : s_chk1 tab 248 (s_var k_292 32 (vP 9)) w_292_9 4000 2 w_292_9_10 = true := by decide +kernel
theorem o_292_9_11 : s_chk1 tab 248 (s_var k_292 32 (vP 9)) w_292_9 4000 2 w_292_9_11 = true := by decide +kernel
theorem o_292_10 : s_chk0 tab 248 (s_var k_292 32 (vP 10)) w_292_10 4000 = true := by decide +kernel
theorem o_292_10_0 : s_chk1 tab 248 (s_var k_292 32 (vP 10)) w_292_10 4000 2 w_292_10_0 = true := by decide +kernel
theorem o_292_10_1 : s_chk1 tab 248 (s_var k_292 32 (vP 10)) w_292_10 4000 2 w_292_10_1 = true := by decide +kernel
theorem o_292_10_2 : s_chk1 tab 248 (s_var k_292 32 (vP 10)) w_292_10 4000 2 w_292_10_2 = true := by decide +kernel
theorem o_292_10_3 : s_chk1 tab 248 (s_var k_292 32 (vP 10)) w_292_10 4000 2 w_292_10_3 = true := by decide +kernel
theorem o_292_10_4 : s_chk1 tab 248 (s_var k_292 32 (vP 10)) w_292_10 4000 2 w_292_10_4 = true := by decide +kernel
theorem o_292_10_5 : s_chk1 tab 248 (s_var k_292 32 (vP 10)) w_292_10 4000 2 w_292_10_5 = true := by decide +kernel
theorem o_292_10_6 : s_chk1 tab 248 (s_var k_292 32 (vP 10)) w_292_10 4000 2 w_292_10_6 = true := by decide +kernel
theorem o_292_10_7 : s_chk1 tab 248 (s_var k_292 32 (vP 10)) w_292_10 4000 2 w_292_10_7 = true := by decide +kernel
theorem o_292_10_8 : s_chk1 tab 248 (s_var k_292 32 (vP 10)) w_292_10 4000 2 w_292_10_8 = true := by decide +kernel
theorem o_292_10_9 : s_chk1 tab 248 (s_var k_292 32 (vP 10)) w_292_10 4000 2 w_292_10_9 = true := by decide +kernel
theorem o_292_10_10 : s_chk1 tab 248 (s_var k_292 32 (vP 10)) w_292_10 4000 2 w_292_10_10 = true := by decide +kernel
theorem o_292_11 : s_chk0 tab 248 (s_var k_292 32 (vP 11)) w_292_11 4000 = true := by decide +kernel
theorem o_292_11_0 : s_chk1 tab 248 (s_var k_292 32 (vP 11)) w_292_11 4000 2 w_292_11_0 = true := by decide +kernel
theorem o_292_11_1 : s_chk1 tab 248 (s_var k_292 32 (vP 11)) w_292_11 4000 2 w_292_11_1 = true := by decide +kernel
theorem o_292_11_2 : s_chk1 tab 248 (s_var k_292 32 (vP 11)) w_292_11 4000 2 w_292_11_2 = true := by decide +kernel
theorem o_292_11_3 : s_chk1 tab 248 (s_var k_292 32 (vP 11)) w_292_11 4000 2 w_292_11_3 = true := by decide +kernel
theorem o_292_11_4 : s_chk1 tab 248 (s_var k_292 32 (vP 11)) w_292_11 4000 2 w_292_11_4 = true := by decide +kernel
theorem o_292_11_5 : s_chk1 tab 248 (s_var k_292 32 (vP 11)) w_292_11 4000 2 w_292_11_5 = true := by decide +kernel
theorem o_292_11_6 : s_chk1 tab 248 (s_var k_292 32 (vP 11)) w_292_11 4000 2 w_292_11_6 = true := by decide +kernel
theorem o_292_11_7 : s_chk1 tab 248 (s_var k_292 32 (vP 11)) w_292_11 4000 2 w_292_11_7 = true := by decide +kernel
theorem o_292_11_8 : s_chk1 tab 248 (s_var k_292 32 (vP 11)) w_292_11 4000 2 w_292_11_8 = true := by decide +kernel
theorem o_292_11_9 : s_chk1 tab 248 (s_var k_292 32 (vP 11)) w_292_11 4000 2 w_292_11_9 = true := by decide +kernel
theorem o_292_12 : s_chk0 tab 248 (s_var k_292 32 (vP 12)) w_292_12 4000 = true := by decide +kernel
theorem o_292_12_0 : s_chk1 tab 248 (s_var k_292 32 (vP 12)) w_292_12 4000 2 w_292_12_0 = true := by decide +kernel
theorem o_292_12_1 : s_chk1 tab 248 (s_var k_292 32 (vP 12)) w_292_12 4000 2 w_292_12_1 = true := by decide +kernel
theorem o_292_12_2 : s_chk1 tab 248 (s_var k_292 32 (vP 12)) w_292_12 4000 2 w_292_12_2 = true := by decide +kernel
theorem o_292_12_3 : s_chk1 tab 248 (s_var k_292 32 (vP 12)) w_292_12 4000 2 w_292_12_3 = true := by decide +kernel
