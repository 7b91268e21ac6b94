/-! Checks. -/
theorem o_292_12_4 : s_chk1 tab 248 (s_var k_292 32 (vP 12)) w_292_12 4000 2 w_292_12_4 = true := by decide +kernel
theorem o_292_12_5 : s_chk1 tab 248 (s_var k_292 32 (vP 12)) w_292_12 4000 2 w_292_12_5 = true := by decide +kernel
theorem o_292_12_6 : s_chk1 tab 248 (s_var k_292 32 (vP 12)) w_292_12 4000 2 w_292_12_6 = true := by decide +kernel
theorem o_292_12_7 : s_chk1 tab 248 (s_var k_292 32 (vP 12)) w_292_12 4000 2 w_292_12_7 = true := by decide +kernel
theorem o_292_12_8 : s_chk1 tab 248 (s_var k_292 32 (vP 12)) w_292_12 4000 2 w_292_12_8 = true := by decide +kernel
theorem o_292_13 : s_chk0 tab 248 (s_var k_292 32 (vP 13)) w_292_13 4000 = true := by decide +kernel
theorem o_292_13_0 : s_chk1 tab 248 (s_var k_292 32 (vP 13)) w_292_13 4000 2 w_292_13_0 = true := by decide +kernel
theorem o_292_13_1 : s_chk1 tab 248 (s_var k_292 32 (vP 13)) w_292_13 4000 2 w_292_13_1 = true := by decide +kernel
theorem o_292_13_2 : s_chk1 tab 248 (s_var k_292 32 (vP 13)) w_292_13 4000 2 w_292_13_2 = true := by decide +kernel
theorem o_292_13_3 : s_chk1 tab 248 (s_var k_292 32 (vP 13)) w_292_13 4000 2 w_292_13_3 = true := by decide +kernel
theorem o_292_13_4 : s_chk1 tab 248 (s_var k_292 32 (vP 13)) w_292_13 4000 2 w_292_13_4 = true := by decide +kernel
theorem o_292_13_5 : s_chk1 tab 248 (s_var k_292 32 (vP 13)) w_292_13 4000 2 w_292_13_5 = true := by decide +kernel
theorem o_292_13_6 : s_chk1 tab 248 (s_var k_292 32 (vP 13)) w_292_13 4000 2 w_292_13_6 = true := by decide +kernel
theorem o_292_13_7 : s_chk1 tab 248 (s_var k_292 32 (vP 13)) w_292_13 4000 2 w_292_13_7 = true := by decide +kernel
theorem o_292_14 : s_chk0 tab 248 (s_var k_292 32 (vP 14)) w_292_14 4000 = true := by decide +kernel
theorem o_292_14_0 : s_chk1 tab 248 (s_var k_292 32 (vP 14)) w_292_14 4000 2 w_292_14_0 = true := by decide +kernel
theorem o_292_14_1 : s_chk1 tab 248 (s_var k_292 32 (vP 14)) w_292_14 4000 2 w_292_14_1 = true := by decide +kernel
theorem o_292_14_2 : s_chk1 tab 248 (s_var k_292 32 (vP 14)) w_292_14 4000 2 w_292_14_2 = true := by decide +kernel
theorem o_292_14_3 : s_chk1 tab 248 (s_var k_292 32 (vP 14)) w_292_14 4000 2 w_292_14_3 = true := by decide +kernel
theorem o_292_14_4 : s_chk1 tab 248 (s_var k_292 32 (vP 14)) w_292_14 4000 2 w_292_14_4 = true := by decide +kernel
theorem o_292_14_5 : s_chk1 tab 248 (s_var k_292 32 (vP 14)) w_292_14 4000 2 w_292_14_5 = true := by decide +kernel
theorem o_292_14_6 : s_chk1 tab 248 (s_var k_292 32 (vP 14)) w_292_14 4000 2 w_292_14_6 = true := by decide +kernel
theorem o_292_15 : s_chk0 tab 248 (s_var k_292 32 (vP 15)) w_292_15 4000 = true := by decide +kernel
theorem o_292_15_0 : s_chk1 tab 248 (s_var k_292 32 (vP 15)) w_292_15 4000 2 w_292_15_0 = true := by decide +kernel
theorem o_292_15_1 : s_chk1 tab 248 (s_var k_292 32 (vP 15)) w_292_15 4000 2 w_292_15_1 = true := by decide +kernel
theorem o_292_15_2 : s_chk1 tab 248 (s_var k_292 32 (vP 15)) w_292_15 4000 2 w_292_15_2 = true := by decide +kernel
theorem o_292_15_3 : s_chk1 tab 248 (s_var k_292 32 (vP 15)) w_292_15 4000 2 w_292_15_3 = true := by decide +kernel
theorem o_292_15_4 : s_chk1 tab 248 (s_var k_292 32 (vP 15)) w_292_15 4000 2 w_292_15_4 = true := by decide +kernel
theorem o_292_15_5 : s_chk1 tab 248 (s_var k_292 32 (vP 15)) w_292_15 4000 2 w_292_15_5 = true := by decide +kernel
theorem o_292_16 : s_chk0 tab 248 (s_var k_292 32 (vP 16)) w_292_16 4000 = true := by decide +kernel
theorem o_292_16_0 : s_chk1 tab 248 (s_var k_292 32 (vP 16)) w_292_16 4000 2 w_292_16_0 = true := by decide +kernel
theorem o_292_16_1 : s_chk1 tab 248 (s_var k_292 32 (vP 16)) w_292_16 4000 2 w_292_16_1 = true := by decide +kernel
theorem o_292_16_2 : s_chk1 tab 248 (s_var k_292 32 (vP 16)) w_292_16 4000 2 w_292_16_2 = true := by decide +kernel
theorem o_292_16_3 : s_chk1 tab 248 (s_var k_292 32 (vP 16)) w_292_16 4000 2 w_292_16_3 = true := by decide +kernel
theorem o_292_16_4 : s_chk1 tab 248 (s_var k_292 32 (vP 16)) w_292_16 4000 2 w_292_16_4 = true := by decide +kernel
theorem o_292_17 : s_chk0 tab 248 (s_var k_292 32 (vP 17)) w_292_17 4000 = true := by decide +kernel
theorem o_292_17_0 : s_chk1 tab 248 (s_var k_292 32 (vP 17)) w_292_17 4000 2 w_292_17_0 = true := by decide +kernel
theorem o_292_17_1 : s_chk1 tab 248 (s_var k_292 32 (vP 17)) w_292_17 4000 2 w_292_17_1 = true := by decide +kernel
theorem o_292_17_2 : s_chk1 tab 248 (s_var k_292 32 (vP 17)) w_292_17 4000 2 w_292_17_2 = true := by decide +kernel
theorem o_292_17_3 : s_chk1 tab 248 (s_var k_292 32 (vP 17)) w_292_17 4000 2 w_292_17_3 = true := by decide +kernel
