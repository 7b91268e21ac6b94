/-! Checks. -/
theorem o_109_6 : s_chk0 tab 88 (s_var k_109 1 (vP 6)) w_109_6 4000 = true := by decide +kernel
theorem o_109_6_0 : s_chk1 tab 88 (s_var k_109 1 (vP 6)) w_109_6 4000 2 w_109_6_0 = true := by decide +kernel
theorem o_109_6_1 : s_chk1 tab 88 (s_var k_109 1 (vP 6)) w_109_6 4000 2 w_109_6_1 = true := by decide +kernel
theorem o_109_6_2 : s_chk1 tab 88 (s_var k_109 1 (vP 6)) w_109_6 4000 2 w_109_6_2 = true := by decide +kernel
theorem o_109_7 : s_chk0 tab 88 (s_var k_109 1 (vP 7)) w_109_7 4000 = true := by decide +kernel
theorem o_109_7_0 : s_chk1 tab 88 (s_var k_109 1 (vP 7)) w_109_7 4000 2 w_109_7_0 = true := by decide +kernel
theorem o_109_7_1 : s_chk1 tab 88 (s_var k_109 1 (vP 7)) w_109_7 4000 2 w_109_7_1 = true := by decide +kernel
theorem o_109_7_2 : s_chk1 tab 88 (s_var k_109 1 (vP 7)) w_109_7 4000 2 w_109_7_2 = true := by decide +kernel
theorem o_109_8 : s_chk0 tab 88 (s_var k_109 1 (vP 8)) w_109_8 4000 = true := by decide +kernel
theorem o_109_8_0 : s_chk1 tab 88 (s_var k_109 1 (vP 8)) w_109_8 4000 2 w_109_8_0 = true := by decide +kernel
theorem o_109_8_1 : s_chk1 tab 88 (s_var k_109 1 (vP 8)) w_109_8 4000 2 w_109_8_1 = true := by decide +kernel
theorem o_109_8_2 : s_chk1 tab 88 (s_var k_109 1 (vP 8)) w_109_8 4000 2 w_109_8_2 = true := by decide +kernel
theorem o_110_0 : s_chk0 tab 99 (s_var k_110 0 (vP 0)) w_110_0 4000 = true := by decide +kernel
theorem o_110_0_0 : s_chk1 tab 99 (s_var k_110 0 (vP 0)) w_110_0 4000 1 w_110_0_0 = true := by decide +kernel
theorem o_110_0_1 : s_chk1 tab 99 (s_var k_110 0 (vP 0)) w_110_0 4000 1 w_110_0_1 = true := by decide +kernel
theorem o_110_1 : s_chk0 tab 99 (s_var k_110 0 (vP 1)) w_110_1 4000 = true := by decide +kernel
theorem o_110_1_0 : s_chk1 tab 99 (s_var k_110 0 (vP 1)) w_110_1 4000 2 w_110_1_0 = true := by decide +kernel
theorem o_110_1_1 : s_chk1 tab 99 (s_var k_110 0 (vP 1)) w_110_1 4000 2 w_110_1_1 = true := by decide +kernel
theorem o_110_2 : s_chk0 tab 99 (s_var k_110 0 (vP 2)) w_110_2 4000 = true := by decide +kernel
theorem o_110_2_0 : s_chk1 tab 99 (s_var k_110 0 (vP 2)) w_110_2 4000 2 w_110_2_0 = true := by decide +kernel
theorem o_110_2_1 : s_chk1 tab 99 (s_var k_110 0 (vP 2)) w_110_2 4000 2 w_110_2_1 = true := by decide +kernel
theorem o_110_2_2 : s_chk1 tab 99 (s_var k_110 0 (vP 2)) w_110_2 4000 2 w_110_2_2 = true := by decide +kernel
theorem o_110_3 : s_chk0 tab 99 (s_var k_110 0 (vP 3)) w_110_3 4000 = true := by decide +kernel
theorem o_110_3_0 : s_chk1 tab 99 (s_var k_110 0 (vP 3)) w_110_3 4000 2 w_110_3_0 = true := by decide +kernel
theorem o_110_3_1 : s_chk1 tab 99 (s_var k_110 0 (vP 3)) w_110_3 4000 2 w_110_3_1 = true := by decide +kernel
theorem o_110_3_2 : s_chk1 tab 99 (s_var k_110 0 (vP 3)) w_110_3 4000 2 w_110_3_2 = true := by decide +kernel
theorem o_110_4 : s_chk0 tab 99 (s_var k_110 0 (vP 4)) w_110_4 4000 = true := by decide +kernel
theorem o_110_4_0 : s_chk1 tab 99 (s_var k_110 0 (vP 4)) w_110_4 4000 2 w_110_4_0 = true := by decide +kernel
theorem o_110_4_1 : s_chk1 tab 99 (s_var k_110 0 (vP 4)) w_110_4 4000 2 w_110_4_1 = true := by decide +kernel
theorem o_110_4_2 : s_chk1 tab 99 (s_var k_110 0 (vP 4)) w_110_4 4000 2 w_110_4_2 = true := by decide +kernel
theorem o_110_5 : s_chk0 tab 99 (s_var k_110 0 (vP 5)) w_110_5 4000 = true := by decide +kernel
theorem o_110_5_0 : s_chk1 tab 99 (s_var k_110 0 (vP 5)) w_110_5 4000 2 w_110_5_0 = true := by decide +kernel
theorem o_110_5_1 : s_chk1 tab 99 (s_var k_110 0 (vP 5)) w_110_5 4000 2 w_110_5_1 = true := by decide +kernel
theorem o_110_5_2 : s_chk1 tab 99 (s_var k_110 0 (vP 5)) w_110_5 4000 2 w_110_5_2 = true := by decide +kernel
theorem o_110_6 : s_chk0 tab 99 (s_var k_110 0 (vP 6)) w_110_6 4000 = true := by decide +kernel
theorem o_110_6_0 : s_chk1 tab 99 (s_var k_110 0 (vP 6)) w_110_6 4000 2 w_110_6_0 = true := by decide +kernel
theorem o_110_6_1 : s_chk1 tab 99 (s_var k_110 0 (vP 6)) w_110_6 4000 2 w_110_6_1 = true := by decide +kernel
theorem o_110_6_2 : s_chk1 tab 99 (s_var k_110 0 (vP 6)) w_110_6 4000 2 w_110_6_2 = true := by decide +kernel
theorem o_110_7 : s_chk0 tab 99 (s_var k_110 0 (vP 7)) w_110_7 4000 = true := by decide +kernel
theorem o_110_7_0 : s_chk1 tab 99 (s_var k_110 0 (vP 7)) w_110_7 4000 2 w_110_7_0 = true := by decide +kernel
