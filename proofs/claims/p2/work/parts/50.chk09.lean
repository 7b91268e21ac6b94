/-! Checks. -/
theorem o_101_0 : s_chk1 tab 104 k_101 u_101 4000 2 u_101_0 = true := by decide +kernel
theorem o_101_1 : s_chk1 tab 104 k_101 u_101 4000 2 u_101_1 = true := by decide +kernel
/-- X10_readActs -/
theorem o_102 : s_chk0 tab 107 k_102 u_102 4000 = true := by decide +kernel
theorem o_102_0 : s_chk1 tab 107 k_102 u_102 4000 1 u_102_0 = true := by decide +kernel
/-- X11_lawFor -/
theorem o_103 : s_chk0 tab 170 k_103 u_103 4000 = true := by decide +kernel
/-- X11_lookAhead -/
theorem o_104 : s_chk0 tab 180 k_104 u_104 4000 = true := by decide +kernel
theorem o_104_0 : s_chk1 tab 180 k_104 u_104 4000 1 u_104_0 = true := by decide +kernel
/-- X11_passWeeks -/
theorem o_105 : s_chk0 tab 175 k_105 u_105 4000 = true := by decide +kernel
theorem o_105_0 : s_chk1 tab 175 k_105 u_105 4000 3 u_105_0 = true := by decide +kernel
theorem o_105_1 : s_chk1 tab 175 k_105 u_105 4000 3 u_105_1 = true := by decide +kernel
/-- X11_readWay -/
theorem o_106 : s_chk0 tab 181 k_106 u_106 4000 = true := by decide +kernel
theorem o_106_0 : s_chk1 tab 181 k_106 u_106 4000 1 u_106_0 = true := by decide +kernel
/-- X11_lagExplains -/
theorem o_107 : s_chk0 tab 183 k_107 u_107 4000 = true := by decide +kernel
theorem o_107_0 : s_chk1 tab 183 k_107 u_107 4000 1 u_107_0 = true := by decide +kernel
/-- X11_heightExplains -/
theorem o_108 : s_chk0 tab 184 k_108 u_108 4000 = true := by decide +kernel
theorem o_108_0 : s_chk1 tab 184 k_108 u_108 4000 1 u_108_0 = true := by decide +kernel
theorem o_109_0 : s_chk0 tab 88 (s_var k_109 1 (vP 0)) w_109_0 4000 = true := by decide +kernel
theorem o_109_0_0 : s_chk1 tab 88 (s_var k_109 1 (vP 0)) w_109_0 4000 2 w_109_0_0 = true := by decide +kernel
theorem o_109_0_1 : s_chk1 tab 88 (s_var k_109 1 (vP 0)) w_109_0 4000 2 w_109_0_1 = true := by decide +kernel
theorem o_109_0_2 : s_chk1 tab 88 (s_var k_109 1 (vP 0)) w_109_0 4000 2 w_109_0_2 = true := by decide +kernel
theorem o_109_1 : s_chk0 tab 88 (s_var k_109 1 (vP 1)) w_109_1 4000 = true := by decide +kernel
theorem o_109_1_0 : s_chk1 tab 88 (s_var k_109 1 (vP 1)) w_109_1 4000 2 w_109_1_0 = true := by decide +kernel
theorem o_109_1_1 : s_chk1 tab 88 (s_var k_109 1 (vP 1)) w_109_1 4000 2 w_109_1_1 = true := by decide +kernel
theorem o_109_1_2 : s_chk1 tab 88 (s_var k_109 1 (vP 1)) w_109_1 4000 2 w_109_1_2 = true := by decide +kernel
theorem o_109_2 : s_chk0 tab 88 (s_var k_109 1 (vP 2)) w_109_2 4000 = true := by decide +kernel
theorem o_109_2_0 : s_chk1 tab 88 (s_var k_109 1 (vP 2)) w_109_2 4000 2 w_109_2_0 = true := by decide +kernel
theorem o_109_2_1 : s_chk1 tab 88 (s_var k_109 1 (vP 2)) w_109_2 4000 2 w_109_2_1 = true := by decide +kernel
theorem o_109_2_2 : s_chk1 tab 88 (s_var k_109 1 (vP 2)) w_109_2 4000 2 w_109_2_2 = true := by decide +kernel
theorem o_109_3 : s_chk0 tab 88 (s_var k_109 1 (vP 3)) w_109_3 4000 = true := by decide +kernel
theorem o_109_3_0 : s_chk1 tab 88 (s_var k_109 1 (vP 3)) w_109_3 4000 2 w_109_3_0 = true := by decide +kernel
theorem o_109_3_1 : s_chk1 tab 88 (s_var k_109 1 (vP 3)) w_109_3 4000 2 w_109_3_1 = true := by decide +kernel
theorem o_109_3_2 : s_chk1 tab 88 (s_var k_109 1 (vP 3)) w_109_3 4000 2 w_109_3_2 = true := by decide +kernel
theorem o_109_4 : s_chk0 tab 88 (s_var k_109 1 (vP 4)) w_109_4 4000 = true := by decide +kernel
theorem o_109_4_0 : s_chk1 tab 88 (s_var k_109 1 (vP 4)) w_109_4 4000 2 w_109_4_0 = true := by decide +kernel
theorem o_109_4_1 : s_chk1 tab 88 (s_var k_109 1 (vP 4)) w_109_4 4000 2 w_109_4_1 = true := by decide +kernel
theorem o_109_4_2 : s_chk1 tab 88 (s_var k_109 1 (vP 4)) w_109_4 4000 2 w_109_4_2 = true := by decide +kernel
theorem o_109_5 : s_chk0 tab 88 (s_var k_109 1 (vP 5)) w_109_5 4000 = true := by decide +kernel
theorem o_109_5_0 : s_chk1 tab 88 (s_var k_109 1 (vP 5)) w_109_5 4000 2 w_109_5_0 = true := by decide +kernel
theorem o_109_5_1 : s_chk1 tab 88 (s_var k_109 1 (vP 5)) w_109_5 4000 2 w_109_5_1 = true := by decide +kernel
theorem o_109_5_2 : s_chk1 tab 88 (s_var k_109 1 (vP 5)) w_109_5 4000 2 w_109_5_2 = true := by decide +kernel
