/-! Checks. -/
theorem o_0_41 : s_chk0 tab 292 (s_var k_0 0 (vP 41)) w_0_41 4000 = true := by decide +kernel
theorem o_0_42 : s_chk0 tab 292 (s_var k_0 0 (vP 42)) w_0_42 4000 = true := by decide +kernel
theorem o_0_43 : s_chk0 tab 292 (s_var k_0 0 (vP 43)) w_0_43 4000 = true := by decide +kernel
theorem o_0_44 : s_chk0 tab 292 (s_var k_0 0 (vP 44)) w_0_44 4000 = true := by decide +kernel
theorem o_0_45 : s_chk0 tab 292 (s_var k_0 0 (vP 45)) w_0_45 4000 = true := by decide +kernel
theorem o_0_46 : s_chk0 tab 292 (s_var k_0 0 (vP 46)) w_0_46 4000 = true := by decide +kernel
theorem o_0_47 : s_chk0 tab 292 (s_var k_0 0 (vP 47)) w_0_47 4000 = true := by decide +kernel
theorem o_0_48 : s_chk0 tab 292 (s_var k_0 0 (vP 48)) w_0_48 4000 = true := by decide +kernel
theorem o_0_49 : s_chk0 tab 292 (s_var k_0 0 (vP 49)) w_0_49 4000 = true := by decide +kernel
theorem o_0_50 : s_chk0 tab 292 (s_var k_0 0 (vP 50)) w_0_50 4000 = true := by decide +kernel
theorem o_0_51 : s_chk0 tab 292 (s_var k_0 0 (vP 51)) w_0_51 4000 = true := by decide +kernel
theorem o_0_52 : s_chk0 tab 292 (s_var k_0 0 (vP 52)) w_0_52 4000 = true := by decide +kernel
theorem o_0_53 : s_chk0 tab 292 (s_var k_0 0 (vP 53)) w_0_53 4000 = true := by decide +kernel
theorem o_0_54 : s_chk0 tab 292 (s_var k_0 0 (vP 54)) w_0_54 4000 = true := by decide +kernel
theorem o_0_55 : s_chk0 tab 292 (s_var k_0 0 (vP 55)) w_0_55 4000 = true := by decide +kernel
theorem o_0_56 : s_chk0 tab 292 (s_var k_0 0 (vP 56)) w_0_56 4000 = true := by decide +kernel
theorem o_0_57 : s_chk0 tab 292 (s_var k_0 0 (vP 57)) w_0_57 4000 = true := by decide +kernel
theorem o_0_58 : s_chk0 tab 292 (s_var k_0 0 (vP 58)) w_0_58 4000 = true := by decide +kernel
theorem o_0_59 : s_chk0 tab 292 (s_var k_0 0 (vP 59)) w_0_59 4000 = true := by decide +kernel
theorem o_0_60 : s_chk0 tab 292 (s_var k_0 0 (vP 60)) w_0_60 4000 = true := by decide +kernel
theorem o_0_61 : s_chk0 tab 292 (s_var k_0 0 (vP 61)) w_0_61 4000 = true := by decide +kernel
theorem o_0_62 : s_chk0 tab 292 (s_var k_0 0 (vP 62)) w_0_62 4000 = true := by decide +kernel
theorem o_0_63 : s_chk0 tab 292 (s_var k_0 0 (vP 63)) w_0_63 4000 = true := by decide +kernel
/-- ntz -/
theorem o_1 : s_chk0 tab 292 k_1 u_1 4000 = true := by decide +kernel
/-- bitc -/
theorem o_2 : s_chk0 tab 293 k_2 u_2 4000 = true := by decide +kernel
/-- X0_readDigits -/
theorem o_3 : s_chk0 tab 3 k_3 u_3 4000 = true := by decide +kernel
theorem o_3_0 : s_chk1 tab 3 k_3 u_3 4000 1 u_3_0 = true := by decide +kernel
/-- X0_readPlaces -/
theorem o_4 : s_chk0 tab 2 k_4 u_4 4000 = true := by decide +kernel
theorem o_4_0 : s_chk1 tab 2 k_4 u_4 4000 1 u_4_0 = true := by decide +kernel
/-- X0_drawOne -/
theorem o_5 : s_chk0 tab 5 k_5 u_5 4000 = true := by decide +kernel
theorem o_5_0 : s_chk1 tab 5 k_5 u_5 4000 1 u_5_0 = true := by decide +kernel
/-- X1_sum -/
theorem o_6 : s_chk0 tab 8 k_6 u_6 4000 = true := by decide +kernel
theorem o_6_0 : s_chk1 tab 8 k_6 u_6 4000 1 u_6_0 = true := by decide +kernel
/-- X1_takeOut -/
theorem o_7 : s_chk0 tab 10 k_7 u_7 4000 = true := by decide +kernel
theorem o_7_0 : s_chk1 tab 10 k_7 u_7 4000 1 u_7_0 = true := by decide +kernel
/-- X1_reachSums -/
theorem o_8 : s_chk0 tab 12 k_8 u_8 4000 = true := by decide +kernel
theorem o_8_0 : s_chk1 tab 12 k_8 u_8 4000 4 u_8_0 = true := by decide +kernel
theorem o_8_1 : s_chk1 tab 12 k_8 u_8 4000 4 u_8_1 = true := by decide +kernel
theorem o_8_2 : s_chk1 tab 12 k_8 u_8 4000 4 u_8_2 = true := by decide +kernel
/-- X1_leastBits -/
theorem o_9 : s_chk0 tab 13 k_9 u_9 4000 = true := by decide +kernel
