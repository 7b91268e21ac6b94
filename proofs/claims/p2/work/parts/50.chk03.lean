/-! Checks. -/
theorem o_34_0 : s_chk1 tab 53 k_34 u_34 4000 1 u_34_0 = true := by decide +kernel
/-- X5_readSum@1 -/
theorem o_35 : s_chk0 tab 53 k_35 u_35 4000 = true := by decide +kernel
theorem o_35_0 : s_chk1 tab 53 k_35 u_35 4000 1 u_35_0 = true := by decide +kernel
/-- X5_readSum@0 -/
theorem o_36 : s_chk0 tab 53 k_36 u_36 4000 = true := by decide +kernel
theorem o_36_0 : s_chk1 tab 53 k_36 u_36 4000 1 u_36_0 = true := by decide +kernel
/-- X5_readExpression@4 -/
theorem o_37 : s_chk0 tab 52 k_37 u_37 4000 = true := by decide +kernel
/-- X5_readExpression@3 -/
theorem o_38 : s_chk0 tab 52 k_38 u_38 4000 = true := by decide +kernel
/-- X5_readExpression@2 -/
theorem o_39 : s_chk0 tab 52 k_39 u_39 4000 = true := by decide +kernel
/-- X5_readExpression@1 -/
theorem o_40 : s_chk0 tab 52 k_40 u_40 4000 = true := by decide +kernel
/-- X5_readExpression@0 -/
theorem o_41 : s_chk0 tab 52 k_41 u_41 4000 = true := by decide +kernel
/-- X5_valueFor -/
theorem o_43 : s_chk0 tab 58 k_43 u_43 4000 = true := by decide +kernel
theorem o_43_0 : s_chk1 tab 58 k_43 u_43 4000 1 u_43_0 = true := by decide +kernel
/-- X2_mark -/
theorem o_44 : s_chk0 tab 16 k_44 u_44 4000 = true := by decide +kernel
/-- X2_bringBack -/
theorem o_45 : s_chk0 tab 19 k_45 u_45 4000 = true := by decide +kernel
/-- X2_bringBackKept -/
theorem o_46 : s_chk0 tab 23 k_46 u_46 4000 = true := by decide +kernel
/-- X7_append -/
theorem o_47 : s_chk0 tab 63 k_47 u_47 4000 = true := by decide +kernel
/-- X8_firstLongest -/
theorem o_48 : s_chk0 tab 76 k_48 u_48 4000 = true := by decide +kernel
theorem o_48_0 : s_chk1 tab 76 k_48 u_48 4000 1 u_48_0 = true := by decide +kernel
/-- X8_firstShortest -/
theorem o_49 : s_chk0 tab 77 k_49 u_49 4000 = true := by decide +kernel
theorem o_49_0 : s_chk1 tab 77 k_49 u_49 4000 1 u_49_0 = true := by decide +kernel
/-- X8_tallyLaws -/
theorem o_50 : s_chk0 tab 78 k_50 u_50 4000 = true := by decide +kernel
theorem o_50_0 : s_chk1 tab 78 k_50 u_50 4000 4 u_50_0 = true := by decide +kernel
theorem o_50_1 : s_chk1 tab 78 k_50 u_50 4000 4 u_50_1 = true := by decide +kernel
theorem o_50_2 : s_chk1 tab 78 k_50 u_50 4000 4 u_50_2 = true := by decide +kernel
/-- X8_firstMostTallied -/
theorem o_51 : s_chk0 tab 79 k_51 u_51 4000 = true := by decide +kernel
theorem o_51_0 : s_chk1 tab 79 k_51 u_51 4000 1 u_51_0 = true := by decide +kernel
/-- X8_countTallied -/
theorem o_52 : s_chk0 tab 80 k_52 u_52 4000 = true := by decide +kernel
theorem o_52_0 : s_chk1 tab 80 k_52 u_52 4000 1 u_52_0 = true := by decide +kernel
/-- X8_countServed -/
theorem o_53 : s_chk0 tab 82 k_53 u_53 4000 = true := by decide +kernel
theorem o_53_0 : s_chk1 tab 82 k_53 u_53 4000 1 u_53_0 = true := by decide +kernel
/-- X8_firstUnserved -/
theorem o_54 : s_chk0 tab 83 k_54 u_54 4000 = true := by decide +kernel
theorem o_54_0 : s_chk1 tab 83 k_54 u_54 4000 1 u_54_0 = true := by decide +kernel
/-- X8_cheapestStep -/
theorem o_55 : s_chk0 tab 86 k_55 u_55 4000 = true := by decide +kernel
theorem o_55_0 : s_chk1 tab 86 k_55 u_55 4000 1 u_55_0 = true := by decide +kernel
/-- X8_planCheapest -/
theorem o_56 : s_chk0 tab 84 k_56 u_56 4000 = true := by decide +kernel
theorem o_56_0 : s_chk1 tab 84 k_56 u_56 4000 4 u_56_0 = true := by decide +kernel
theorem o_56_1 : s_chk1 tab 84 k_56 u_56 4000 4 u_56_1 = true := by decide +kernel
theorem o_56_2 : s_chk1 tab 84 k_56 u_56 4000 4 u_56_2 = true := by decide +kernel
theorem o_56_3 : s_chk1 tab 84 k_56 u_56 4000 4 u_56_3 = true := by decide +kernel
/-- X8_billPlain -/
theorem o_57 : s_chk0 tab 87 k_57 u_57 4000 = true := by decide +kernel
