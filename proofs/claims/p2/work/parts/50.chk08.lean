/-! Checks. -/
/-- X9_firstLeastLate-5 -/
theorem o_93 : s_chk0 tab 101 k_93 u_93 4000 = true := by decide +kernel
/-- X9_firstLeastLate@6 -/
theorem o_94 : s_chk0 tab 101 k_94 u_94 4000 = true := by decide +kernel
theorem o_94_0 : s_chk1 tab 101 k_94 u_94 4000 1 u_94_0 = true := by decide +kernel
theorem o_94_1 : s_chk1 tab 101 k_94 u_94 4000 1 u_94_1 = true := by decide +kernel
theorem o_94_2 : s_chk1 tab 101 k_94 u_94 4000 1 u_94_2 = true := by decide +kernel
theorem o_94_3 : s_chk1 tab 101 k_94 u_94 4000 1 u_94_3 = true := by decide +kernel
theorem o_94_4 : s_chk1 tab 101 k_94 u_94 4000 1 u_94_4 = true := by decide +kernel
theorem o_94_5 : s_chk1 tab 101 k_94 u_94 4000 1 u_94_5 = true := by decide +kernel
theorem o_94_6 : s_chk1 tab 101 k_94 u_94 4000 1 u_94_6 = true := by decide +kernel
theorem o_94_7 : s_chk1 tab 101 k_94 u_94 4000 1 u_94_7 = true := by decide +kernel
theorem o_94_8 : s_chk1 tab 101 k_94 u_94 4000 1 u_94_8 = true := by decide +kernel
theorem o_94_9 : s_chk1 tab 101 k_94 u_94 4000 1 u_94_9 = true := by decide +kernel
theorem o_94_10 : s_chk1 tab 101 k_94 u_94 4000 1 u_94_10 = true := by decide +kernel
theorem o_94_11 : s_chk1 tab 101 k_94 u_94 4000 1 u_94_11 = true := by decide +kernel
theorem o_94_12 : s_chk1 tab 101 k_94 u_94 4000 1 u_94_12 = true := by decide +kernel
/-- X9_firstLeastLate-6 -/
theorem o_95 : s_chk0 tab 101 k_95 u_95 4000 = true := by decide +kernel
/-- X9_firstLeastLate@7 -/
theorem o_96 : s_chk0 tab 101 k_96 u_96 4000 = true := by decide +kernel
theorem o_96_0 : s_chk1 tab 101 k_96 u_96 4000 1 u_96_0 = true := by decide +kernel
theorem o_96_1 : s_chk1 tab 101 k_96 u_96 4000 1 u_96_1 = true := by decide +kernel
theorem o_96_2 : s_chk1 tab 101 k_96 u_96 4000 1 u_96_2 = true := by decide +kernel
theorem o_96_3 : s_chk1 tab 101 k_96 u_96 4000 1 u_96_3 = true := by decide +kernel
theorem o_96_4 : s_chk1 tab 101 k_96 u_96 4000 1 u_96_4 = true := by decide +kernel
theorem o_96_5 : s_chk1 tab 101 k_96 u_96 4000 1 u_96_5 = true := by decide +kernel
theorem o_96_6 : s_chk1 tab 101 k_96 u_96 4000 1 u_96_6 = true := by decide +kernel
theorem o_96_7 : s_chk1 tab 101 k_96 u_96 4000 1 u_96_7 = true := by decide +kernel
theorem o_96_8 : s_chk1 tab 101 k_96 u_96 4000 1 u_96_8 = true := by decide +kernel
theorem o_96_9 : s_chk1 tab 101 k_96 u_96 4000 1 u_96_9 = true := by decide +kernel
theorem o_96_10 : s_chk1 tab 101 k_96 u_96 4000 1 u_96_10 = true := by decide +kernel
theorem o_96_11 : s_chk1 tab 101 k_96 u_96 4000 1 u_96_11 = true := by decide +kernel
theorem o_96_12 : s_chk1 tab 101 k_96 u_96 4000 1 u_96_12 = true := by decide +kernel
theorem o_96_13 : s_chk1 tab 101 k_96 u_96 4000 1 u_96_13 = true := by decide +kernel
theorem o_96_14 : s_chk1 tab 101 k_96 u_96 4000 1 u_96_14 = true := by decide +kernel
/-- X9_firstLeastLate-7 -/
theorem o_97 : s_chk0 tab 101 k_97 u_97 4000 = true := by decide +kernel
/-- X9_canBeInTime -/
theorem o_98 : s_chk0 tab 103 k_98 u_98 4000 = true := by decide +kernel
theorem o_98_0 : s_chk1 tab 103 k_98 u_98 4000 1 u_98_0 = true := by decide +kernel
/-- X9_mostInTime -/
theorem o_99 : s_chk0 tab 102 k_99 u_99 4000 = true := by decide +kernel
theorem o_99_0 : s_chk1 tab 102 k_99 u_99 4000 1 u_99_0 = true := by decide +kernel
/-- X9_endOf -/
theorem o_100 : s_chk0 tab 105 k_100 u_100 4000 = true := by decide +kernel
theorem o_100_0 : s_chk1 tab 105 k_100 u_100 4000 1 u_100_0 = true := by decide +kernel
/-- X9_shareAmong -/
theorem o_101 : s_chk0 tab 104 k_101 u_101 4000 = true := by decide +kernel
