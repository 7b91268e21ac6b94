/-! Checks. -/
theorem o_77_4 : s_chk1 tab 90 k_77 u_77 4000 1 u_77_4 = true := by decide +kernel
theorem o_77_5 : s_chk1 tab 90 k_77 u_77 4000 1 u_77_5 = true := by decide +kernel
theorem o_77_6 : s_chk1 tab 90 k_77 u_77 4000 1 u_77_6 = true := by decide +kernel
theorem o_77_7 : s_chk1 tab 90 k_77 u_77 4000 1 u_77_7 = true := by decide +kernel
theorem o_77_8 : s_chk1 tab 90 k_77 u_77 4000 1 u_77_8 = true := by decide +kernel
theorem o_77_9 : s_chk1 tab 90 k_77 u_77 4000 1 u_77_9 = true := by decide +kernel
theorem o_77_10 : s_chk1 tab 90 k_77 u_77 4000 1 u_77_10 = true := by decide +kernel
theorem o_77_11 : s_chk1 tab 90 k_77 u_77 4000 1 u_77_11 = true := by decide +kernel
theorem o_77_12 : s_chk1 tab 90 k_77 u_77 4000 1 u_77_12 = true := by decide +kernel
theorem o_77_13 : s_chk1 tab 90 k_77 u_77 4000 1 u_77_13 = true := by decide +kernel
theorem o_77_14 : s_chk1 tab 90 k_77 u_77 4000 1 u_77_14 = true := by decide +kernel
/-- X8_firstCheapest-7 -/
theorem o_78 : s_chk0 tab 90 k_78 u_78 4000 = true := by decide +kernel
/-- X8_firstCheapest@8 -/
theorem o_79 : s_chk0 tab 90 k_79 u_79 4000 = true := by decide +kernel
theorem o_79_0 : s_chk1 tab 90 k_79 u_79 4000 1 u_79_0 = true := by decide +kernel
theorem o_79_1 : s_chk1 tab 90 k_79 u_79 4000 1 u_79_1 = true := by decide +kernel
theorem o_79_2 : s_chk1 tab 90 k_79 u_79 4000 1 u_79_2 = true := by decide +kernel
theorem o_79_3 : s_chk1 tab 90 k_79 u_79 4000 1 u_79_3 = true := by decide +kernel
theorem o_79_4 : s_chk1 tab 90 k_79 u_79 4000 1 u_79_4 = true := by decide +kernel
theorem o_79_5 : s_chk1 tab 90 k_79 u_79 4000 1 u_79_5 = true := by decide +kernel
theorem o_79_6 : s_chk1 tab 90 k_79 u_79 4000 1 u_79_6 = true := by decide +kernel
theorem o_79_7 : s_chk1 tab 90 k_79 u_79 4000 1 u_79_7 = true := by decide +kernel
theorem o_79_8 : s_chk1 tab 90 k_79 u_79 4000 1 u_79_8 = true := by decide +kernel
theorem o_79_9 : s_chk1 tab 90 k_79 u_79 4000 1 u_79_9 = true := by decide +kernel
theorem o_79_10 : s_chk1 tab 90 k_79 u_79 4000 1 u_79_10 = true := by decide +kernel
theorem o_79_11 : s_chk1 tab 90 k_79 u_79 4000 1 u_79_11 = true := by decide +kernel
theorem o_79_12 : s_chk1 tab 90 k_79 u_79 4000 1 u_79_12 = true := by decide +kernel
theorem o_79_13 : s_chk1 tab 90 k_79 u_79 4000 1 u_79_13 = true := by decide +kernel
theorem o_79_14 : s_chk1 tab 90 k_79 u_79 4000 1 u_79_14 = true := by decide +kernel
theorem o_79_15 : s_chk1 tab 90 k_79 u_79 4000 1 u_79_15 = true := by decide +kernel
theorem o_79_16 : s_chk1 tab 90 k_79 u_79 4000 1 u_79_16 = true := by decide +kernel
/-- X8_firstCheapest-8 -/
theorem o_80 : s_chk0 tab 90 k_80 u_80 4000 = true := by decide +kernel
/-- X9_hoursOf -/
theorem o_81 : s_chk0 tab 98 k_81 u_81 4000 = true := by decide +kernel
theorem o_81_0 : s_chk1 tab 98 k_81 u_81 4000 1 u_81_0 = true := by decide +kernel
/-- X9_firstLeastLate@0 -/
theorem o_82 : s_chk0 tab 101 k_82 u_82 4000 = true := by decide +kernel
theorem o_82_0 : s_chk1 tab 101 k_82 u_82 4000 0 u_82_0 = true := by decide +kernel
/-- X9_firstLeastLate-0 -/
theorem o_83 : s_chk0 tab 101 k_83 u_83 4000 = true := by decide +kernel
/-- X9_firstLeastLate@1 -/
theorem o_84 : s_chk0 tab 101 k_84 u_84 4000 = true := by decide +kernel
theorem o_84_0 : s_chk1 tab 101 k_84 u_84 4000 1 u_84_0 = true := by decide +kernel
theorem o_84_1 : s_chk1 tab 101 k_84 u_84 4000 1 u_84_1 = true := by decide +kernel
theorem o_84_2 : s_chk1 tab 101 k_84 u_84 4000 1 u_84_2 = true := by decide +kernel
