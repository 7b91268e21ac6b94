/-! Checks. -/
theorem o_71_3 : s_chk1 tab 90 k_71 u_71 4000 1 u_71_3 = true := by decide +kernel
theorem o_71_4 : s_chk1 tab 90 k_71 u_71 4000 1 u_71_4 = true := by decide +kernel
theorem o_71_5 : s_chk1 tab 90 k_71 u_71 4000 1 u_71_5 = true := by decide +kernel
theorem o_71_6 : s_chk1 tab 90 k_71 u_71 4000 1 u_71_6 = true := by decide +kernel
theorem o_71_7 : s_chk1 tab 90 k_71 u_71 4000 1 u_71_7 = true := by decide +kernel
theorem o_71_8 : s_chk1 tab 90 k_71 u_71 4000 1 u_71_8 = true := by decide +kernel
/-- X8_firstCheapest-4 -/
theorem o_72 : s_chk0 tab 90 k_72 u_72 4000 = true := by decide +kernel
/-- X8_firstCheapest@5 -/
theorem o_73 : s_chk0 tab 90 k_73 u_73 4000 = true := by decide +kernel
theorem o_73_0 : s_chk1 tab 90 k_73 u_73 4000 1 u_73_0 = true := by decide +kernel
theorem o_73_1 : s_chk1 tab 90 k_73 u_73 4000 1 u_73_1 = true := by decide +kernel
theorem o_73_2 : s_chk1 tab 90 k_73 u_73 4000 1 u_73_2 = true := by decide +kernel
theorem o_73_3 : s_chk1 tab 90 k_73 u_73 4000 1 u_73_3 = true := by decide +kernel
theorem o_73_4 : s_chk1 tab 90 k_73 u_73 4000 1 u_73_4 = true := by decide +kernel
theorem o_73_5 : s_chk1 tab 90 k_73 u_73 4000 1 u_73_5 = true := by decide +kernel
theorem o_73_6 : s_chk1 tab 90 k_73 u_73 4000 1 u_73_6 = true := by decide +kernel
theorem o_73_7 : s_chk1 tab 90 k_73 u_73 4000 1 u_73_7 = true := by decide +kernel
theorem o_73_8 : s_chk1 tab 90 k_73 u_73 4000 1 u_73_8 = true := by decide +kernel
theorem o_73_9 : s_chk1 tab 90 k_73 u_73 4000 1 u_73_9 = true := by decide +kernel
theorem o_73_10 : s_chk1 tab 90 k_73 u_73 4000 1 u_73_10 = true := by decide +kernel
/-- X8_firstCheapest-5 -/
theorem o_74 : s_chk0 tab 90 k_74 u_74 4000 = true := by decide +kernel
/-- X8_firstCheapest@6 -/
theorem o_75 : s_chk0 tab 90 k_75 u_75 4000 = true := by decide +kernel
theorem o_75_0 : s_chk1 tab 90 k_75 u_75 4000 1 u_75_0 = true := by decide +kernel
theorem o_75_1 : s_chk1 tab 90 k_75 u_75 4000 1 u_75_1 = true := by decide +kernel
theorem o_75_2 : s_chk1 tab 90 k_75 u_75 4000 1 u_75_2 = true := by decide +kernel
theorem o_75_3 : s_chk1 tab 90 k_75 u_75 4000 1 u_75_3 = true := by decide +kernel
theorem o_75_4 : s_chk1 tab 90 k_75 u_75 4000 1 u_75_4 = true := by decide +kernel
theorem o_75_5 : s_chk1 tab 90 k_75 u_75 4000 1 u_75_5 = true := by decide +kernel
theorem o_75_6 : s_chk1 tab 90 k_75 u_75 4000 1 u_75_6 = true := by decide +kernel
theorem o_75_7 : s_chk1 tab 90 k_75 u_75 4000 1 u_75_7 = true := by decide +kernel
theorem o_75_8 : s_chk1 tab 90 k_75 u_75 4000 1 u_75_8 = true := by decide +kernel
theorem o_75_9 : s_chk1 tab 90 k_75 u_75 4000 1 u_75_9 = true := by decide +kernel
theorem o_75_10 : s_chk1 tab 90 k_75 u_75 4000 1 u_75_10 = true := by decide +kernel
theorem o_75_11 : s_chk1 tab 90 k_75 u_75 4000 1 u_75_11 = true := by decide +kernel
theorem o_75_12 : s_chk1 tab 90 k_75 u_75 4000 1 u_75_12 = true := by decide +kernel
/-- X8_firstCheapest-6 -/
theorem o_76 : s_chk0 tab 90 k_76 u_76 4000 = true := by decide +kernel
/-- X8_firstCheapest@7 -/
theorem o_77 : s_chk0 tab 90 k_77 u_77 4000 = true := by decide +kernel
theorem o_77_0 : s_chk1 tab 90 k_77 u_77 4000 1 u_77_0 = true := by decide +kernel
theorem o_77_1 : s_chk1 tab 90 k_77 u_77 4000 1 u_77_1 = true := by decide +kernel
theorem o_77_2 : s_chk1 tab 90 k_77 u_77 4000 1 u_77_2 = true := by decide +kernel
theorem o_77_3 : s_chk1 tab 90 k_77 u_77 4000 1 u_77_3 = true := by decide +kernel
