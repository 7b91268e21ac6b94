/-! Checks. -/
/-- X9_firstLeastLate-1 -/
theorem o_85 : s_chk0 tab 101 k_85 u_85 4000 = true := by decide +kernel
/-- X9_firstLeastLate@2 -/
theorem o_86 : s_chk0 tab 101 k_86 u_86 4000 = true := by decide +kernel
theorem o_86_0 : s_chk1 tab 101 k_86 u_86 4000 1 u_86_0 = true := by decide +kernel
theorem o_86_1 : s_chk1 tab 101 k_86 u_86 4000 1 u_86_1 = true := by decide +kernel
theorem o_86_2 : s_chk1 tab 101 k_86 u_86 4000 1 u_86_2 = true := by decide +kernel
theorem o_86_3 : s_chk1 tab 101 k_86 u_86 4000 1 u_86_3 = true := by decide +kernel
theorem o_86_4 : s_chk1 tab 101 k_86 u_86 4000 1 u_86_4 = true := by decide +kernel
/-- X9_firstLeastLate-2 -/
theorem o_87 : s_chk0 tab 101 k_87 u_87 4000 = true := by decide +kernel
/-- X9_firstLeastLate@3 -/
theorem o_88 : s_chk0 tab 101 k_88 u_88 4000 = true := by decide +kernel
theorem o_88_0 : s_chk1 tab 101 k_88 u_88 4000 1 u_88_0 = true := by decide +kernel
theorem o_88_1 : s_chk1 tab 101 k_88 u_88 4000 1 u_88_1 = true := by decide +kernel
theorem o_88_2 : s_chk1 tab 101 k_88 u_88 4000 1 u_88_2 = true := by decide +kernel
theorem o_88_3 : s_chk1 tab 101 k_88 u_88 4000 1 u_88_3 = true := by decide +kernel
theorem o_88_4 : s_chk1 tab 101 k_88 u_88 4000 1 u_88_4 = true := by decide +kernel
theorem o_88_5 : s_chk1 tab 101 k_88 u_88 4000 1 u_88_5 = true := by decide +kernel
theorem o_88_6 : s_chk1 tab 101 k_88 u_88 4000 1 u_88_6 = true := by decide +kernel
/-- X9_firstLeastLate-3 -/
theorem o_89 : s_chk0 tab 101 k_89 u_89 4000 = true := by decide +kernel
/-- X9_firstLeastLate@4 -/
theorem o_90 : s_chk0 tab 101 k_90 u_90 4000 = true := by decide +kernel
theorem o_90_0 : s_chk1 tab 101 k_90 u_90 4000 1 u_90_0 = true := by decide +kernel
theorem o_90_1 : s_chk1 tab 101 k_90 u_90 4000 1 u_90_1 = true := by decide +kernel
theorem o_90_2 : s_chk1 tab 101 k_90 u_90 4000 1 u_90_2 = true := by decide +kernel
theorem o_90_3 : s_chk1 tab 101 k_90 u_90 4000 1 u_90_3 = true := by decide +kernel
theorem o_90_4 : s_chk1 tab 101 k_90 u_90 4000 1 u_90_4 = true := by decide +kernel
theorem o_90_5 : s_chk1 tab 101 k_90 u_90 4000 1 u_90_5 = true := by decide +kernel
theorem o_90_6 : s_chk1 tab 101 k_90 u_90 4000 1 u_90_6 = true := by decide +kernel
theorem o_90_7 : s_chk1 tab 101 k_90 u_90 4000 1 u_90_7 = true := by decide +kernel
theorem o_90_8 : s_chk1 tab 101 k_90 u_90 4000 1 u_90_8 = true := by decide +kernel
/-- X9_firstLeastLate-4 -/
theorem o_91 : s_chk0 tab 101 k_91 u_91 4000 = true := by decide +kernel
/-- X9_firstLeastLate@5 -/
theorem o_92 : s_chk0 tab 101 k_92 u_92 4000 = true := by decide +kernel
theorem o_92_0 : s_chk1 tab 101 k_92 u_92 4000 1 u_92_0 = true := by decide +kernel
theorem o_92_1 : s_chk1 tab 101 k_92 u_92 4000 1 u_92_1 = true := by decide +kernel
theorem o_92_2 : s_chk1 tab 101 k_92 u_92 4000 1 u_92_2 = true := by decide +kernel
theorem o_92_3 : s_chk1 tab 101 k_92 u_92 4000 1 u_92_3 = true := by decide +kernel
theorem o_92_4 : s_chk1 tab 101 k_92 u_92 4000 1 u_92_4 = true := by decide +kernel
theorem o_92_5 : s_chk1 tab 101 k_92 u_92 4000 1 u_92_5 = true := by decide +kernel
theorem o_92_6 : s_chk1 tab 101 k_92 u_92 4000 1 u_92_6 = true := by decide +kernel
theorem o_92_7 : s_chk1 tab 101 k_92 u_92 4000 1 u_92_7 = true := by decide +kernel
theorem o_92_8 : s_chk1 tab 101 k_92 u_92 4000 1 u_92_8 = true := by decide +kernel
theorem o_92_9 : s_chk1 tab 101 k_92 u_92 4000 1 u_92_9 = true := by decide +kernel
theorem o_92_10 : s_chk1 tab 101 k_92 u_92 4000 1 u_92_10 = true := by decide +kernel
