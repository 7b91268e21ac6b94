/-! Checks. -/
theorem o_57_0 : s_chk1 tab 87 k_57 u_57 4000 1 u_57_0 = true := by decide +kernel
/-- X8_nextLaw -/
theorem o_58 : s_chk0 tab 92 k_58 u_58 4000 = true := by decide +kernel
theorem o_58_0 : s_chk1 tab 92 k_58 u_58 4000 1 u_58_0 = true := by decide +kernel
/-- X8_countFewest -/
theorem o_59 : s_chk0 tab 93 k_59 u_59 4000 = true := by decide +kernel
theorem o_59_0 : s_chk1 tab 93 k_59 u_59 4000 1 u_59_0 = true := by decide +kernel
/-- X8_packFewest -/
theorem o_60 : s_chk0 tab 91 k_60 u_60 4000 = true := by decide +kernel
theorem o_60_0 : s_chk1 tab 91 k_60 u_60 4000 3 u_60_0 = true := by decide +kernel
theorem o_60_1 : s_chk1 tab 91 k_60 u_60 4000 3 u_60_1 = true := by decide +kernel
/-- X8_shortestFor -/
theorem o_61 : s_chk0 tab 95 k_61 u_61 4000 = true := by decide +kernel
theorem o_61_0 : s_chk1 tab 95 k_61 u_61 4000 1 u_61_0 = true := by decide +kernel
/-- X8_countChanges -/
theorem o_62 : s_chk0 tab 94 k_62 u_62 4000 = true := by decide +kernel
theorem o_62_0 : s_chk1 tab 94 k_62 u_62 4000 1 u_62_0 = true := by decide +kernel
/-- X8_firstCheapest@0 -/
theorem o_63 : s_chk0 tab 90 k_63 u_63 4000 = true := by decide +kernel
theorem o_63_0 : s_chk1 tab 90 k_63 u_63 4000 0 u_63_0 = true := by decide +kernel
/-- X8_firstCheapest-0 -/
theorem o_64 : s_chk0 tab 90 k_64 u_64 4000 = true := by decide +kernel
/-- X8_firstCheapest@1 -/
theorem o_65 : s_chk0 tab 90 k_65 u_65 4000 = true := by decide +kernel
theorem o_65_0 : s_chk1 tab 90 k_65 u_65 4000 1 u_65_0 = true := by decide +kernel
theorem o_65_1 : s_chk1 tab 90 k_65 u_65 4000 1 u_65_1 = true := by decide +kernel
theorem o_65_2 : s_chk1 tab 90 k_65 u_65 4000 1 u_65_2 = true := by decide +kernel
/-- X8_firstCheapest-1 -/
theorem o_66 : s_chk0 tab 90 k_66 u_66 4000 = true := by decide +kernel
/-- X8_firstCheapest@2 -/
theorem o_67 : s_chk0 tab 90 k_67 u_67 4000 = true := by decide +kernel
theorem o_67_0 : s_chk1 tab 90 k_67 u_67 4000 1 u_67_0 = true := by decide +kernel
theorem o_67_1 : s_chk1 tab 90 k_67 u_67 4000 1 u_67_1 = true := by decide +kernel
theorem o_67_2 : s_chk1 tab 90 k_67 u_67 4000 1 u_67_2 = true := by decide +kernel
theorem o_67_3 : s_chk1 tab 90 k_67 u_67 4000 1 u_67_3 = true := by decide +kernel
theorem o_67_4 : s_chk1 tab 90 k_67 u_67 4000 1 u_67_4 = true := by decide +kernel
/-- X8_firstCheapest-2 -/
theorem o_68 : s_chk0 tab 90 k_68 u_68 4000 = true := by decide +kernel
/-- X8_firstCheapest@3 -/
theorem o_69 : s_chk0 tab 90 k_69 u_69 4000 = true := by decide +kernel
theorem o_69_0 : s_chk1 tab 90 k_69 u_69 4000 1 u_69_0 = true := by decide +kernel
theorem o_69_1 : s_chk1 tab 90 k_69 u_69 4000 1 u_69_1 = true := by decide +kernel
theorem o_69_2 : s_chk1 tab 90 k_69 u_69 4000 1 u_69_2 = true := by decide +kernel
theorem o_69_3 : s_chk1 tab 90 k_69 u_69 4000 1 u_69_3 = true := by decide +kernel
theorem o_69_4 : s_chk1 tab 90 k_69 u_69 4000 1 u_69_4 = true := by decide +kernel
theorem o_69_5 : s_chk1 tab 90 k_69 u_69 4000 1 u_69_5 = true := by decide +kernel
theorem o_69_6 : s_chk1 tab 90 k_69 u_69 4000 1 u_69_6 = true := by decide +kernel
/-- X8_firstCheapest-3 -/
theorem o_70 : s_chk0 tab 90 k_70 u_70 4000 = true := by decide +kernel
/-- X8_firstCheapest@4 -/
theorem o_71 : s_chk0 tab 90 k_71 u_71 4000 = true := by decide +kernel
theorem o_71_0 : s_chk1 tab 90 k_71 u_71 4000 1 u_71_0 = true := by decide +kernel
theorem o_71_1 : s_chk1 tab 90 k_71 u_71 4000 1 u_71_1 = true := by decide +kernel
theorem o_71_2 : s_chk1 tab 90 k_71 u_71 4000 1 u_71_2 = true := by decide +kernel
