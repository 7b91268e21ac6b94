/-! Checks. -/
theorem o_9_0 : s_chk1 tab 13 k_9 u_9 4000 1 u_9_0 = true := by decide +kernel
/-- X1_chooseFewest -/
theorem o_10 : s_chk0 tab 11 k_10 u_10 4000 = true := by decide +kernel
theorem o_10_0 : s_chk1 tab 11 k_10 u_10 4000 1 u_10_0 = true := by decide +kernel
/-- X3_wearerOf -/
theorem o_11 : s_chk0 tab 29 k_11 u_11 4000 = true := by decide +kernel
theorem o_11_0 : s_chk1 tab 29 k_11 u_11 4000 1 u_11_0 = true := by decide +kernel
/-- X3_firstAsLong -/
theorem o_12 : s_chk0 tab 31 k_12 u_12 4000 = true := by decide +kernel
theorem o_12_0 : s_chk1 tab 31 k_12 u_12 4000 1 u_12_0 = true := by decide +kernel
/-- X3_readLines -/
theorem o_13 : s_chk0 tab 39 k_13 u_13 4000 = true := by decide +kernel
theorem o_13_0 : s_chk1 tab 39 k_13 u_13 4000 1 u_13_0 = true := by decide +kernel
/-- X3_tailor -/
theorem o_14 : s_chk0 tab 38 k_14 u_14 4000 = true := by decide +kernel
/-- X5_readThing@4 -/
theorem o_17 : s_chk0 tab 56 k_17 u_17 4000 = true := by decide +kernel
/-- X5_readThing@3 -/
theorem o_18 : s_chk0 tab 56 k_18 u_18 4000 = true := by decide +kernel
/-- X5_readThing@2 -/
theorem o_19 : s_chk0 tab 56 k_19 u_19 4000 = true := by decide +kernel
/-- X5_readThing@1 -/
theorem o_20 : s_chk0 tab 56 k_20 u_20 4000 = true := by decide +kernel
/-- X5_readThing@0 -/
theorem o_21 : s_chk0 tab 56 k_21 u_21 4000 = true := by decide +kernel
/-- X5_readSigned@4 -/
theorem o_22 : s_chk0 tab 55 k_22 u_22 4000 = true := by decide +kernel
theorem o_22_0 : s_chk1 tab 55 k_22 u_22 4000 1 u_22_0 = true := by decide +kernel
/-- X5_readSigned@3 -/
theorem o_23 : s_chk0 tab 55 k_23 u_23 4000 = true := by decide +kernel
theorem o_23_0 : s_chk1 tab 55 k_23 u_23 4000 1 u_23_0 = true := by decide +kernel
/-- X5_readSigned@2 -/
theorem o_24 : s_chk0 tab 55 k_24 u_24 4000 = true := by decide +kernel
theorem o_24_0 : s_chk1 tab 55 k_24 u_24 4000 1 u_24_0 = true := by decide +kernel
/-- X5_readSigned@1 -/
theorem o_25 : s_chk0 tab 55 k_25 u_25 4000 = true := by decide +kernel
theorem o_25_0 : s_chk1 tab 55 k_25 u_25 4000 1 u_25_0 = true := by decide +kernel
/-- X5_readSigned@0 -/
theorem o_26 : s_chk0 tab 55 k_26 u_26 4000 = true := by decide +kernel
theorem o_26_0 : s_chk1 tab 55 k_26 u_26 4000 1 u_26_0 = true := by decide +kernel
/-- X5_readProduct@4 -/
theorem o_27 : s_chk0 tab 54 k_27 u_27 4000 = true := by decide +kernel
theorem o_27_0 : s_chk1 tab 54 k_27 u_27 4000 1 u_27_0 = true := by decide +kernel
/-- X5_readProduct@3 -/
theorem o_28 : s_chk0 tab 54 k_28 u_28 4000 = true := by decide +kernel
theorem o_28_0 : s_chk1 tab 54 k_28 u_28 4000 1 u_28_0 = true := by decide +kernel
/-- X5_readProduct@2 -/
theorem o_29 : s_chk0 tab 54 k_29 u_29 4000 = true := by decide +kernel
theorem o_29_0 : s_chk1 tab 54 k_29 u_29 4000 1 u_29_0 = true := by decide +kernel
/-- X5_readProduct@1 -/
theorem o_30 : s_chk0 tab 54 k_30 u_30 4000 = true := by decide +kernel
theorem o_30_0 : s_chk1 tab 54 k_30 u_30 4000 1 u_30_0 = true := by decide +kernel
/-- X5_readProduct@0 -/
theorem o_31 : s_chk0 tab 54 k_31 u_31 4000 = true := by decide +kernel
theorem o_31_0 : s_chk1 tab 54 k_31 u_31 4000 1 u_31_0 = true := by decide +kernel
/-- X5_readSum@4 -/
theorem o_32 : s_chk0 tab 53 k_32 u_32 4000 = true := by decide +kernel
theorem o_32_0 : s_chk1 tab 53 k_32 u_32 4000 1 u_32_0 = true := by decide +kernel
/-- X5_readSum@3 -/
theorem o_33 : s_chk0 tab 53 k_33 u_33 4000 = true := by decide +kernel
theorem o_33_0 : s_chk1 tab 53 k_33 u_33 4000 1 u_33_0 = true := by decide +kernel
/-- X5_readSum@2 -/
theorem o_34 : s_chk0 tab 53 k_34 u_34 4000 = true := by decide +kernel
