/-! Checks. -/
theorem o_252_6 : s_chk1 tab 282 k_252 u_252 4000 2 u_252_6 = true := by decide +kernel
theorem o_252_7 : s_chk1 tab 282 k_252 u_252 4000 2 u_252_7 = true := by decide +kernel
theorem o_252_8 : s_chk1 tab 282 k_252 u_252 4000 2 u_252_8 = true := by decide +kernel
theorem o_252_9 : s_chk1 tab 282 k_252 u_252 4000 2 u_252_9 = true := by decide +kernel
theorem o_252_10 : s_chk1 tab 282 k_252 u_252 4000 2 u_252_10 = true := by decide +kernel
theorem o_252_11 : s_chk1 tab 282 k_252 u_252 4000 2 u_252_11 = true := by decide +kernel
theorem o_252_12 : s_chk1 tab 282 k_252 u_252 4000 2 u_252_12 = true := by decide +kernel
theorem o_252_13 : s_chk1 tab 282 k_252 u_252 4000 2 u_252_13 = true := by decide +kernel
theorem o_252_14 : s_chk1 tab 282 k_252 u_252 4000 2 u_252_14 = true := by decide +kernel
/-- X12_isTimely@5 -/
theorem o_253 : s_chk0 tab 282 k_253 u_253 4000 = true := by decide +kernel
theorem o_253_0 : s_chk1 tab 282 k_253 u_253 4000 2 u_253_0 = true := by decide +kernel
theorem o_253_1 : s_chk1 tab 282 k_253 u_253 4000 2 u_253_1 = true := by decide +kernel
theorem o_253_2 : s_chk1 tab 282 k_253 u_253 4000 2 u_253_2 = true := by decide +kernel
theorem o_253_3 : s_chk1 tab 282 k_253 u_253 4000 2 u_253_3 = true := by decide +kernel
theorem o_253_4 : s_chk1 tab 282 k_253 u_253 4000 2 u_253_4 = true := by decide +kernel
theorem o_253_5 : s_chk1 tab 282 k_253 u_253 4000 2 u_253_5 = true := by decide +kernel
theorem o_253_6 : s_chk1 tab 282 k_253 u_253 4000 2 u_253_6 = true := by decide +kernel
theorem o_253_7 : s_chk1 tab 282 k_253 u_253 4000 2 u_253_7 = true := by decide +kernel
theorem o_253_8 : s_chk1 tab 282 k_253 u_253 4000 2 u_253_8 = true := by decide +kernel
theorem o_253_9 : s_chk1 tab 282 k_253 u_253 4000 2 u_253_9 = true := by decide +kernel
theorem o_253_10 : s_chk1 tab 282 k_253 u_253 4000 2 u_253_10 = true := by decide +kernel
theorem o_253_11 : s_chk1 tab 282 k_253 u_253 4000 2 u_253_11 = true := by decide +kernel
theorem o_253_12 : s_chk1 tab 282 k_253 u_253 4000 2 u_253_12 = true := by decide +kernel
theorem o_253_13 : s_chk1 tab 282 k_253 u_253 4000 2 u_253_13 = true := by decide +kernel
theorem o_253_14 : s_chk1 tab 282 k_253 u_253 4000 2 u_253_14 = true := by decide +kernel
theorem o_253_15 : s_chk1 tab 282 k_253 u_253 4000 2 u_253_15 = true := by decide +kernel
theorem o_253_16 : s_chk1 tab 282 k_253 u_253 4000 2 u_253_16 = true := by decide +kernel
theorem o_253_17 : s_chk1 tab 282 k_253 u_253 4000 2 u_253_17 = true := by decide +kernel
theorem o_253_18 : s_chk1 tab 282 k_253 u_253 4000 2 u_253_18 = true := by decide +kernel
theorem o_253_19 : s_chk1 tab 282 k_253 u_253 4000 2 u_253_19 = true := by decide +kernel
theorem o_253_20 : s_chk1 tab 282 k_253 u_253 4000 2 u_253_20 = true := by decide +kernel
/-- X12_isTimely@6 -/
theorem o_254 : s_chk0 tab 282 k_254 u_254 4000 = true := by decide +kernel
theorem o_254_0 : s_chk1 tab 282 k_254 u_254 4000 2 u_254_0 = true := by decide +kernel
theorem o_254_1 : s_chk1 tab 282 k_254 u_254 4000 2 u_254_1 = true := by decide +kernel
theorem o_254_2 : s_chk1 tab 282 k_254 u_254 4000 2 u_254_2 = true := by decide +kernel
theorem o_254_3 : s_chk1 tab 282 k_254 u_254 4000 2 u_254_3 = true := by decide +kernel
theorem o_254_4 : s_chk1 tab 282 k_254 u_254 4000 2 u_254_4 = true := by decide +kernel
theorem o_254_5 : s_chk1 tab 282 k_254 u_254 4000 2 u_254_5 = true := by decide +kernel
theorem o_254_6 : s_chk1 tab 282 k_254 u_254 4000 2 u_254_6 = true := by decide +kernel
theorem o_254_7 : s_chk1 tab 282 k_254 u_254 4000 2 u_254_7 = true := by decide +kernel
