/-! Checks. -/
theorem o_251_6 : s_chk1 tab 282 k_251 u_251 4000 2 u_251_6 = true := by decide +kernel
theorem o_251_7 : s_chk1 tab 282 k_251 u_251 4000 2 u_251_7 = true := by decide +kernel
theorem o_251_8 : s_chk1 tab 282 k_251 u_251 4000 2 u_251_8 = true := by decide +kernel
theorem o_251_9 : s_chk1 tab 282 k_251 u_251 4000 2 u_251_9 = true := by decide +kernel
theorem o_251_10 : s_chk1 tab 282 k_251 u_251 4000 2 u_251_10 = true := by decide +kernel
theorem o_251_11 : s_chk1 tab 282 k_251 u_251 4000 2 u_251_11 = true := by decide +kernel
theorem o_251_12 : s_chk1 tab 282 k_251 u_251 4000 2 u_251_12 = true := by decide +kernel
theorem o_251_13 : s_chk1 tab 282 k_251 u_251 4000 2 u_251_13 = true := by decide +kernel
theorem o_251_14 : s_chk1 tab 282 k_251 u_251 4000 2 u_251_14 = true := by decide +kernel
/-- X12_isTimely@5 -/
theorem o_252 : s_chk0 tab 282 k_252 u_252 4000 = true := by decide +kernel
theorem o_252_0 : s_chk1 tab 282 k_252 u_252 4000 2 u_252_0 = true := by decide +kernel
theorem o_252_1 : s_chk1 tab 282 k_252 u_252 4000 2 u_252_1 = true := by decide +kernel
theorem o_252_2 : s_chk1 tab 282 k_252 u_252 4000 2 u_252_2 = true := by decide +kernel
theorem o_252_3 : s_chk1 tab 282 k_252 u_252 4000 2 u_252_3 = true := by decide +kernel
theorem o_252_4 : s_chk1 tab 282 k_252 u_252 4000 2 u_252_4 = true := by decide +kernel
theorem o_252_5 : s_chk1 tab 282 k_252 u_252 4000 2 u_252_5 = true := by decide +kernel
theorem o_252_6 : s_chk1 tab 282 k_252 u_252 4000 2 u_252_6 = true := by decide +kernel
theorem o_252_7 : s_chk1 tab 282 k_252 u_252 4000 2 u_252_7 = true := by decide +kernel
theorem o_252_8 : s_chk1 tab 282 k_252 u_252 4000 2 u_252_8 = true := by decide +kernel
theorem o_252_9 : s_chk1 tab 282 k_252 u_252 4000 2 u_252_9 = true := by decide +kernel
theorem o_252_10 : s_chk1 tab 282 k_252 u_252 4000 2 u_252_10 = true := by decide +kernel
theorem o_252_11 : s_chk1 tab 282 k_252 u_252 4000 2 u_252_11 = true := by decide +kernel
theorem o_252_12 : s_chk1 tab 282 k_252 u_252 4000 2 u_252_12 = true := by decide +kernel
theorem o_252_13 : s_chk1 tab 282 k_252 u_252 4000 2 u_252_13 = true := by decide +kernel
theorem o_252_14 : s_chk1 tab 282 k_252 u_252 4000 2 u_252_14 = true := by decide +kernel
theorem o_252_15 : s_chk1 tab 282 k_252 u_252 4000 2 u_252_15 = true := by decide +kernel
theorem o_252_16 : s_chk1 tab 282 k_252 u_252 4000 2 u_252_16 = true := by decide +kernel
theorem o_252_17 : s_chk1 tab 282 k_252 u_252 4000 2 u_252_17 = true := by decide +kernel
theorem o_252_18 : s_chk1 tab 282 k_252 u_252 4000 2 u_252_18 = true := by decide +kernel
theorem o_252_19 : s_chk1 tab 282 k_252 u_252 4000 2 u_252_19 = true := by decide +kernel
theorem o_252_20 : s_chk1 tab 282 k_252 u_252 4000 2 u_252_20 = true := by decide +kernel
/-- X12_isTimely@6 -/
theorem o_253 : s_chk0 tab 282 k_253 u_253 4000 = true := by decide +kernel
theorem o_253_0 : s_chk1 tab 282 k_253 u_253 4000 2 u_253_0 = true := by decide +kernel
theorem o_253_1 : s_chk1 tab 282 k_253 u_253 4000 2 u_253_1 = true := by decide +kernel
theorem o_253_2 : s_chk1 tab 282 k_253 u_253 4000 2 u_253_2 = true := by decide +kernel
theorem o_253_3 : s_chk1 tab 282 k_253 u_253 4000 2 u_253_3 = true := by decide +kernel
theorem o_253_4 : s_chk1 tab 282 k_253 u_253 4000 2 u_253_4 = true := by decide +kernel
theorem o_253_5 : s_chk1 tab 282 k_253 u_253 4000 2 u_253_5 = true := by decide +kernel
theorem o_253_6 : s_chk1 tab 282 k_253 u_253 4000 2 u_253_6 = true := by decide +kernel
theorem o_253_7 : s_chk1 tab 282 k_253 u_253 4000 2 u_253_7 = true := by decide +kernel
