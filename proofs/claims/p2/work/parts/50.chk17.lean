/-! Checks. -/
/-- X12_leftFrom -/
theorem o_244 : s_chk0 tab 257 k_244 u_244 4000 = true := by decide +kernel
theorem o_244_0 : s_chk1 tab 257 k_244 u_244 4000 1 u_244_0 = true := by decide +kernel
/-- X12_isServed -/
theorem o_245 : s_chk0 tab 268 k_245 u_245 4000 = true := by decide +kernel
theorem o_245_0 : s_chk1 tab 268 k_245 u_245 4000 1 u_245_0 = true := by decide +kernel
/-- X12_readWay -/
theorem o_246 : s_chk0 tab 267 k_246 u_246 4000 = true := by decide +kernel
theorem o_246_0 : s_chk1 tab 267 k_246 u_246 4000 2 u_246_0 = true := by decide +kernel
theorem o_246_1 : s_chk1 tab 267 k_246 u_246 4000 2 u_246_1 = true := by decide +kernel
/-- X12_isTimely@1 -/
theorem o_248 : s_chk0 tab 282 k_248 u_248 4000 = true := by decide +kernel
theorem o_248_0 : s_chk1 tab 282 k_248 u_248 4000 2 u_248_0 = true := by decide +kernel
theorem o_248_1 : s_chk1 tab 282 k_248 u_248 4000 2 u_248_1 = true := by decide +kernel
theorem o_248_2 : s_chk1 tab 282 k_248 u_248 4000 2 u_248_2 = true := by decide +kernel
/-- X12_isTimely@2 -/
theorem o_249 : s_chk0 tab 282 k_249 u_249 4000 = true := by decide +kernel
theorem o_249_0 : s_chk1 tab 282 k_249 u_249 4000 2 u_249_0 = true := by decide +kernel
theorem o_249_1 : s_chk1 tab 282 k_249 u_249 4000 2 u_249_1 = true := by decide +kernel
theorem o_249_2 : s_chk1 tab 282 k_249 u_249 4000 2 u_249_2 = true := by decide +kernel
theorem o_249_3 : s_chk1 tab 282 k_249 u_249 4000 2 u_249_3 = true := by decide +kernel
theorem o_249_4 : s_chk1 tab 282 k_249 u_249 4000 2 u_249_4 = true := by decide +kernel
theorem o_249_5 : s_chk1 tab 282 k_249 u_249 4000 2 u_249_5 = true := by decide +kernel
/-- X12_isTimely@3 -/
theorem o_250 : s_chk0 tab 282 k_250 u_250 4000 = true := by decide +kernel
theorem o_250_0 : s_chk1 tab 282 k_250 u_250 4000 2 u_250_0 = true := by decide +kernel
theorem o_250_1 : s_chk1 tab 282 k_250 u_250 4000 2 u_250_1 = true := by decide +kernel
theorem o_250_2 : s_chk1 tab 282 k_250 u_250 4000 2 u_250_2 = true := by decide +kernel
theorem o_250_3 : s_chk1 tab 282 k_250 u_250 4000 2 u_250_3 = true := by decide +kernel
theorem o_250_4 : s_chk1 tab 282 k_250 u_250 4000 2 u_250_4 = true := by decide +kernel
theorem o_250_5 : s_chk1 tab 282 k_250 u_250 4000 2 u_250_5 = true := by decide +kernel
theorem o_250_6 : s_chk1 tab 282 k_250 u_250 4000 2 u_250_6 = true := by decide +kernel
theorem o_250_7 : s_chk1 tab 282 k_250 u_250 4000 2 u_250_7 = true := by decide +kernel
theorem o_250_8 : s_chk1 tab 282 k_250 u_250 4000 2 u_250_8 = true := by decide +kernel
theorem o_250_9 : s_chk1 tab 282 k_250 u_250 4000 2 u_250_9 = true := by decide +kernel
/-- X12_isTimely@4 -/
theorem o_251 : s_chk0 tab 282 k_251 u_251 4000 = true := by decide +kernel
theorem o_251_0 : s_chk1 tab 282 k_251 u_251 4000 2 u_251_0 = true := by decide +kernel
theorem o_251_1 : s_chk1 tab 282 k_251 u_251 4000 2 u_251_1 = true := by decide +kernel
theorem o_251_2 : s_chk1 tab 282 k_251 u_251 4000 2 u_251_2 = true := by decide +kernel
theorem o_251_3 : s_chk1 tab 282 k_251 u_251 4000 2 u_251_3 = true := by decide +kernel
theorem o_251_4 : s_chk1 tab 282 k_251 u_251 4000 2 u_251_4 = true := by decide +kernel
theorem o_251_5 : s_chk1 tab 282 k_251 u_251 4000 2 u_251_5 = true := by decide +kernel
