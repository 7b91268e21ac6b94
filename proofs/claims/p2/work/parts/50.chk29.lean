/-! Checks. -/
/-- X12_ready -/
theorem o_304 : s_chk0 tab 266 k_304 u_304 4000 = true := by decide +kernel
theorem o_304_0 : s_chk1 tab 266 k_304 u_304 4000 1 u_304_0 = true := by decide +kernel
/-- X12_way -/
theorem o_305 : s_chk0 tab 271 k_305 u_305 4000 = true := by decide +kernel
theorem o_305_0 : s_chk1 tab 271 k_305 u_305 4000 1 u_305_0 = true := by decide +kernel
/-- X12_seen -/
theorem o_307 : s_chk0 tab 273 k_307 u_307 4000 = true := by decide +kernel
/-- X12_forget -/
theorem o_308 : s_chk0 tab 274 k_308 u_308 4000 = true := by decide +kernel
/-- X12_fines -/
theorem o_309 : s_chk0 tab 275 k_309 u_309 4000 = true := by decide +kernel
theorem o_309_0 : s_chk1 tab 275 k_309 u_309 4000 1 u_309_0 = true := by decide +kernel
/-- X12_lags -/
theorem o_310 : s_chk0 tab 276 k_310 u_310 4000 = true := by decide +kernel
theorem o_310_0 : s_chk1 tab 276 k_310 u_310 4000 3 u_310_0 = true := by decide +kernel
theorem o_310_1 : s_chk1 tab 276 k_310 u_310 4000 3 u_310_1 = true := by decide +kernel
/-- X12_heights -/
theorem o_311 : s_chk0 tab 277 k_311 u_311 4000 = true := by decide +kernel
theorem o_311_0 : s_chk1 tab 277 k_311 u_311 4000 3 u_311_0 = true := by decide +kernel
theorem o_311_1 : s_chk1 tab 277 k_311 u_311 4000 3 u_311_1 = true := by decide +kernel
/-- X12_job -/
theorem o_312 : s_chk0 tab 278 k_312 u_312 4000 = true := by decide +kernel
/-- X12_rest -/
theorem o_313 : s_chk0 tab 279 k_313 u_313 4000 = true := by decide +kernel
/-- X12_late -/
theorem o_314 : s_chk0 tab 281 k_314 u_314 4000 = true := by decide +kernel
theorem o_314_0 : s_chk1 tab 281 k_314 u_314 4000 1 u_314_0 = true := by decide +kernel
theorem o_315_0 : s_chk0 tab 283 (s_var k_315 27 (vP 0)) w_315_0 4000 = true := by decide +kernel
theorem o_315_0_0 : s_chk1 tab 283 (s_var k_315 27 (vP 0)) w_315_0 4000 0 w_315_0_0 = true := by decide +kernel
theorem o_315_1 : s_chk0 tab 283 (s_var k_315 27 (vP 1)) w_315_1 4000 = true := by decide +kernel
theorem o_315_1_0 : s_chk1 tab 283 (s_var k_315 27 (vP 1)) w_315_1 4000 1 w_315_1_0 = true := by decide +kernel
theorem o_315_2 : s_chk0 tab 283 (s_var k_315 27 (vP 2)) w_315_2 4000 = true := by decide +kernel
theorem o_315_2_0 : s_chk1 tab 283 (s_var k_315 27 (vP 2)) w_315_2 4000 1 w_315_2_0 = true := by decide +kernel
theorem o_315_3 : s_chk0 tab 283 (s_var k_315 27 (vP 3)) w_315_3 4000 = true := by decide +kernel
theorem o_315_3_0 : s_chk1 tab 283 (s_var k_315 27 (vP 3)) w_315_3 4000 1 w_315_3_0 = true := by decide +kernel
theorem o_315_4 : s_chk0 tab 283 (s_var k_315 27 (vP 4)) w_315_4 4000 = true := by decide +kernel
theorem o_315_4_0 : s_chk1 tab 283 (s_var k_315 27 (vP 4)) w_315_4 4000 1 w_315_4_0 = true := by decide +kernel
theorem o_315_5 : s_chk0 tab 283 (s_var k_315 27 (vP 5)) w_315_5 4000 = true := by decide +kernel
theorem o_315_5_0 : s_chk1 tab 283 (s_var k_315 27 (vP 5)) w_315_5 4000 1 w_315_5_0 = true := by decide +kernel
theorem o_315_6 : s_chk0 tab 283 (s_var k_315 27 (vP 6)) w_315_6 4000 = true := by decide +kernel
theorem o_315_6_0 : s_chk1 tab 283 (s_var k_315 27 (vP 6)) w_315_6 4000 1 w_315_6_0 = true := by decide +kernel
theorem o_315_7 : s_chk0 tab 283 (s_var k_315 27 (vP 7)) w_315_7 4000 = true := by decide +kernel
theorem o_315_7_0 : s_chk1 tab 283 (s_var k_315 27 (vP 7)) w_315_7 4000 1 w_315_7_0 = true := by decide +kernel
/-- X12_hired -/
theorem o_316 : s_chk0 tab 285 k_316 u_316 4000 = true := by decide +kernel
theorem o_316_0 : s_chk1 tab 285 k_316 u_316 4000 1 u_316_0 = true := by decide +kernel
/-- X12_keep -/
theorem o_317 : s_chk0 tab 287 k_317 u_317 4000 = true := by decide +kernel
/-- X12_count -/
theorem o_318 : s_chk0 tab 290 k_318 u_318 4000 = true := by decide +kernel
/-- X12_row -/
theorem o_319 : s_chk0 tab 291 k_319 u_319 4000 = true := by decide +kernel
