/-! Checks. -/
theorem o_277_0 : s_chk1 tab 284 k_277 u_277 4000 2 u_277_0 = true := by decide +kernel
theorem o_277_1 : s_chk1 tab 284 k_277 u_277 4000 2 u_277_1 = true := by decide +kernel
/-- X12_goHired@0 -/
theorem o_278 : s_chk0 tab 284 k_278 u_278 4000 = true := by decide +kernel
theorem o_278_0 : s_chk1 tab 284 k_278 u_278 4000 2 u_278_0 = true := by decide +kernel
theorem o_278_1 : s_chk1 tab 284 k_278 u_278 4000 2 u_278_1 = true := by decide +kernel
/-- X12_end -/
theorem o_279 : s_chk0 tab 196 k_279 u_279 4000 = true := by decide +kernel
/-- X12_person -/
theorem o_280 : s_chk0 tab 218 k_280 u_280 4000 = true := by decide +kernel
/-- X12_cloth -/
theorem o_281 : s_chk0 tab 219 k_281 u_281 4000 = true := by decide +kernel
/-- X12_light -/
theorem o_282 : s_chk0 tab 220 k_282 u_282 4000 = true := by decide +kernel
/-- X12_law -/
theorem o_283 : s_chk0 tab 221 k_283 u_283 4000 = true := by decide +kernel
/-- X12_set -/
theorem o_284 : s_chk0 tab 222 k_284 u_284 4000 = true := by decide +kernel
/-- X12_wear -/
theorem o_285 : s_chk0 tab 231 k_285 u_285 4000 = true := by decide +kernel
/-- X12_go -/
theorem o_286 : s_chk0 tab 232 k_286 u_286 4000 = true := by decide +kernel
/-- X12_make -/
theorem o_287 : s_chk0 tab 234 k_287 u_287 4000 = true := by decide +kernel
/-- X12_week -/
theorem o_288 : s_chk0 tab 236 k_288 u_288 4000 = true := by decide +kernel
/-- X12_piece -/
theorem o_289 : s_chk0 tab 242 k_289 u_289 4000 = true := by decide +kernel
/-- X12_sell -/
theorem o_290 : s_chk0 tab 244 k_290 u_290 4000 = true := by decide +kernel
/-- X12_patches -/
theorem o_291 : s_chk0 tab 247 k_291 u_291 4000 = true := by decide +kernel
theorem o_292_0 : s_chk0 tab 248 (s_var k_292 32 (vP 0)) w_292_0 4000 = true := by decide +kernel
theorem o_292_1 : s_chk0 tab 248 (s_var k_292 32 (vP 1)) w_292_1 4000 = true := by decide +kernel
theorem o_292_1_0 : s_chk1 tab 248 (s_var k_292 32 (vP 1)) w_292_1 4000 2 w_292_1_0 = true := by decide +kernel
theorem o_292_1_1 : s_chk1 tab 248 (s_var k_292 32 (vP 1)) w_292_1 4000 2 w_292_1_1 = true := by decide +kernel
theorem o_292_1_2 : s_chk1 tab 248 (s_var k_292 32 (vP 1)) w_292_1 4000 2 w_292_1_2 = true := by decide +kernel
theorem o_292_1_3 : s_chk1 tab 248 (s_var k_292 32 (vP 1)) w_292_1 4000 2 w_292_1_3 = true := by decide +kernel
theorem o_292_1_4 : s_chk1 tab 248 (s_var k_292 32 (vP 1)) w_292_1 4000 2 w_292_1_4 = true := by decide +kernel
theorem o_292_1_5 : s_chk1 tab 248 (s_var k_292 32 (vP 1)) w_292_1 4000 2 w_292_1_5 = true := by decide +kernel
theorem o_292_1_6 : s_chk1 tab 248 (s_var k_292 32 (vP 1)) w_292_1 4000 2 w_292_1_6 = true := by decide +kernel
theorem o_292_1_7 : s_chk1 tab 248 (s_var k_292 32 (vP 1)) w_292_1 4000 2 w_292_1_7 = true := by decide +kernel
theorem o_292_1_8 : s_chk1 tab 248 (s_var k_292 32 (vP 1)) w_292_1 4000 2 w_292_1_8 = true := by decide +kernel
theorem o_292_1_9 : s_chk1 tab 248 (s_var k_292 32 (vP 1)) w_292_1 4000 2 w_292_1_9 = true := by decide +kernel
theorem o_292_1_10 : s_chk1 tab 248 (s_var k_292 32 (vP 1)) w_292_1 4000 2 w_292_1_10 = true := by decide +kernel
theorem o_292_1_11 : s_chk1 tab 248 (s_var k_292 32 (vP 1)) w_292_1 4000 2 w_292_1_11 = true := by decide +kernel
theorem o_292_1_12 : s_chk1 tab 248 (s_var k_292 32 (vP 1)) w_292_1 4000 2 w_292_1_12 = true := by decide +kernel
theorem o_292_1_13 : s_chk1 tab 248 (s_var k_292 32 (vP 1)) w_292_1 4000 2 w_292_1_13 = true := by decide +kernel
theorem o_292_1_14 : s_chk1 tab 248 (s_var k_292 32 (vP 1)) w_292_1 4000 2 w_292_1_14 = true := by decide +kernel
theorem o_292_1_15 : s_chk1 tab 248 (s_var k_292 32 (vP 1)) w_292_1 4000 2 w_292_1_15 = true := by decide +kernel
theorem o_292_1_16 : s_chk1 tab 248 (s_var k_292 32 (vP 1)) w_292_1 4000 2 w_292_1_16 = true := by decide +kernel
theorem o_292_1_17 : s_chk1 tab 248 (s_var k_292 32 (vP 1)) w_292_1 4000 2 w_292_1_17 = true := by decide +kernel
theorem o_292_1_18 : s_chk1 tab 248 (s_var k_292 32 (vP 1)) w_292_1 4000 2 w_292_1_18 = true := by decide +kernel
theorem o_292_1_19 : s_chk1 tab 248 (s_var k_292 32 (vP 1)) w_292_1 4000 2 w_292_1_19 = true := by decide +kernel
