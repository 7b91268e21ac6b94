/-! Checks. -/
theorem o_292_18 : s_chk0 tab 248 (s_var k_292 32 (vP 18)) w_292_18 4000 = true := by decide +kernel
theorem o_292_18_0 : s_chk1 tab 248 (s_var k_292 32 (vP 18)) w_292_18 4000 2 w_292_18_0 = true := by decide +kernel
theorem o_292_18_1 : s_chk1 tab 248 (s_var k_292 32 (vP 18)) w_292_18 4000 2 w_292_18_1 = true := by decide +kernel
theorem o_292_18_2 : s_chk1 tab 248 (s_var k_292 32 (vP 18)) w_292_18 4000 2 w_292_18_2 = true := by decide +kernel
theorem o_292_19 : s_chk0 tab 248 (s_var k_292 32 (vP 19)) w_292_19 4000 = true := by decide +kernel
theorem o_292_19_0 : s_chk1 tab 248 (s_var k_292 32 (vP 19)) w_292_19 4000 2 w_292_19_0 = true := by decide +kernel
theorem o_292_19_1 : s_chk1 tab 248 (s_var k_292 32 (vP 19)) w_292_19 4000 2 w_292_19_1 = true := by decide +kernel
theorem o_292_20 : s_chk0 tab 248 (s_var k_292 32 (vP 20)) w_292_20 4000 = true := by decide +kernel
theorem o_292_20_0 : s_chk1 tab 248 (s_var k_292 32 (vP 20)) w_292_20 4000 1 w_292_20_0 = true := by decide +kernel
/-- X12_ahead -/
theorem o_293 : s_chk0 tab 249 k_293 u_293 4000 = true := by decide +kernel
theorem o_293_0 : s_chk1 tab 249 k_293 u_293 4000 1 u_293_0 = true := by decide +kernel
/-- X12_longest -/
theorem o_294 : s_chk0 tab 250 k_294 u_294 4000 = true := by decide +kernel
theorem o_294_0 : s_chk1 tab 250 k_294 u_294 4000 1 u_294_0 = true := by decide +kernel
/-- X12_lengths -/
theorem o_295 : s_chk0 tab 251 k_295 u_295 4000 = true := by decide +kernel
theorem o_295_0 : s_chk1 tab 251 k_295 u_295 4000 2 u_295_0 = true := by decide +kernel
theorem o_295_1 : s_chk1 tab 251 k_295 u_295 4000 2 u_295_1 = true := by decide +kernel
theorem o_295_2 : s_chk1 tab 251 k_295 u_295 4000 2 u_295_2 = true := by decide +kernel
/-- X12_serves -/
theorem o_296 : s_chk0 tab 253 k_296 u_296 4000 = true := by decide +kernel
theorem o_296_0 : s_chk1 tab 253 k_296 u_296 4000 1 u_296_0 = true := by decide +kernel
/-- X12_best -/
theorem o_297 : s_chk0 tab 254 k_297 u_297 4000 = true := by decide +kernel
theorem o_297_0 : s_chk1 tab 254 k_297 u_297 4000 3 u_297_0 = true := by decide +kernel
theorem o_297_1 : s_chk1 tab 254 k_297 u_297 4000 3 u_297_1 = true := by decide +kernel
/-- X12_same -/
theorem o_298 : s_chk0 tab 255 k_298 u_298 4000 = true := by decide +kernel
theorem o_298_0 : s_chk1 tab 255 k_298 u_298 4000 1 u_298_0 = true := by decide +kernel
/-- X12_plan -/
theorem o_299 : s_chk0 tab 258 k_299 u_299 4000 = true := by decide +kernel
theorem o_299_0 : s_chk1 tab 258 k_299 u_299 4000 4 u_299_0 = true := by decide +kernel
theorem o_299_1 : s_chk1 tab 258 k_299 u_299 4000 4 u_299_1 = true := by decide +kernel
theorem o_299_2 : s_chk1 tab 258 k_299 u_299 4000 4 u_299_2 = true := by decide +kernel
theorem o_299_3 : s_chk1 tab 258 k_299 u_299 4000 4 u_299_3 = true := by decide +kernel
/-- X12_plain -/
theorem o_300 : s_chk0 tab 259 k_300 u_300 4000 = true := by decide +kernel
theorem o_300_0 : s_chk1 tab 259 k_300 u_300 4000 1 u_300_0 = true := by decide +kernel
/-- X12_idle -/
theorem o_301 : s_chk0 tab 260 k_301 u_301 4000 = true := by decide +kernel
theorem o_301_0 : s_chk1 tab 260 k_301 u_301 4000 2 u_301_0 = true := by decide +kernel
theorem o_301_1 : s_chk1 tab 260 k_301 u_301 4000 2 u_301_1 = true := by decide +kernel
/-- X12_nearest -/
theorem o_302 : s_chk0 tab 262 k_302 u_302 4000 = true := by decide +kernel
theorem o_302_0 : s_chk1 tab 262 k_302 u_302 4000 1 u_302_0 = true := by decide +kernel
/-- X12_dress -/
theorem o_303 : s_chk0 tab 264 k_303 u_303 4000 = true := by decide +kernel
theorem o_303_0 : s_chk1 tab 264 k_303 u_303 4000 4 u_303_0 = true := by decide +kernel
theorem o_303_1 : s_chk1 tab 264 k_303 u_303 4000 4 u_303_1 = true := by decide +kernel
theorem o_303_2 : s_chk1 tab 264 k_303 u_303 4000 4 u_303_2 = true := by decide +kernel
