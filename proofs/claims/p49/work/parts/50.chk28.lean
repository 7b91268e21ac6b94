/-! Checks. -/
theorem o_293_18 : s_chk0 tab 248 (s_var k_293 32 (vP 18)) w_293_18 4000 = true := by decide +kernel
theorem o_293_18_0 : s_chk1 tab 248 (s_var k_293 32 (vP 18)) w_293_18 4000 2 w_293_18_0 = true := by decide +kernel
theorem o_293_18_1 : s_chk1 tab 248 (s_var k_293 32 (vP 18)) w_293_18 4000 2 w_293_18_1 = true := by decide +kernel
theorem o_293_18_2 : s_chk1 tab 248 (s_var k_293 32 (vP 18)) w_293_18 4000 2 w_293_18_2 = true := by decide +kernel
theorem o_293_19 : s_chk0 tab 248 (s_var k_293 32 (vP 19)) w_293_19 4000 = true := by decide +kernel
theorem o_293_19_0 : s_chk1 tab 248 (s_var k_293 32 (vP 19)) w_293_19 4000 2 w_293_19_0 = true := by decide +kernel
theorem o_293_19_1 : s_chk1 tab 248 (s_var k_293 32 (vP 19)) w_293_19 4000 2 w_293_19_1 = true := by decide +kernel
theorem o_293_20 : s_chk0 tab 248 (s_var k_293 32 (vP 20)) w_293_20 4000 = true := by decide +kernel
theorem o_293_20_0 : s_chk1 tab 248 (s_var k_293 32 (vP 20)) w_293_20 4000 1 w_293_20_0 = true := by decide +kernel
/-- X12_ahead -/
theorem o_294 : s_chk0 tab 249 k_294 u_294 4000 = true := by decide +kernel
theorem o_294_0 : s_chk1 tab 249 k_294 u_294 4000 1 u_294_0 = true := by decide +kernel
/-- X12_longest -/
theorem o_295 : s_chk0 tab 250 k_295 u_295 4000 = true := by decide +kernel
theorem o_295_0 : s_chk1 tab 250 k_295 u_295 4000 1 u_295_0 = true := by decide +kernel
/-- X12_lengths -/
theorem o_296 : s_chk0 tab 251 k_296 u_296 4000 = true := by decide +kernel
theorem o_296_0 : s_chk1 tab 251 k_296 u_296 4000 2 u_296_0 = true := by decide +kernel
theorem o_296_1 : s_chk1 tab 251 k_296 u_296 4000 2 u_296_1 = true := by decide +kernel
theorem o_296_2 : s_chk1 tab 251 k_296 u_296 4000 2 u_296_2 = true := by decide +kernel
/-- X12_serves -/
theorem o_297 : s_chk0 tab 253 k_297 u_297 4000 = true := by decide +kernel
theorem o_297_0 : s_chk1 tab 253 k_297 u_297 4000 1 u_297_0 = true := by decide +kernel
/-- X12_best -/
theorem o_298 : s_chk0 tab 254 k_298 u_298 4000 = true := by decide +kernel
theorem o_298_0 : s_chk1 tab 254 k_298 u_298 4000 3 u_298_0 = true := by decide +kernel
theorem o_298_1 : s_chk1 tab 254 k_298 u_298 4000 3 u_298_1 = true := by decide +kernel
/-- X12_same -/
theorem o_299 : s_chk0 tab 255 k_299 u_299 4000 = true := by decide +kernel
theorem o_299_0 : s_chk1 tab 255 k_299 u_299 4000 1 u_299_0 = true := by decide +kernel
/-- X12_plan -/
theorem o_300 : s_chk0 tab 258 k_300 u_300 4000 = true := by decide +kernel
theorem o_300_0 : s_chk1 tab 258 k_300 u_300 4000 4 u_300_0 = true := by decide +kernel
theorem o_300_1 : s_chk1 tab 258 k_300 u_300 4000 4 u_300_1 = true := by decide +kernel
theorem o_300_2 : s_chk1 tab 258 k_300 u_300 4000 4 u_300_2 = true := by decide +kernel
theorem o_300_3 : s_chk1 tab 258 k_300 u_300 4000 4 u_300_3 = true := by decide +kernel
/-- X12_plain -/
theorem o_301 : s_chk0 tab 259 k_301 u_301 4000 = true := by decide +kernel
theorem o_301_0 : s_chk1 tab 259 k_301 u_301 4000 1 u_301_0 = true := by decide +kernel
/-- X12_idle -/
theorem o_302 : s_chk0 tab 260 k_302 u_302 4000 = true := by decide +kernel
theorem o_302_0 : s_chk1 tab 260 k_302 u_302 4000 2 u_302_0 = true := by decide +kernel
theorem o_302_1 : s_chk1 tab 260 k_302 u_302 4000 2 u_302_1 = true := by decide +kernel
/-- X12_nearest -/
theorem o_303 : s_chk0 tab 262 k_303 u_303 4000 = true := by decide +kernel
theorem o_303_0 : s_chk1 tab 262 k_303 u_303 4000 1 u_303_0 = true := by decide +kernel
/-- X12_dress -/
theorem o_304 : s_chk0 tab 264 k_304 u_304 4000 = true := by decide +kernel
theorem o_304_0 : s_chk1 tab 264 k_304 u_304 4000 4 u_304_0 = true := by decide +kernel
theorem o_304_1 : s_chk1 tab 264 k_304 u_304 4000 4 u_304_1 = true := by decide +kernel
theorem o_304_2 : s_chk1 tab 264 k_304 u_304 4000 4 u_304_2 = true := by decide +kernel
