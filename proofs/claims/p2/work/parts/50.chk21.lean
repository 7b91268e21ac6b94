/-! Checks. -/
theorem o_263_0 : s_chk1 tab 280 k_263 u_263 4000 1 u_263_0 = true := by decide +kernel
/-- X12_goOrder@6 -/
theorem o_264 : s_chk0 tab 280 k_264 u_264 4000 = true := by decide +kernel
theorem o_264_0 : s_chk1 tab 280 k_264 u_264 4000 2 u_264_0 = true := by decide +kernel
theorem o_264_1 : s_chk1 tab 280 k_264 u_264 4000 2 u_264_1 = true := by decide +kernel
/-- X12_goOrder@5 -/
theorem o_265 : s_chk0 tab 280 k_265 u_265 4000 = true := by decide +kernel
theorem o_265_0 : s_chk1 tab 280 k_265 u_265 4000 2 u_265_0 = true := by decide +kernel
theorem o_265_1 : s_chk1 tab 280 k_265 u_265 4000 2 u_265_1 = true := by decide +kernel
/-- X12_goOrder@4 -/
theorem o_266 : s_chk0 tab 280 k_266 u_266 4000 = true := by decide +kernel
theorem o_266_0 : s_chk1 tab 280 k_266 u_266 4000 2 u_266_0 = true := by decide +kernel
theorem o_266_1 : s_chk1 tab 280 k_266 u_266 4000 2 u_266_1 = true := by decide +kernel
/-- X12_goOrder@3 -/
theorem o_267 : s_chk0 tab 280 k_267 u_267 4000 = true := by decide +kernel
theorem o_267_0 : s_chk1 tab 280 k_267 u_267 4000 2 u_267_0 = true := by decide +kernel
theorem o_267_1 : s_chk1 tab 280 k_267 u_267 4000 2 u_267_1 = true := by decide +kernel
/-- X12_goOrder@2 -/
theorem o_268 : s_chk0 tab 280 k_268 u_268 4000 = true := by decide +kernel
theorem o_268_0 : s_chk1 tab 280 k_268 u_268 4000 2 u_268_0 = true := by decide +kernel
theorem o_268_1 : s_chk1 tab 280 k_268 u_268 4000 2 u_268_1 = true := by decide +kernel
/-- X12_goOrder@1 -/
theorem o_269 : s_chk0 tab 280 k_269 u_269 4000 = true := by decide +kernel
theorem o_269_0 : s_chk1 tab 280 k_269 u_269 4000 2 u_269_0 = true := by decide +kernel
theorem o_269_1 : s_chk1 tab 280 k_269 u_269 4000 2 u_269_1 = true := by decide +kernel
/-- X12_goOrder@0 -/
theorem o_270 : s_chk0 tab 280 k_270 u_270 4000 = true := by decide +kernel
theorem o_270_0 : s_chk1 tab 280 k_270 u_270 4000 2 u_270_0 = true := by decide +kernel
theorem o_270_1 : s_chk1 tab 280 k_270 u_270 4000 2 u_270_1 = true := by decide +kernel
/-- X12_goHired@7 -/
theorem o_271 : s_chk0 tab 284 k_271 u_271 4000 = true := by decide +kernel
theorem o_271_0 : s_chk1 tab 284 k_271 u_271 4000 1 u_271_0 = true := by decide +kernel
/-- X12_goHired@6 -/
theorem o_272 : s_chk0 tab 284 k_272 u_272 4000 = true := by decide +kernel
theorem o_272_0 : s_chk1 tab 284 k_272 u_272 4000 2 u_272_0 = true := by decide +kernel
theorem o_272_1 : s_chk1 tab 284 k_272 u_272 4000 2 u_272_1 = true := by decide +kernel
/-- X12_goHired@5 -/
theorem o_273 : s_chk0 tab 284 k_273 u_273 4000 = true := by decide +kernel
theorem o_273_0 : s_chk1 tab 284 k_273 u_273 4000 2 u_273_0 = true := by decide +kernel
theorem o_273_1 : s_chk1 tab 284 k_273 u_273 4000 2 u_273_1 = true := by decide +kernel
/-- X12_goHired@4 -/
theorem o_274 : s_chk0 tab 284 k_274 u_274 4000 = true := by decide +kernel
theorem o_274_0 : s_chk1 tab 284 k_274 u_274 4000 2 u_274_0 = true := by decide +kernel
theorem o_274_1 : s_chk1 tab 284 k_274 u_274 4000 2 u_274_1 = true := by decide +kernel
/-- X12_goHired@3 -/
theorem o_275 : s_chk0 tab 284 k_275 u_275 4000 = true := by decide +kernel
theorem o_275_0 : s_chk1 tab 284 k_275 u_275 4000 2 u_275_0 = true := by decide +kernel
theorem o_275_1 : s_chk1 tab 284 k_275 u_275 4000 2 u_275_1 = true := by decide +kernel
/-- X12_goHired@2 -/
theorem o_276 : s_chk0 tab 284 k_276 u_276 4000 = true := by decide +kernel
theorem o_276_0 : s_chk1 tab 284 k_276 u_276 4000 2 u_276_0 = true := by decide +kernel
theorem o_276_1 : s_chk1 tab 284 k_276 u_276 4000 2 u_276_1 = true := by decide +kernel
/-- X12_goHired@1 -/
theorem o_277 : s_chk0 tab 284 k_277 u_277 4000 = true := by decide +kernel
