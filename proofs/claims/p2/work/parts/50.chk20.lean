/-! Checks. -/
theorem o_254_19 : s_chk1 tab 282 k_254 u_254 4000 2 u_254_19 = true := by decide +kernel
theorem o_254_20 : s_chk1 tab 282 k_254 u_254 4000 2 u_254_20 = true := by decide +kernel
theorem o_254_21 : s_chk1 tab 282 k_254 u_254 4000 2 u_254_21 = true := by decide +kernel
theorem o_254_22 : s_chk1 tab 282 k_254 u_254 4000 2 u_254_22 = true := by decide +kernel
theorem o_254_23 : s_chk1 tab 282 k_254 u_254 4000 2 u_254_23 = true := by decide +kernel
theorem o_254_24 : s_chk1 tab 282 k_254 u_254 4000 2 u_254_24 = true := by decide +kernel
theorem o_254_25 : s_chk1 tab 282 k_254 u_254 4000 2 u_254_25 = true := by decide +kernel
theorem o_254_26 : s_chk1 tab 282 k_254 u_254 4000 2 u_254_26 = true := by decide +kernel
theorem o_254_27 : s_chk1 tab 282 k_254 u_254 4000 2 u_254_27 = true := by decide +kernel
theorem o_254_28 : s_chk1 tab 282 k_254 u_254 4000 2 u_254_28 = true := by decide +kernel
theorem o_254_29 : s_chk1 tab 282 k_254 u_254 4000 2 u_254_29 = true := by decide +kernel
theorem o_254_30 : s_chk1 tab 282 k_254 u_254 4000 2 u_254_30 = true := by decide +kernel
theorem o_254_31 : s_chk1 tab 282 k_254 u_254 4000 2 u_254_31 = true := by decide +kernel
theorem o_254_32 : s_chk1 tab 282 k_254 u_254 4000 2 u_254_32 = true := by decide +kernel
theorem o_254_33 : s_chk1 tab 282 k_254 u_254 4000 2 u_254_33 = true := by decide +kernel
theorem o_254_34 : s_chk1 tab 282 k_254 u_254 4000 2 u_254_34 = true := by decide +kernel
theorem o_254_35 : s_chk1 tab 282 k_254 u_254 4000 2 u_254_35 = true := by decide +kernel
/-- X12_goDress@6 -/
theorem o_255 : s_chk0 tab 263 k_255 u_255 4000 = true := by decide +kernel
theorem o_255_0 : s_chk1 tab 263 k_255 u_255 4000 1 u_255_0 = true := by decide +kernel
/-- X12_goDress@5 -/
theorem o_256 : s_chk0 tab 263 k_256 u_256 4000 = true := by decide +kernel
theorem o_256_0 : s_chk1 tab 263 k_256 u_256 4000 2 u_256_0 = true := by decide +kernel
theorem o_256_1 : s_chk1 tab 263 k_256 u_256 4000 2 u_256_1 = true := by decide +kernel
/-- X12_goDress@4 -/
theorem o_257 : s_chk0 tab 263 k_257 u_257 4000 = true := by decide +kernel
theorem o_257_0 : s_chk1 tab 263 k_257 u_257 4000 2 u_257_0 = true := by decide +kernel
theorem o_257_1 : s_chk1 tab 263 k_257 u_257 4000 2 u_257_1 = true := by decide +kernel
/-- X12_goDress@3 -/
theorem o_258 : s_chk0 tab 263 k_258 u_258 4000 = true := by decide +kernel
theorem o_258_0 : s_chk1 tab 263 k_258 u_258 4000 2 u_258_0 = true := by decide +kernel
theorem o_258_1 : s_chk1 tab 263 k_258 u_258 4000 2 u_258_1 = true := by decide +kernel
/-- X12_goDress@2 -/
theorem o_259 : s_chk0 tab 263 k_259 u_259 4000 = true := by decide +kernel
theorem o_259_0 : s_chk1 tab 263 k_259 u_259 4000 2 u_259_0 = true := by decide +kernel
theorem o_259_1 : s_chk1 tab 263 k_259 u_259 4000 2 u_259_1 = true := by decide +kernel
/-- X12_goDress@1 -/
theorem o_260 : s_chk0 tab 263 k_260 u_260 4000 = true := by decide +kernel
theorem o_260_0 : s_chk1 tab 263 k_260 u_260 4000 2 u_260_0 = true := by decide +kernel
theorem o_260_1 : s_chk1 tab 263 k_260 u_260 4000 2 u_260_1 = true := by decide +kernel
/-- X12_goDress@0 -/
theorem o_261 : s_chk0 tab 263 k_261 u_261 4000 = true := by decide +kernel
theorem o_261_0 : s_chk1 tab 263 k_261 u_261 4000 2 u_261_0 = true := by decide +kernel
theorem o_261_1 : s_chk1 tab 263 k_261 u_261 4000 2 u_261_1 = true := by decide +kernel
/-- X12_canReady -/
theorem o_262 : s_chk0 tab 265 k_262 u_262 4000 = true := by decide +kernel
theorem o_262_0 : s_chk1 tab 265 k_262 u_262 4000 1 u_262_0 = true := by decide +kernel
/-- X12_goOrder@7 -/
theorem o_263 : s_chk0 tab 280 k_263 u_263 4000 = true := by decide +kernel
