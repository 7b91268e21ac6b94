/-! Checks. -/
/-- X12_sum@t3 -/
theorem o_217 : s_chk0 tab 209 k_217 u_217 4000 = true := by decide +kernel
theorem o_217_0 : s_chk1 tab 209 k_217 u_217 4000 1 u_217_0 = true := by decide +kernel
/-- X12_sum@t2 -/
theorem o_218 : s_chk0 tab 209 k_218 u_218 4000 = true := by decide +kernel
theorem o_218_0 : s_chk1 tab 209 k_218 u_218 4000 1 u_218_0 = true := by decide +kernel
/-- X12_sum@t1 -/
theorem o_219 : s_chk0 tab 209 k_219 u_219 4000 = true := by decide +kernel
theorem o_219_0 : s_chk1 tab 209 k_219 u_219 4000 1 u_219_0 = true := by decide +kernel
/-- X12_sum@t0 -/
theorem o_220 : s_chk0 tab 209 k_220 u_220 4000 = true := by decide +kernel
theorem o_220_0 : s_chk1 tab 209 k_220 u_220 4000 1 u_220_0 = true := by decide +kernel
/-- X12_sum@r4 -/
theorem o_221 : s_chk0 tab 209 k_221 u_221 4000 = true := by decide +kernel
theorem o_221_0 : s_chk1 tab 209 k_221 u_221 4000 1 u_221_0 = true := by decide +kernel
/-- X12_sum@r3 -/
theorem o_222 : s_chk0 tab 209 k_222 u_222 4000 = true := by decide +kernel
theorem o_222_0 : s_chk1 tab 209 k_222 u_222 4000 1 u_222_0 = true := by decide +kernel
/-- X12_sum@r2 -/
theorem o_223 : s_chk0 tab 209 k_223 u_223 4000 = true := by decide +kernel
theorem o_223_0 : s_chk1 tab 209 k_223 u_223 4000 1 u_223_0 = true := by decide +kernel
/-- X12_sum@r1 -/
theorem o_224 : s_chk0 tab 209 k_224 u_224 4000 = true := by decide +kernel
theorem o_224_0 : s_chk1 tab 209 k_224 u_224 4000 1 u_224_0 = true := by decide +kernel
/-- X12_sum@r0 -/
theorem o_225 : s_chk0 tab 209 k_225 u_225 4000 = true := by decide +kernel
theorem o_225_0 : s_chk1 tab 209 k_225 u_225 4000 1 u_225_0 = true := by decide +kernel
/-- X12_held@t4 -/
theorem o_226 : s_chk0 tab 208 k_226 u_226 4000 = true := by decide +kernel
/-- X12_held@t3 -/
theorem o_227 : s_chk0 tab 208 k_227 u_227 4000 = true := by decide +kernel
/-- X12_held@t2 -/
theorem o_228 : s_chk0 tab 208 k_228 u_228 4000 = true := by decide +kernel
/-- X12_held@t1 -/
theorem o_229 : s_chk0 tab 208 k_229 u_229 4000 = true := by decide +kernel
/-- X12_held@t0 -/
theorem o_230 : s_chk0 tab 208 k_230 u_230 4000 = true := by decide +kernel
/-- X12_held@r4 -/
theorem o_231 : s_chk0 tab 208 k_231 u_231 4000 = true := by decide +kernel
/-- X12_held@r3 -/
theorem o_232 : s_chk0 tab 208 k_232 u_232 4000 = true := by decide +kernel
/-- X12_held@r2 -/
theorem o_233 : s_chk0 tab 208 k_233 u_233 4000 = true := by decide +kernel
/-- X12_held@r1 -/
theorem o_234 : s_chk0 tab 208 k_234 u_234 4000 = true := by decide +kernel
/-- X12_held@r0 -/
theorem o_235 : s_chk0 tab 208 k_235 u_235 4000 = true := by decide +kernel
/-- X12_rule -/
theorem o_236 : s_chk0 tab 212 k_236 u_236 4000 = true := by decide +kernel
theorem o_236_0 : s_chk1 tab 212 k_236 u_236 4000 1 u_236_0 = true := by decide +kernel
/-- X12_lawBy -/
theorem o_237 : s_chk0 tab 214 k_237 u_237 4000 = true := by decide +kernel
/-- X12_goWeek75 -/
theorem o_238 : s_chk0 tab 235 k_238 u_238 4000 = true := by decide +kernel
theorem o_238_0 : s_chk1 tab 235 k_238 u_238 4000 1 u_238_0 = true := by decide +kernel
/-- X12_goWeek91 -/
theorem o_239 : s_chk0 tab 235 k_239 u_239 4000 = true := by decide +kernel
theorem o_239_0 : s_chk1 tab 235 k_239 u_239 4000 1 u_239_0 = true := by decide +kernel
/-- X12_weeks -/
theorem o_240 : s_chk0 tab 237 k_240 u_240 4000 = true := by decide +kernel
theorem o_240_0 : s_chk1 tab 237 k_240 u_240 4000 1 u_240_0 = true := by decide +kernel
/-- X12_act -/
theorem o_242 : s_chk0 tab 240 k_242 u_242 4000 = true := by decide +kernel
theorem o_242_0 : s_chk1 tab 240 k_242 u_242 4000 1 u_242_0 = true := by decide +kernel
/-- X12_year -/
theorem o_243 : s_chk0 tab 238 k_243 u_243 4000 = true := by decide +kernel
