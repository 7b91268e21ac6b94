/-! Checks. -/
/-- X12_thing@t3 -/
theorem o_197 : s_chk0 tab 211 k_197 u_197 4000 = true := by decide +kernel
theorem o_197_0 : s_chk1 tab 211 k_197 u_197 4000 1 u_197_0 = true := by decide +kernel
/-- X12_thing@t2 -/
theorem o_198 : s_chk0 tab 211 k_198 u_198 4000 = true := by decide +kernel
theorem o_198_0 : s_chk1 tab 211 k_198 u_198 4000 1 u_198_0 = true := by decide +kernel
/-- X12_thing@t1 -/
theorem o_199 : s_chk0 tab 211 k_199 u_199 4000 = true := by decide +kernel
theorem o_199_0 : s_chk1 tab 211 k_199 u_199 4000 1 u_199_0 = true := by decide +kernel
/-- X12_thing@t0 -/
theorem o_200 : s_chk0 tab 211 k_200 u_200 4000 = true := by decide +kernel
theorem o_200_0 : s_chk1 tab 211 k_200 u_200 4000 1 u_200_0 = true := by decide +kernel
/-- X12_thing@r4 -/
theorem o_201 : s_chk0 tab 211 k_201 u_201 4000 = true := by decide +kernel
theorem o_201_0 : s_chk1 tab 211 k_201 u_201 4000 1 u_201_0 = true := by decide +kernel
/-- X12_thing@r3 -/
theorem o_202 : s_chk0 tab 211 k_202 u_202 4000 = true := by decide +kernel
theorem o_202_0 : s_chk1 tab 211 k_202 u_202 4000 1 u_202_0 = true := by decide +kernel
/-- X12_thing@r2 -/
theorem o_203 : s_chk0 tab 211 k_203 u_203 4000 = true := by decide +kernel
theorem o_203_0 : s_chk1 tab 211 k_203 u_203 4000 1 u_203_0 = true := by decide +kernel
/-- X12_thing@r1 -/
theorem o_204 : s_chk0 tab 211 k_204 u_204 4000 = true := by decide +kernel
theorem o_204_0 : s_chk1 tab 211 k_204 u_204 4000 1 u_204_0 = true := by decide +kernel
/-- X12_thing@r0 -/
theorem o_205 : s_chk0 tab 211 k_205 u_205 4000 = true := by decide +kernel
theorem o_205_0 : s_chk1 tab 211 k_205 u_205 4000 1 u_205_0 = true := by decide +kernel
/-- X12_product@t4 -/
theorem o_206 : s_chk0 tab 210 k_206 u_206 4000 = true := by decide +kernel
theorem o_206_0 : s_chk1 tab 210 k_206 u_206 4000 1 u_206_0 = true := by decide +kernel
/-- X12_product@t3 -/
theorem o_207 : s_chk0 tab 210 k_207 u_207 4000 = true := by decide +kernel
theorem o_207_0 : s_chk1 tab 210 k_207 u_207 4000 1 u_207_0 = true := by decide +kernel
/-- X12_product@t2 -/
theorem o_208 : s_chk0 tab 210 k_208 u_208 4000 = true := by decide +kernel
theorem o_208_0 : s_chk1 tab 210 k_208 u_208 4000 1 u_208_0 = true := by decide +kernel
/-- X12_product@t1 -/
theorem o_209 : s_chk0 tab 210 k_209 u_209 4000 = true := by decide +kernel
theorem o_209_0 : s_chk1 tab 210 k_209 u_209 4000 1 u_209_0 = true := by decide +kernel
/-- X12_product@t0 -/
theorem o_210 : s_chk0 tab 210 k_210 u_210 4000 = true := by decide +kernel
theorem o_210_0 : s_chk1 tab 210 k_210 u_210 4000 1 u_210_0 = true := by decide +kernel
/-- X12_product@r4 -/
theorem o_211 : s_chk0 tab 210 k_211 u_211 4000 = true := by decide +kernel
theorem o_211_0 : s_chk1 tab 210 k_211 u_211 4000 1 u_211_0 = true := by decide +kernel
/-- X12_product@r3 -/
theorem o_212 : s_chk0 tab 210 k_212 u_212 4000 = true := by decide +kernel
theorem o_212_0 : s_chk1 tab 210 k_212 u_212 4000 1 u_212_0 = true := by decide +kernel
/-- X12_product@r2 -/
theorem o_213 : s_chk0 tab 210 k_213 u_213 4000 = true := by decide +kernel
theorem o_213_0 : s_chk1 tab 210 k_213 u_213 4000 1 u_213_0 = true := by decide +kernel
/-- X12_product@r1 -/
theorem o_214 : s_chk0 tab 210 k_214 u_214 4000 = true := by decide +kernel
theorem o_214_0 : s_chk1 tab 210 k_214 u_214 4000 1 u_214_0 = true := by decide +kernel
/-- X12_product@r0 -/
theorem o_215 : s_chk0 tab 210 k_215 u_215 4000 = true := by decide +kernel
theorem o_215_0 : s_chk1 tab 210 k_215 u_215 4000 1 u_215_0 = true := by decide +kernel
/-- X12_sum@t4 -/
theorem o_216 : s_chk0 tab 209 k_216 u_216 4000 = true := by decide +kernel
theorem o_216_0 : s_chk1 tab 209 k_216 u_216 4000 1 u_216_0 = true := by decide +kernel
