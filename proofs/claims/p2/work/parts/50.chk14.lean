/-! Checks. -/
theorem o_182_1 : s_chk1 tab 246 k_182 u_182 4000 3 u_182_1 = true := by decide +kernel
/-- X12_findPatches@10 -/
theorem o_183 : s_chk0 tab 246 k_183 u_183 4000 = true := by decide +kernel
theorem o_183_0 : s_chk1 tab 246 k_183 u_183 4000 3 u_183_0 = true := by decide +kernel
theorem o_183_1 : s_chk1 tab 246 k_183 u_183 4000 3 u_183_1 = true := by decide +kernel
/-- X12_findPatches@11 -/
theorem o_184 : s_chk0 tab 246 k_184 u_184 4000 = true := by decide +kernel
theorem o_184_0 : s_chk1 tab 246 k_184 u_184 4000 3 u_184_0 = true := by decide +kernel
theorem o_184_1 : s_chk1 tab 246 k_184 u_184 4000 3 u_184_1 = true := by decide +kernel
/-- X12_findPatches@12 -/
theorem o_185 : s_chk0 tab 246 k_185 u_185 4000 = true := by decide +kernel
theorem o_185_0 : s_chk1 tab 246 k_185 u_185 4000 3 u_185_0 = true := by decide +kernel
theorem o_185_1 : s_chk1 tab 246 k_185 u_185 4000 3 u_185_1 = true := by decide +kernel
/-- X12_findPatches@13 -/
theorem o_186 : s_chk0 tab 246 k_186 u_186 4000 = true := by decide +kernel
theorem o_186_0 : s_chk1 tab 246 k_186 u_186 4000 3 u_186_0 = true := by decide +kernel
theorem o_186_1 : s_chk1 tab 246 k_186 u_186 4000 3 u_186_1 = true := by decide +kernel
/-- X12_findPatches@14 -/
theorem o_187 : s_chk0 tab 246 k_187 u_187 4000 = true := by decide +kernel
theorem o_187_0 : s_chk1 tab 246 k_187 u_187 4000 3 u_187_0 = true := by decide +kernel
theorem o_187_1 : s_chk1 tab 246 k_187 u_187 4000 3 u_187_1 = true := by decide +kernel
/-- X12_findPatches@15 -/
theorem o_188 : s_chk0 tab 246 k_188 u_188 4000 = true := by decide +kernel
theorem o_188_0 : s_chk1 tab 246 k_188 u_188 4000 3 u_188_0 = true := by decide +kernel
theorem o_188_1 : s_chk1 tab 246 k_188 u_188 4000 3 u_188_1 = true := by decide +kernel
/-- X12_findPatches@16 -/
theorem o_189 : s_chk0 tab 246 k_189 u_189 4000 = true := by decide +kernel
theorem o_189_0 : s_chk1 tab 246 k_189 u_189 4000 3 u_189_0 = true := by decide +kernel
theorem o_189_1 : s_chk1 tab 246 k_189 u_189 4000 3 u_189_1 = true := by decide +kernel
/-- X12_findPatches@17 -/
theorem o_190 : s_chk0 tab 246 k_190 u_190 4000 = true := by decide +kernel
theorem o_190_0 : s_chk1 tab 246 k_190 u_190 4000 3 u_190_0 = true := by decide +kernel
theorem o_190_1 : s_chk1 tab 246 k_190 u_190 4000 3 u_190_1 = true := by decide +kernel
/-- X12_findPatches@18 -/
theorem o_191 : s_chk0 tab 246 k_191 u_191 4000 = true := by decide +kernel
theorem o_191_0 : s_chk1 tab 246 k_191 u_191 4000 3 u_191_0 = true := by decide +kernel
theorem o_191_1 : s_chk1 tab 246 k_191 u_191 4000 3 u_191_1 = true := by decide +kernel
/-- X12_findPatches@19 -/
theorem o_192 : s_chk0 tab 246 k_192 u_192 4000 = true := by decide +kernel
theorem o_192_0 : s_chk1 tab 246 k_192 u_192 4000 3 u_192_0 = true := by decide +kernel
theorem o_192_1 : s_chk1 tab 246 k_192 u_192 4000 3 u_192_1 = true := by decide +kernel
/-- X12_findPatches@20 -/
theorem o_193 : s_chk0 tab 246 k_193 u_193 4000 = true := by decide +kernel
theorem o_193_0 : s_chk1 tab 246 k_193 u_193 4000 3 u_193_0 = true := by decide +kernel
theorem o_193_1 : s_chk1 tab 246 k_193 u_193 4000 3 u_193_1 = true := by decide +kernel
/-- X12_findPatches@0 -/
theorem o_194 : s_chk0 tab 246 k_194 u_194 4000 = true := by decide +kernel
/-- X12_findPatches -/
theorem o_195 : s_chk0 tab 246 k_195 u_195 4000 = true := by decide +kernel
theorem o_195_0 : s_chk1 tab 246 k_195 u_195 4000 3 u_195_0 = true := by decide +kernel
theorem o_195_1 : s_chk1 tab 246 k_195 u_195 4000 3 u_195_1 = true := by decide +kernel
/-- X12_thing@t4 -/
theorem o_196 : s_chk0 tab 211 k_196 u_196 4000 = true := by decide +kernel
theorem o_196_0 : s_chk1 tab 211 k_196 u_196 4000 1 u_196_0 = true := by decide +kernel
