/-! Checks. -/
/-- X12_lay59 -/
theorem o_165 : s_chk0 tab 228 k_165 u_165 4000 = true := by decide +kernel
/-- X12_lay118 -/
theorem o_166 : s_chk0 tab 228 k_166 u_166 4000 = true := by decide +kernel
/-- X12_undo -/
theorem o_169 : s_chk0 tab 241 k_169 u_169 4000 = true := by decide +kernel
/-- X12_again -/
theorem o_170 : s_chk0 tab 288 k_170 u_170 4000 = true := by decide +kernel
/-- X12_takes -/
theorem o_171 : s_chk0 tab 243 k_171 u_171 4000 = true := by decide +kernel
theorem o_171_0 : s_chk1 tab 243 k_171 u_171 4000 1 u_171_0 = true := by decide +kernel
/-- X12_inches -/
theorem o_172 : s_chk0 tab 289 k_172 u_172 4000 = true := by decide +kernel
theorem o_172_0 : s_chk1 tab 289 k_172 u_172 4000 1 u_172_0 = true := by decide +kernel
/-- X12_fewestPatches -/
theorem o_173 : s_chk0 tab 245 k_173 u_173 4000 = true := by decide +kernel
theorem o_173_0 : s_chk1 tab 245 k_173 u_173 4000 4 u_173_0 = true := by decide +kernel
theorem o_173_1 : s_chk1 tab 245 k_173 u_173 4000 4 u_173_1 = true := by decide +kernel
theorem o_173_2 : s_chk1 tab 245 k_173 u_173 4000 4 u_173_2 = true := by decide +kernel
/-- X12_findPatches@1 -/
theorem o_174 : s_chk0 tab 246 k_174 u_174 4000 = true := by decide +kernel
theorem o_174_0 : s_chk1 tab 246 k_174 u_174 4000 3 u_174_0 = true := by decide +kernel
theorem o_174_1 : s_chk1 tab 246 k_174 u_174 4000 3 u_174_1 = true := by decide +kernel
/-- X12_findPatches@2 -/
theorem o_175 : s_chk0 tab 246 k_175 u_175 4000 = true := by decide +kernel
theorem o_175_0 : s_chk1 tab 246 k_175 u_175 4000 3 u_175_0 = true := by decide +kernel
theorem o_175_1 : s_chk1 tab 246 k_175 u_175 4000 3 u_175_1 = true := by decide +kernel
/-- X12_findPatches@3 -/
theorem o_176 : s_chk0 tab 246 k_176 u_176 4000 = true := by decide +kernel
theorem o_176_0 : s_chk1 tab 246 k_176 u_176 4000 3 u_176_0 = true := by decide +kernel
theorem o_176_1 : s_chk1 tab 246 k_176 u_176 4000 3 u_176_1 = true := by decide +kernel
/-- X12_findPatches@4 -/
theorem o_177 : s_chk0 tab 246 k_177 u_177 4000 = true := by decide +kernel
theorem o_177_0 : s_chk1 tab 246 k_177 u_177 4000 3 u_177_0 = true := by decide +kernel
theorem o_177_1 : s_chk1 tab 246 k_177 u_177 4000 3 u_177_1 = true := by decide +kernel
/-- X12_findPatches@5 -/
theorem o_178 : s_chk0 tab 246 k_178 u_178 4000 = true := by decide +kernel
theorem o_178_0 : s_chk1 tab 246 k_178 u_178 4000 3 u_178_0 = true := by decide +kernel
theorem o_178_1 : s_chk1 tab 246 k_178 u_178 4000 3 u_178_1 = true := by decide +kernel
/-- X12_findPatches@6 -/
theorem o_179 : s_chk0 tab 246 k_179 u_179 4000 = true := by decide +kernel
theorem o_179_0 : s_chk1 tab 246 k_179 u_179 4000 3 u_179_0 = true := by decide +kernel
theorem o_179_1 : s_chk1 tab 246 k_179 u_179 4000 3 u_179_1 = true := by decide +kernel
/-- X12_findPatches@7 -/
theorem o_180 : s_chk0 tab 246 k_180 u_180 4000 = true := by decide +kernel
theorem o_180_0 : s_chk1 tab 246 k_180 u_180 4000 3 u_180_0 = true := by decide +kernel
theorem o_180_1 : s_chk1 tab 246 k_180 u_180 4000 3 u_180_1 = true := by decide +kernel
/-- X12_findPatches@8 -/
theorem o_181 : s_chk0 tab 246 k_181 u_181 4000 = true := by decide +kernel
theorem o_181_0 : s_chk1 tab 246 k_181 u_181 4000 3 u_181_0 = true := by decide +kernel
theorem o_181_1 : s_chk1 tab 246 k_181 u_181 4000 3 u_181_1 = true := by decide +kernel
/-- X12_findPatches@9 -/
theorem o_182 : s_chk0 tab 246 k_182 u_182 4000 = true := by decide +kernel
theorem o_182_0 : s_chk1 tab 246 k_182 u_182 4000 3 u_182_0 = true := by decide +kernel
