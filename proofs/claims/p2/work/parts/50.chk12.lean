/-! Checks. -/
/-- X11_way -/
theorem o_142 : s_chk0 tab 146 k_142 u_142 4000 = true := by decide +kernel
/-- X11_trunk -/
theorem o_143 : s_chk0 tab 147 k_143 u_143 4000 = true := by decide +kernel
theorem o_143_0 : s_chk1 tab 147 k_143 u_143 4000 1 u_143_0 = true := by decide +kernel
/-- X11_seen -/
theorem o_144 : s_chk0 tab 148 k_144 u_144 4000 = true := by decide +kernel
/-- X11_forget -/
theorem o_145 : s_chk0 tab 149 k_145 u_145 4000 = true := by decide +kernel
/-- X11_fines -/
theorem o_146 : s_chk0 tab 150 k_146 u_146 4000 = true := by decide +kernel
theorem o_146_0 : s_chk1 tab 150 k_146 u_146 4000 1 u_146_0 = true := by decide +kernel
/-- X11_lags -/
theorem o_147 : s_chk0 tab 151 k_147 u_147 4000 = true := by decide +kernel
theorem o_147_0 : s_chk1 tab 151 k_147 u_147 4000 1 u_147_0 = true := by decide +kernel
/-- X11_heights -/
theorem o_148 : s_chk0 tab 152 k_148 u_148 4000 = true := by decide +kernel
theorem o_148_0 : s_chk1 tab 152 k_148 u_148 4000 1 u_148_0 = true := by decide +kernel
/-- X11_job -/
theorem o_149 : s_chk0 tab 153 k_149 u_149 4000 = true := by decide +kernel
/-- X11_rest -/
theorem o_150 : s_chk0 tab 154 k_150 u_150 4000 = true := by decide +kernel
/-- X11_late -/
theorem o_151 : s_chk0 tab 155 k_151 u_151 4000 = true := by decide +kernel
/-- X11_timely -/
theorem o_152 : s_chk0 tab 156 k_152 u_152 4000 = true := by decide +kernel
/-- X11_hired -/
theorem o_153 : s_chk0 tab 157 k_153 u_153 4000 = true := by decide +kernel
/-- X11_draw -/
theorem o_154 : s_chk0 tab 158 k_154 u_154 4000 = true := by decide +kernel
/-- X11_keep -/
theorem o_155 : s_chk0 tab 159 k_155 u_155 4000 = true := by decide +kernel
/-- X11_again -/
theorem o_156 : s_chk0 tab 160 k_156 u_156 4000 = true := by decide +kernel
/-- X11_count -/
theorem o_157 : s_chk0 tab 161 k_157 u_157 4000 = true := by decide +kernel
/-- X12_sign -/
theorem o_158 : s_chk0 tab 195 k_158 u_158 4000 = true := by decide +kernel
/-- X12_almanac -/
theorem o_159 : s_chk0 tab 205 k_159 u_159 4000 = true := by decide +kernel
theorem o_159_0 : s_chk1 tab 205 k_159 u_159 4000 4 u_159_0 = true := by decide +kernel
theorem o_159_1 : s_chk1 tab 205 k_159 u_159 4000 4 u_159_1 = true := by decide +kernel
theorem o_159_2 : s_chk1 tab 205 k_159 u_159 4000 4 u_159_2 = true := by decide +kernel
theorem o_159_3 : s_chk1 tab 205 k_159 u_159 4000 4 u_159_3 = true := by decide +kernel
theorem o_159_4 : s_chk1 tab 205 k_159 u_159 4000 4 u_159_4 = true := by decide +kernel
theorem o_159_5 : s_chk1 tab 205 k_159 u_159 4000 4 u_159_5 = true := by decide +kernel
/-- X12_house -/
theorem o_160 : s_chk0 tab 206 k_160 u_160 4000 = true := by decide +kernel
theorem o_160_0 : s_chk1 tab 206 k_160 u_160 4000 2 u_160_0 = true := by decide +kernel
theorem o_160_1 : s_chk1 tab 206 k_160 u_160 4000 2 u_160_1 = true := by decide +kernel
theorem o_160_2 : s_chk1 tab 206 k_160 u_160 4000 2 u_160_2 = true := by decide +kernel
theorem o_160_3 : s_chk1 tab 206 k_160 u_160 4000 2 u_160_3 = true := by decide +kernel
/-- X12_draw -/
theorem o_161 : s_chk0 tab 286 k_161 u_161 4000 = true := by decide +kernel
theorem o_161_0 : s_chk1 tab 286 k_161 u_161 4000 1 u_161_0 = true := by decide +kernel
/-- X12_wearer -/
theorem o_162 : s_chk0 tab 217 k_162 u_162 4000 = true := by decide +kernel
theorem o_162_0 : s_chk1 tab 217 k_162 u_162 4000 1 u_162_0 = true := by decide +kernel
/-- X12_sheet -/
theorem o_163 : s_chk0 tab 223 k_163 u_163 4000 = true := by decide +kernel
theorem o_163_0 : s_chk1 tab 223 k_163 u_163 4000 1 u_163_0 = true := by decide +kernel
/-- X12_lay708 -/
theorem o_164 : s_chk0 tab 228 k_164 u_164 4000 = true := by decide +kernel
