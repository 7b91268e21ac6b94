/-! Checks. -/
theorem o_110_7_1 : s_chk1 tab 99 (s_var k_110 0 (vP 7)) w_110_7 4000 2 w_110_7_1 = true := by decide +kernel
theorem o_110_7_2 : s_chk1 tab 99 (s_var k_110 0 (vP 7)) w_110_7 4000 2 w_110_7_2 = true := by decide +kernel
/-- X11_sign -/
theorem o_111 : s_chk0 tab 112 k_111 u_111 4000 = true := by decide +kernel
/-- X11_end -/
theorem o_112 : s_chk0 tab 113 k_112 u_112 4000 = true := by decide +kernel
/-- X11_almanac -/
theorem o_113 : s_chk0 tab 114 k_113 u_113 4000 = true := by decide +kernel
/-- X11_house -/
theorem o_114 : s_chk0 tab 115 k_114 u_114 4000 = true := by decide +kernel
/-- X11_rule -/
theorem o_115 : s_chk0 tab 116 k_115 u_115 4000 = true := by decide +kernel
/-- X11_light -/
theorem o_116 : s_chk0 tab 119 k_116 u_116 4000 = true := by decide +kernel
/-- X11_law -/
theorem o_117 : s_chk0 tab 120 k_117 u_117 4000 = true := by decide +kernel
/-- X11_set -/
theorem o_118 : s_chk0 tab 121 k_118 u_118 4000 = true := by decide +kernel
/-- X11_sheet -/
theorem o_119 : s_chk0 tab 122 k_119 u_119 4000 = true := by decide +kernel
theorem o_119_0 : s_chk1 tab 122 k_119 u_119 4000 1 u_119_0 = true := by decide +kernel
/-- X11_wear -/
theorem o_120 : s_chk0 tab 123 k_120 u_120 4000 = true := by decide +kernel
/-- X11_go -/
theorem o_121 : s_chk0 tab 124 k_121 u_121 4000 = true := by decide +kernel
/-- X11_make -/
theorem o_122 : s_chk0 tab 125 k_122 u_122 4000 = true := by decide +kernel
/-- X11_week -/
theorem o_123 : s_chk0 tab 126 k_123 u_123 4000 = true := by decide +kernel
/-- X11_weeks -/
theorem o_124 : s_chk0 tab 127 k_124 u_124 4000 = true := by decide +kernel
/-- X11_year -/
theorem o_125 : s_chk0 tab 128 k_125 u_125 4000 = true := by decide +kernel
theorem o_125_0 : s_chk1 tab 128 k_125 u_125 4000 1 u_125_0 = true := by decide +kernel
/-- X11_undo -/
theorem o_126 : s_chk0 tab 129 k_126 u_126 4000 = true := by decide +kernel
/-- X11_sell -/
theorem o_127 : s_chk0 tab 131 k_127 u_127 4000 = true := by decide +kernel
/-- X11_patches -/
theorem o_128 : s_chk0 tab 132 k_128 u_128 4000 = true := by decide +kernel
/-- X11_quilt -/
theorem o_129 : s_chk0 tab 133 k_129 u_129 4000 = true := by decide +kernel
/-- X11_ahead -/
theorem o_130 : s_chk0 tab 134 k_130 u_130 4000 = true := by decide +kernel
/-- X11_longest -/
theorem o_131 : s_chk0 tab 135 k_131 u_131 4000 = true := by decide +kernel
/-- X11_lengths -/
theorem o_132 : s_chk0 tab 136 k_132 u_132 4000 = true := by decide +kernel
/-- X11_serves -/
theorem o_133 : s_chk0 tab 137 k_133 u_133 4000 = true := by decide +kernel
/-- X11_best -/
theorem o_134 : s_chk0 tab 138 k_134 u_134 4000 = true := by decide +kernel
/-- X11_same -/
theorem o_135 : s_chk0 tab 139 k_135 u_135 4000 = true := by decide +kernel
theorem o_135_0 : s_chk1 tab 139 k_135 u_135 4000 1 u_135_0 = true := by decide +kernel
/-- X11_plan -/
theorem o_136 : s_chk0 tab 140 k_136 u_136 4000 = true := by decide +kernel
/-- X11_plain -/
theorem o_137 : s_chk0 tab 141 k_137 u_137 4000 = true := by decide +kernel
/-- X11_idle -/
theorem o_138 : s_chk0 tab 142 k_138 u_138 4000 = true := by decide +kernel
theorem o_138_0 : s_chk1 tab 142 k_138 u_138 4000 1 u_138_0 = true := by decide +kernel
/-- X11_nearest -/
theorem o_139 : s_chk0 tab 143 k_139 u_139 4000 = true := by decide +kernel
theorem o_139_0 : s_chk1 tab 143 k_139 u_139 4000 1 u_139_0 = true := by decide +kernel
/-- X11_dress -/
theorem o_140 : s_chk0 tab 144 k_140 u_140 4000 = true := by decide +kernel
theorem o_140_0 : s_chk1 tab 144 k_140 u_140 4000 1 u_140_0 = true := by decide +kernel
/-- X11_ready -/
theorem o_141 : s_chk0 tab 145 k_141 u_141 4000 = true := by decide +kernel
theorem o_141_0 : s_chk1 tab 145 k_141 u_141 4000 1 u_141_0 = true := by decide +kernel
