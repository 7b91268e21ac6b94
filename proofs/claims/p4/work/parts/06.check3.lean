set_option maxRecDepth 1000000 in
theorem c_m102 : c_meth 102 = true := by decide +kernel
set_option maxRecDepth 1000000 in
theorem c_m103 : c_meth 103 = true := by decide +kernel
set_option maxRecDepth 1000000 in
theorem c_m104 : c_meth 104 = true := by decide +kernel
set_option maxRecDepth 1000000 in
theorem c_m105 : c_meth 105 = true := by decide +kernel
set_option maxRecDepth 1000000 in
theorem c_m106 : c_meth 106 = true := by decide +kernel
set_option maxRecDepth 1000000 in
theorem c_m107 : c_meth 107 = true := by decide +kernel
set_option maxRecDepth 1000000 in
theorem c_m108 : c_meth 108 = true := by decide +kernel
set_option maxRecDepth 1000000 in
theorem c_m109 : c_meth 109 = true := by decide +kernel
set_option maxRecDepth 1000000 in
theorem c_m110 : c_meth 110 = true := by decide +kernel
set_option maxRecDepth 1000000 in
theorem c_m111 : c_meth 111 = true := by decide +kernel
set_option maxRecDepth 1000000 in
theorem c_m112 : c_meth 112 = true := by decide +kernel
set_option maxRecDepth 1000000 in
theorem c_m113 : c_meth 113 = true := by decide +kernel
set_option maxRecDepth 1000000 in
theorem c_m114 : c_meth 114 = true := by decide +kernel
set_option maxRecDepth 1000000 in
theorem c_m115 : c_meth 115 = true := by decide +kernel
set_option maxRecDepth 1000000 in
theorem c_m116 : c_meth 116 = true := by decide +kernel
set_option maxRecDepth 1000000 in
theorem c_m117 : c_meth 117 = true := by decide +kernel
set_option maxRecDepth 1000000 in
theorem c_m118 : c_meth 118 = true := by decide +kernel
set_option maxRecDepth 1000000 in
theorem c_m119 : c_meth 119 = true := by decide +kernel
set_option maxRecDepth 1000000 in
theorem c_m120 : c_meth 120 = true := by decide +kernel
set_option maxRecDepth 1000000 in
theorem c_m121 : c_meth 121 = true := by decide +kernel
set_option maxRecDepth 1000000 in
theorem c_m122 : c_meth 122 = true := by decide +kernel
set_option maxRecDepth 1000000 in
theorem c_m123 : c_meth 123 = true := by decide +kernel
set_option maxRecDepth 1000000 in
theorem c_m124 : c_meth 124 = true := by decide +kernel
set_option maxRecDepth 1000000 in
theorem c_m125 : c_meth 125 = true := by decide +kernel
set_option maxRecDepth 1000000 in
theorem c_m126 : c_meth 126 = true := by decide +kernel
set_option maxRecDepth 1000000 in
theorem c_m127 : c_meth 127 = true := by decide +kernel
set_option maxRecDepth 1000000 in
theorem c_m128 : c_meth 128 = true := by decide +kernel
set_option maxRecDepth 1000000 in
theorem c_m129 : c_meth 129 = true := by decide +kernel
set_option maxRecDepth 1000000 in
theorem c_m130 : c_meth 130 = true := by decide +kernel
set_option maxRecDepth 1000000 in
theorem c_m131 : c_meth 131 = true := by decide +kernel
set_option maxRecDepth 1000000 in
theorem c_m132 : c_meth 132 = true := by decide +kernel
set_option maxRecDepth 1000000 in
theorem c_m133 : c_meth 133 = true := by decide +kernel
set_option maxRecDepth 1000000 in
theorem c_m134 : c_meth 134 = true := by decide +kernel
set_option maxRecDepth 1000000 in
theorem c_m135 : c_meth 135 = true := by decide +kernel
set_option maxRecDepth 1000000 in
theorem c_m136 : c_meth 136 = true := by decide +kernel
set_option maxRecDepth 1000000 in
theorem c_m137 : c_meth 137 = true := by decide +kernel
set_option maxRecDepth 1000000 in
theorem c_m138 : c_meth 138 = true := by decide +kernel
set_option maxRecDepth 1000000 in
theorem c_m139 : c_meth 139 = true := by decide +kernel
set_option maxRecDepth 1000000 in
theorem c_m140 : c_meth 140 = true := by decide +kernel
set_option maxRecDepth 1000000 in
theorem c_m141 : c_meth 141 = true := by decide +kernel
set_option maxRecDepth 1000000 in
theorem c_m142 : c_meth 142 = true := by decide +kernel
set_option maxRecDepth 1000000 in
theorem c_m143 : c_meth 143 = true := by decide +kernel
set_option maxRecDepth 1000000 in
theorem c_m144 : c_meth 144 = true := by decide +kernel
set_option maxRecDepth 1000000 in
theorem c_m145 : c_meth 145 = true := by decide +kernel
set_option maxRecDepth 1000000 in
theorem c_m146 : c_meth 146 = true := by decide +kernel
set_option maxRecDepth 1000000 in
theorem c_m147 : c_meth 147 = true := by decide +kernel
set_option maxRecDepth 1000000 in
theorem c_m148 : c_meth 148 = true := by decide +kernel
set_option maxRecDepth 1000000 in
theorem c_m149 : c_meth 149 = true := by decide +kernel
set_option maxRecDepth 1000000 in
theorem c_m150 : c_meth 150 = true := by decide +kernel
set_option maxRecDepth 1000000 in
theorem c_m151 : c_meth 151 = true := by decide +kernel
set_option maxRecDepth 1000000 in
theorem c_m152 : c_meth 152 = true := by decide +kernel
