set_option maxRecDepth 1000000 in
theorem c_m102 : n_meth 102 = true := by decide +kernel
set_option maxRecDepth 1000000 in
theorem c_m103 : n_meth 103 = true := by decide +kernel
set_option maxRecDepth 1000000 in
theorem c_m104 : n_meth 104 = true := by decide +kernel
set_option maxRecDepth 1000000 in
theorem c_m105 : n_meth 105 = true := by decide +kernel
set_option maxRecDepth 1000000 in
theorem c_m106 : n_meth 106 = true := by decide +kernel
set_option maxRecDepth 1000000 in
theorem c_m107 : n_meth 107 = true := by decide +kernel
set_option maxRecDepth 1000000 in
theorem c_m108 : n_meth 108 = true := by decide +kernel
set_option maxRecDepth 1000000 in
theorem c_m109 : n_meth 109 = true := by decide +kernel
set_option maxRecDepth 1000000 in
theorem c_m110 : n_meth 110 = true := by decide +kernel
set_option maxRecDepth 1000000 in
theorem c_m111 : n_meth 111 = true := by decide +kernel
set_option maxRecDepth 1000000 in
theorem c_m112 : n_meth 112 = true := by decide +kernel
set_option maxRecDepth 1000000 in
theorem c_m113 : n_meth 113 = true := by decide +kernel
set_option maxRecDepth 1000000 in
theorem c_m114 : n_meth 114 = true := by decide +kernel
set_option maxRecDepth 1000000 in
theorem c_m115 : n_meth 115 = true := by decide +kernel
set_option maxRecDepth 1000000 in
theorem c_m116 : n_meth 116 = true := by decide +kernel
set_option maxRecDepth 1000000 in
theorem c_m117 : n_meth 117 = true := by decide +kernel
set_option maxRecDepth 1000000 in
theorem c_m118 : n_meth 118 = true := by decide +kernel
set_option maxRecDepth 1000000 in
theorem c_m119 : n_meth 119 = true := by decide +kernel
set_option maxRecDepth 1000000 in
theorem c_m120 : n_meth 120 = true := by decide +kernel
set_option maxRecDepth 1000000 in
theorem c_m121 : n_meth 121 = true := by decide +kernel
set_option maxRecDepth 1000000 in
theorem c_m122 : n_meth 122 = true := by decide +kernel
set_option maxRecDepth 1000000 in
theorem c_m123 : n_meth 123 = true := by decide +kernel
set_option maxRecDepth 1000000 in
theorem c_m124 : n_meth 124 = true := by decide +kernel
set_option maxRecDepth 1000000 in
theorem c_m125 : n_meth 125 = true := by decide +kernel
set_option maxRecDepth 1000000 in
theorem c_m126 : n_meth 126 = true := by decide +kernel
set_option maxRecDepth 1000000 in
theorem c_m127 : n_meth 127 = true := by decide +kernel
set_option maxRecDepth 1000000 in
theorem c_m128 : n_meth 128 = true := by decide +kernel
set_option maxRecDepth 1000000 in
theorem c_m129 : n_meth 129 = true := by decide +kernel
set_option maxRecDepth 1000000 in
theorem c_m130 : n_meth 130 = true := by decide +kernel
set_option maxRecDepth 1000000 in
theorem c_m131 : n_meth 131 = true := by decide +kernel
set_option maxRecDepth 1000000 in
theorem c_m132 : n_meth 132 = true := by decide +kernel
set_option maxRecDepth 1000000 in
theorem c_m133 : n_meth 133 = true := by decide +kernel
set_option maxRecDepth 1000000 in
theorem c_m134 : n_meth 134 = true := by decide +kernel
set_option maxRecDepth 1000000 in
theorem c_m135 : n_meth 135 = true := by decide +kernel
set_option maxRecDepth 1000000 in
theorem c_m136 : n_meth 136 = true := by decide +kernel
set_option maxRecDepth 1000000 in
theorem c_m137 : n_meth 137 = true := by decide +kernel
set_option maxRecDepth 1000000 in
theorem c_m138 : n_meth 138 = true := by decide +kernel
set_option maxRecDepth 1000000 in
theorem c_m139 : n_meth 139 = true := by decide +kernel
set_option maxRecDepth 1000000 in
theorem c_m140 : n_meth 140 = true := by decide +kernel
set_option maxRecDepth 1000000 in
theorem c_m141 : n_meth 141 = true := by decide +kernel
set_option maxRecDepth 1000000 in
theorem c_m142 : n_meth 142 = true := by decide +kernel
set_option maxRecDepth 1000000 in
theorem c_m143 : n_meth 143 = true := by decide +kernel
set_option maxRecDepth 1000000 in
theorem c_m144 : n_meth 144 = true := by decide +kernel
set_option maxRecDepth 1000000 in
theorem c_m145 : n_meth 145 = true := by decide +kernel
set_option maxRecDepth 1000000 in
theorem c_m146 : n_meth 146 = true := by decide +kernel
set_option maxRecDepth 1000000 in
theorem c_m147 : n_meth 147 = true := by decide +kernel
set_option maxRecDepth 1000000 in
theorem c_m148 : n_meth 148 = true := by decide +kernel
set_option maxRecDepth 1000000 in
theorem c_m149 : n_meth 149 = true := by decide +kernel
set_option maxRecDepth 1000000 in
theorem c_m150 : n_meth 150 = true := by decide +kernel
set_option maxRecDepth 1000000 in
theorem c_m151 : n_meth 151 = true := by decide +kernel
set_option maxRecDepth 1000000 in
theorem c_m152 : n_meth 152 = true := by decide +kernel
theorem c_p4 : (List.range' 102 51).all (fun k => !(c_plain k) || n_M k) = true := by decide +kernel
