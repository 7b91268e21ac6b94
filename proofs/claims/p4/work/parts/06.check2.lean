set_option maxRecDepth 1000000 in
theorem c_m51 : c_meth 51 = true := by decide +kernel
set_option maxRecDepth 1000000 in
theorem c_m52 : c_meth 52 = true := by decide +kernel
set_option maxRecDepth 1000000 in
theorem c_m53 : c_meth 53 = true := by decide +kernel
set_option maxRecDepth 1000000 in
theorem c_m54 : c_meth 54 = true := by decide +kernel
set_option maxRecDepth 1000000 in
theorem c_m55 : c_meth 55 = true := by decide +kernel
set_option maxRecDepth 1000000 in
theorem c_m56 : c_meth 56 = true := by decide +kernel
set_option maxRecDepth 1000000 in
theorem c_m57 : c_meth 57 = true := by decide +kernel
set_option maxRecDepth 1000000 in
theorem c_m58 : c_meth 58 = true := by decide +kernel
set_option maxRecDepth 1000000 in
theorem c_m59 : c_meth 59 = true := by decide +kernel
set_option maxRecDepth 1000000 in
theorem c_m60 : c_meth 60 = true := by decide +kernel
set_option maxRecDepth 1000000 in
theorem c_m61 : c_meth 61 = true := by decide +kernel
set_option maxRecDepth 1000000 in
theorem c_m62 : c_meth 62 = true := by decide +kernel
set_option maxRecDepth 1000000 in
theorem c_m63 : c_meth 63 = true := by decide +kernel
set_option maxRecDepth 1000000 in
theorem c_m64 : c_meth 64 = true := by decide +kernel
set_option maxRecDepth 1000000 in
theorem c_m65 : c_meth 65 = true := by decide +kernel
set_option maxRecDepth 1000000 in
theorem c_m66 : c_meth 66 = true := by decide +kernel
set_option maxRecDepth 1000000 in
theorem c_m67 : c_meth 67 = true := by decide +kernel
set_option maxRecDepth 1000000 in
theorem c_m68 : c_meth 68 = true := by decide +kernel
set_option maxRecDepth 1000000 in
theorem c_m69 : c_meth 69 = true := by decide +kernel
set_option maxRecDepth 1000000 in
theorem c_m70 : c_meth 70 = true := by decide +kernel
set_option maxRecDepth 1000000 in
theorem c_m71 : c_meth 71 = true := by decide +kernel
set_option maxRecDepth 1000000 in
theorem c_m72 : c_meth 72 = true := by decide +kernel
set_option maxRecDepth 1000000 in
theorem c_m73 : c_meth 73 = true := by decide +kernel
set_option maxRecDepth 1000000 in
theorem c_m74 : c_meth 74 = true := by decide +kernel
set_option maxRecDepth 1000000 in
theorem c_m75 : c_meth 75 = true := by decide +kernel
set_option maxRecDepth 1000000 in
theorem c_m76 : c_meth 76 = true := by decide +kernel
set_option maxRecDepth 1000000 in
theorem c_m77 : c_meth 77 = true := by decide +kernel
set_option maxRecDepth 1000000 in
theorem c_m78 : c_meth 78 = true := by decide +kernel
set_option maxRecDepth 1000000 in
theorem c_m79 : c_meth 79 = true := by decide +kernel
set_option maxRecDepth 1000000 in
theorem c_m80 : c_meth 80 = true := by decide +kernel
set_option maxRecDepth 1000000 in
theorem c_m81 : c_meth 81 = true := by decide +kernel
set_option maxRecDepth 1000000 in
theorem c_m82 : c_meth 82 = true := by decide +kernel
set_option maxRecDepth 1000000 in
theorem c_m83 : c_meth 83 = true := by decide +kernel
set_option maxRecDepth 1000000 in
theorem c_m84 : c_meth 84 = true := by decide +kernel
set_option maxRecDepth 1000000 in
theorem c_m85 : c_meth 85 = true := by decide +kernel
set_option maxRecDepth 1000000 in
theorem c_m86 : c_meth 86 = true := by decide +kernel
set_option maxRecDepth 1000000 in
theorem c_m87 : c_meth 87 = true := by decide +kernel
set_option maxRecDepth 1000000 in
theorem c_m88 : c_meth 88 = true := by decide +kernel
set_option maxRecDepth 1000000 in
theorem c_m89 : c_meth 89 = true := by decide +kernel
set_option maxRecDepth 1000000 in
theorem c_m90 : c_meth 90 = true := by decide +kernel
set_option maxRecDepth 1000000 in
theorem c_m91 : c_meth 91 = true := by decide +kernel
set_option maxRecDepth 1000000 in
theorem c_m92 : c_meth 92 = true := by decide +kernel
set_option maxRecDepth 1000000 in
theorem c_m93 : c_meth 93 = true := by decide +kernel
set_option maxRecDepth 1000000 in
theorem c_m94 : c_meth 94 = true := by decide +kernel
set_option maxRecDepth 1000000 in
theorem c_m95 : c_meth 95 = true := by decide +kernel
set_option maxRecDepth 1000000 in
theorem c_m96 : c_meth 96 = true := by decide +kernel
set_option maxRecDepth 1000000 in
theorem c_m97 : c_meth 97 = true := by decide +kernel
set_option maxRecDepth 1000000 in
theorem c_m98 : c_meth 98 = true := by decide +kernel
set_option maxRecDepth 1000000 in
theorem c_m99 : c_meth 99 = true := by decide +kernel
set_option maxRecDepth 1000000 in
theorem c_m100 : c_meth 100 = true := by decide +kernel
set_option maxRecDepth 1000000 in
theorem c_m101 : c_meth 101 = true := by decide +kernel
