set_option maxRecDepth 1000000 in
theorem c_m51 : n_meth 51 = true := by decide +kernel
set_option maxRecDepth 1000000 in
theorem c_m52 : n_meth 52 = true := by decide +kernel
set_option maxRecDepth 1000000 in
theorem c_m53 : n_meth 53 = true := by decide +kernel
set_option maxRecDepth 1000000 in
theorem c_m54 : n_meth 54 = true := by decide +kernel
set_option maxRecDepth 1000000 in
theorem c_m55 : n_meth 55 = true := by decide +kernel
set_option maxRecDepth 1000000 in
theorem c_m56 : n_meth 56 = true := by decide +kernel
set_option maxRecDepth 1000000 in
theorem c_m57 : n_meth 57 = true := by decide +kernel
set_option maxRecDepth 1000000 in
theorem c_m58 : n_meth 58 = true := by decide +kernel
set_option maxRecDepth 1000000 in
theorem c_m59 : n_meth 59 = true := by decide +kernel
set_option maxRecDepth 1000000 in
theorem c_m60 : n_meth 60 = true := by decide +kernel
set_option maxRecDepth 1000000 in
theorem c_m61 : n_meth 61 = true := by decide +kernel
set_option maxRecDepth 1000000 in
theorem c_m62 : n_meth 62 = true := by decide +kernel
set_option maxRecDepth 1000000 in
theorem c_m63 : n_meth 63 = true := by decide +kernel
set_option maxRecDepth 1000000 in
theorem c_m64 : n_meth 64 = true := by decide +kernel
set_option maxRecDepth 1000000 in
theorem c_m65 : n_meth 65 = true := by decide +kernel
set_option maxRecDepth 1000000 in
theorem c_m66 : n_meth 66 = true := by decide +kernel
set_option maxRecDepth 1000000 in
theorem c_m67 : n_meth 67 = true := by decide +kernel
set_option maxRecDepth 1000000 in
theorem c_m68 : n_meth 68 = true := by decide +kernel
set_option maxRecDepth 1000000 in
theorem c_m69 : n_meth 69 = true := by decide +kernel
set_option maxRecDepth 1000000 in
theorem c_m70 : n_meth 70 = true := by decide +kernel
set_option maxRecDepth 1000000 in
theorem c_m71 : n_meth 71 = true := by decide +kernel
set_option maxRecDepth 1000000 in
theorem c_m72 : n_meth 72 = true := by decide +kernel
set_option maxRecDepth 1000000 in
theorem c_m73 : n_meth 73 = true := by decide +kernel
set_option maxRecDepth 1000000 in
theorem c_m74 : n_meth 74 = true := by decide +kernel
set_option maxRecDepth 1000000 in
theorem c_m75 : n_meth 75 = true := by decide +kernel
set_option maxRecDepth 1000000 in
theorem c_m76 : n_meth 76 = true := by decide +kernel
set_option maxRecDepth 1000000 in
theorem c_m77 : n_meth 77 = true := by decide +kernel
set_option maxRecDepth 1000000 in
theorem c_m78 : n_meth 78 = true := by decide +kernel
set_option maxRecDepth 1000000 in
theorem c_m79 : n_meth 79 = true := by decide +kernel
set_option maxRecDepth 1000000 in
theorem c_m80 : n_meth 80 = true := by decide +kernel
set_option maxRecDepth 1000000 in
theorem c_m81 : n_meth 81 = true := by decide +kernel
set_option maxRecDepth 1000000 in
theorem c_m82 : n_meth 82 = true := by decide +kernel
set_option maxRecDepth 1000000 in
theorem c_m83 : n_meth 83 = true := by decide +kernel
set_option maxRecDepth 1000000 in
theorem c_m84 : n_meth 84 = true := by decide +kernel
set_option maxRecDepth 1000000 in
theorem c_m85 : n_meth 85 = true := by decide +kernel
set_option maxRecDepth 1000000 in
theorem c_m86 : n_meth 86 = true := by decide +kernel
set_option maxRecDepth 1000000 in
theorem c_m87 : n_meth 87 = true := by decide +kernel
set_option maxRecDepth 1000000 in
theorem c_m88 : n_meth 88 = true := by decide +kernel
set_option maxRecDepth 1000000 in
theorem c_m89 : n_meth 89 = true := by decide +kernel
set_option maxRecDepth 1000000 in
theorem c_m90 : n_meth 90 = true := by decide +kernel
set_option maxRecDepth 1000000 in
theorem c_m91 : n_meth 91 = true := by decide +kernel
set_option maxRecDepth 1000000 in
theorem c_m92 : n_meth 92 = true := by decide +kernel
set_option maxRecDepth 1000000 in
theorem c_m93 : n_meth 93 = true := by decide +kernel
set_option maxRecDepth 1000000 in
theorem c_m94 : n_meth 94 = true := by decide +kernel
set_option maxRecDepth 1000000 in
theorem c_m95 : n_meth 95 = true := by decide +kernel
set_option maxRecDepth 1000000 in
theorem c_m96 : n_meth 96 = true := by decide +kernel
set_option maxRecDepth 1000000 in
theorem c_m97 : n_meth 97 = true := by decide +kernel
set_option maxRecDepth 1000000 in
theorem c_m98 : n_meth 98 = true := by decide +kernel
set_option maxRecDepth 1000000 in
theorem c_m99 : n_meth 99 = true := by decide +kernel
set_option maxRecDepth 1000000 in
theorem c_m100 : n_meth 100 = true := by decide +kernel
set_option maxRecDepth 1000000 in
theorem c_m101 : n_meth 101 = true := by decide +kernel
theorem c_p3 : (List.range' 51 51).all (fun k => !(c_plain k) || n_M k) = true := by decide +kernel
