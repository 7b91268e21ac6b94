set_option maxRecDepth 1000000 in
theorem c_m0 : n_meth 0 = true := by decide +kernel
set_option maxRecDepth 1000000 in
theorem c_m1 : n_meth 1 = true := by decide +kernel
set_option maxRecDepth 1000000 in
theorem c_m2 : n_meth 2 = true := by decide +kernel
set_option maxRecDepth 1000000 in
theorem c_m3 : n_meth 3 = true := by decide +kernel
set_option maxRecDepth 1000000 in
theorem c_m4 : n_meth 4 = true := by decide +kernel
set_option maxRecDepth 1000000 in
theorem c_m5 : n_meth 5 = true := by decide +kernel
set_option maxRecDepth 1000000 in
theorem c_m6 : n_meth 6 = true := by decide +kernel
set_option maxRecDepth 1000000 in
theorem c_m7 : n_meth 7 = true := by decide +kernel
set_option maxRecDepth 1000000 in
theorem c_m8 : n_meth 8 = true := by decide +kernel
set_option maxRecDepth 1000000 in
theorem c_m9 : n_meth 9 = true := by decide +kernel
set_option maxRecDepth 1000000 in
theorem c_m10 : n_meth 10 = true := by decide +kernel
set_option maxRecDepth 1000000 in
theorem c_m11 : n_meth 11 = true := by decide +kernel
set_option maxRecDepth 1000000 in
theorem c_m12 : n_meth 12 = true := by decide +kernel
set_option maxRecDepth 1000000 in
theorem c_m13 : n_meth 13 = true := by decide +kernel
set_option maxRecDepth 1000000 in
theorem c_m14 : n_meth 14 = true := by decide +kernel
set_option maxRecDepth 1000000 in
theorem c_m15 : n_meth 15 = true := by decide +kernel
set_option maxRecDepth 1000000 in
theorem c_m16 : n_meth 16 = true := by decide +kernel
set_option maxRecDepth 1000000 in
theorem c_m17 : n_meth 17 = true := by decide +kernel
set_option maxRecDepth 1000000 in
theorem c_m18 : n_meth 18 = true := by decide +kernel
set_option maxRecDepth 1000000 in
theorem c_m19 : n_meth 19 = true := by decide +kernel
set_option maxRecDepth 1000000 in
theorem c_m20 : n_meth 20 = true := by decide +kernel
set_option maxRecDepth 1000000 in
theorem c_m21 : n_meth 21 = true := by decide +kernel
set_option maxRecDepth 1000000 in
theorem c_m22 : n_meth 22 = true := by decide +kernel
set_option maxRecDepth 1000000 in
theorem c_m23 : n_meth 23 = true := by decide +kernel
set_option maxRecDepth 1000000 in
theorem c_m24 : n_meth 24 = true := by decide +kernel
set_option maxRecDepth 1000000 in
theorem c_m25 : n_meth 25 = true := by decide +kernel
set_option maxRecDepth 1000000 in
theorem c_m26 : n_meth 26 = true := by decide +kernel
set_option maxRecDepth 1000000 in
theorem c_m27 : n_meth 27 = true := by decide +kernel
set_option maxRecDepth 1000000 in
theorem c_m28 : n_meth 28 = true := by decide +kernel
set_option maxRecDepth 1000000 in
theorem c_m29 : n_meth 29 = true := by decide +kernel
set_option maxRecDepth 1000000 in
theorem c_m30 : n_meth 30 = true := by decide +kernel
set_option maxRecDepth 1000000 in
theorem c_m31 : n_meth 31 = true := by decide +kernel
set_option maxRecDepth 1000000 in
theorem c_m32 : n_meth 32 = true := by decide +kernel
set_option maxRecDepth 1000000 in
theorem c_m33 : n_meth 33 = true := by decide +kernel
set_option maxRecDepth 1000000 in
theorem c_m34 : n_meth 34 = true := by decide +kernel
set_option maxRecDepth 1000000 in
theorem c_m35 : n_meth 35 = true := by decide +kernel
set_option maxRecDepth 1000000 in
theorem c_m36 : n_meth 36 = true := by decide +kernel
set_option maxRecDepth 1000000 in
theorem c_m37 : n_meth 37 = true := by decide +kernel
set_option maxRecDepth 1000000 in
theorem c_m38 : n_meth 38 = true := by decide +kernel
set_option maxRecDepth 1000000 in
theorem c_m39 : n_meth 39 = true := by decide +kernel
set_option maxRecDepth 1000000 in
theorem c_m40 : n_meth 40 = true := by decide +kernel
set_option maxRecDepth 1000000 in
theorem c_m41 : n_meth 41 = true := by decide +kernel
set_option maxRecDepth 1000000 in
theorem c_m42 : n_meth 42 = true := by decide +kernel
set_option maxRecDepth 1000000 in
theorem c_m43 : n_meth 43 = true := by decide +kernel
set_option maxRecDepth 1000000 in
theorem c_m44 : n_meth 44 = true := by decide +kernel
set_option maxRecDepth 1000000 in
theorem c_m45 : n_meth 45 = true := by decide +kernel
set_option maxRecDepth 1000000 in
theorem c_m46 : n_meth 46 = true := by decide +kernel
set_option maxRecDepth 1000000 in
theorem c_m47 : n_meth 47 = true := by decide +kernel
set_option maxRecDepth 1000000 in
theorem c_m48 : n_meth 48 = true := by decide +kernel
set_option maxRecDepth 1000000 in
theorem c_m49 : n_meth 49 = true := by decide +kernel
set_option maxRecDepth 1000000 in
theorem c_m50 : n_meth 50 = true := by decide +kernel
theorem c_p2 : (List.range' 0 51).all (fun k => !(c_plain k) || n_M k) = true := by decide +kernel
