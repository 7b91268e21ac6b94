set_option maxRecDepth 1000000 in
theorem c_m0 : c_meth 0 = true := by decide +kernel
set_option maxRecDepth 1000000 in
theorem c_m1 : c_meth 1 = true := by decide +kernel
set_option maxRecDepth 1000000 in
theorem c_m2 : c_meth 2 = true := by decide +kernel
set_option maxRecDepth 1000000 in
theorem c_m3 : c_meth 3 = true := by decide +kernel
set_option maxRecDepth 1000000 in
theorem c_m4 : c_meth 4 = true := by decide +kernel
set_option maxRecDepth 1000000 in
theorem c_m5 : c_meth 5 = true := by decide +kernel
set_option maxRecDepth 1000000 in
theorem c_m6 : c_meth 6 = true := by decide +kernel
set_option maxRecDepth 1000000 in
theorem c_m7 : c_meth 7 = true := by decide +kernel
set_option maxRecDepth 1000000 in
theorem c_m8 : c_meth 8 = true := by decide +kernel
set_option maxRecDepth 1000000 in
theorem c_m9 : c_meth 9 = true := by decide +kernel
set_option maxRecDepth 1000000 in
theorem c_m10 : c_meth 10 = true := by decide +kernel
set_option maxRecDepth 1000000 in
theorem c_m11 : c_meth 11 = true := by decide +kernel
set_option maxRecDepth 1000000 in
theorem c_m12 : c_meth 12 = true := by decide +kernel
set_option maxRecDepth 1000000 in
theorem c_m13 : c_meth 13 = true := by decide +kernel
set_option maxRecDepth 1000000 in
theorem c_m14 : c_meth 14 = true := by decide +kernel
set_option maxRecDepth 1000000 in
theorem c_m15 : c_meth 15 = true := by decide +kernel
set_option maxRecDepth 1000000 in
theorem c_m16 : c_meth 16 = true := by decide +kernel
set_option maxRecDepth 1000000 in
theorem c_m17 : c_meth 17 = true := by decide +kernel
set_option maxRecDepth 1000000 in
theorem c_m18 : c_meth 18 = true := by decide +kernel
set_option maxRecDepth 1000000 in
theorem c_m19 : c_meth 19 = true := by decide +kernel
set_option maxRecDepth 1000000 in
theorem c_m20 : c_meth 20 = true := by decide +kernel
set_option maxRecDepth 1000000 in
theorem c_m21 : c_meth 21 = true := by decide +kernel
set_option maxRecDepth 1000000 in
theorem c_m22 : c_meth 22 = true := by decide +kernel
set_option maxRecDepth 1000000 in
theorem c_m23 : c_meth 23 = true := by decide +kernel
set_option maxRecDepth 1000000 in
theorem c_m24 : c_meth 24 = true := by decide +kernel
set_option maxRecDepth 1000000 in
theorem c_m25 : c_meth 25 = true := by decide +kernel
set_option maxRecDepth 1000000 in
theorem c_m26 : c_meth 26 = true := by decide +kernel
set_option maxRecDepth 1000000 in
theorem c_m27 : c_meth 27 = true := by decide +kernel
set_option maxRecDepth 1000000 in
theorem c_m28 : c_meth 28 = true := by decide +kernel
set_option maxRecDepth 1000000 in
theorem c_m29 : c_meth 29 = true := by decide +kernel
set_option maxRecDepth 1000000 in
theorem c_m30 : c_meth 30 = true := by decide +kernel
set_option maxRecDepth 1000000 in
theorem c_m31 : c_meth 31 = true := by decide +kernel
set_option maxRecDepth 1000000 in
theorem c_m32 : c_meth 32 = true := by decide +kernel
set_option maxRecDepth 1000000 in
theorem c_m33 : c_meth 33 = true := by decide +kernel
set_option maxRecDepth 1000000 in
theorem c_m34 : c_meth 34 = true := by decide +kernel
set_option maxRecDepth 1000000 in
theorem c_m35 : c_meth 35 = true := by decide +kernel
set_option maxRecDepth 1000000 in
theorem c_m36 : c_meth 36 = true := by decide +kernel
set_option maxRecDepth 1000000 in
theorem c_m37 : c_meth 37 = true := by decide +kernel
set_option maxRecDepth 1000000 in
theorem c_m38 : c_meth 38 = true := by decide +kernel
set_option maxRecDepth 1000000 in
theorem c_m39 : c_meth 39 = true := by decide +kernel
set_option maxRecDepth 1000000 in
theorem c_m40 : c_meth 40 = true := by decide +kernel
set_option maxRecDepth 1000000 in
theorem c_m41 : c_meth 41 = true := by decide +kernel
set_option maxRecDepth 1000000 in
theorem c_m42 : c_meth 42 = true := by decide +kernel
set_option maxRecDepth 1000000 in
theorem c_m43 : c_meth 43 = true := by decide +kernel
set_option maxRecDepth 1000000 in
theorem c_m44 : c_meth 44 = true := by decide +kernel
set_option maxRecDepth 1000000 in
theorem c_m45 : c_meth 45 = true := by decide +kernel
set_option maxRecDepth 1000000 in
theorem c_m46 : c_meth 46 = true := by decide +kernel
set_option maxRecDepth 1000000 in
theorem c_m47 : c_meth 47 = true := by decide +kernel
set_option maxRecDepth 1000000 in
theorem c_m48 : c_meth 48 = true := by decide +kernel
set_option maxRecDepth 1000000 in
theorem c_m49 : c_meth 49 = true := by decide +kernel
set_option maxRecDepth 1000000 in
theorem c_m50 : c_meth 50 = true := by decide +kernel
