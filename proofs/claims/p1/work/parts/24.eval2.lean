set_option maxRecDepth 1000000 in
theorem t_c30 : t_gd 20 200 (t_run 30) = true := by decide +kernel
set_option maxRecDepth 1000000 in
theorem t_c31 : t_gd 20 200 (t_run 31) = true := by decide +kernel
set_option maxRecDepth 1000000 in
theorem t_c32 : t_gd 20 200 (t_run 32) = true := by decide +kernel
set_option maxRecDepth 1000000 in
theorem t_c33 : t_gd 20 200 (t_run 33) = true := by decide +kernel
set_option maxRecDepth 1000000 in
theorem t_c34 : t_gd 20 200 (t_run 34) = true := by decide +kernel
set_option maxRecDepth 1000000 in
theorem t_c35 : t_gd 20 200 (t_run 35) = true := by decide +kernel
set_option maxRecDepth 1000000 in
theorem t_c36 : t_gd 20 200 (t_run 36) = true := by decide +kernel
set_option maxRecDepth 1000000 in
theorem t_c37 : t_gd 20 200 (t_run 37) = true := by decide +kernel
set_option maxRecDepth 1000000 in
theorem t_c38 : t_gd 20 200 (t_run 38) = true := by decide +kernel
set_option maxRecDepth 1000000 in
theorem t_c39 : t_gd 20 200 (t_run 39) = true := by decide +kernel
set_option maxRecDepth 1000000 in
theorem t_c40 : t_gd 20 200 (t_run 40) = true := by decide +kernel
set_option maxRecDepth 1000000 in
theorem t_c41 : t_gd 20 200 (t_run 41) = true := by decide +kernel
set_option maxRecDepth 1000000 in
theorem t_c42 : t_gd 20 200 (t_run 42) = true := by decide +kernel
set_option maxRecDepth 1000000 in
theorem t_c43 : t_gd 20 200 (t_run 43) = true := by decide +kernel
set_option maxRecDepth 1000000 in
theorem t_c44 : t_gd 20 200 (t_run 44) = true := by decide +kernel
set_option maxRecDepth 1000000 in
theorem t_c45 : t_gd 20 200 (t_run 45) = true := by decide +kernel
set_option maxRecDepth 1000000 in
theorem t_c46 : t_gd 20 200 (t_run 46) = true := by decide +kernel
set_option maxRecDepth 1000000 in
theorem t_c47 : t_gd 20 200 (t_run 47) = true := by decide +kernel
set_option maxRecDepth 1000000 in
theorem t_c48 : t_gd 20 200 (t_run 48) = true := by decide +kernel
set_option maxRecDepth 1000000 in
theorem t_c49 : t_gd 20 200 (t_run 49) = true := by decide +kernel
set_option maxRecDepth 1000000 in
theorem t_c50 : t_gd 20 200 (t_run 50) = true := by decide +kernel
set_option maxRecDepth 1000000 in
theorem t_c51 : t_gd 20 200 (t_run 51) = true := by decide +kernel
set_option maxRecDepth 1000000 in
theorem t_c52 : t_gd 20 200 (t_run 52) = true := by decide +kernel
