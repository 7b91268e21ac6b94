set_option maxRecDepth 1000000 in
theorem t_w22_0 : t_gd 20 200 (t_runE 22 (t_ch (-2147483648) (-1))) = true := by decide +kernel
set_option maxRecDepth 1000000 in
theorem t_w22_1 : t_gd 20 200 (t_runE 22 (t_ch (0) (3))) = true := by decide +kernel
set_option maxRecDepth 1000000 in
theorem t_w22_2 : t_gd 20 200 (t_runE 22 (t_ch (4) (7))) = true := by decide +kernel
set_option maxRecDepth 1000000 in
theorem t_w22_3 : t_gd 20 200 (t_runE 22 (t_ch (8) (11))) = true := by decide +kernel
set_option maxRecDepth 1000000 in
theorem t_w22_4 : t_gd 20 200 (t_runE 22 (t_ch (12) (15))) = true := by decide +kernel
set_option maxRecDepth 1000000 in
theorem t_w22_5 : t_gd 20 200 (t_runE 22 (t_ch (16) (19))) = true := by decide +kernel
set_option maxRecDepth 1000000 in
theorem t_w22_6 : t_gd 20 200 (t_runE 22 (t_ch (20) (23))) = true := by decide +kernel
set_option maxRecDepth 1000000 in
theorem t_w22_7 : t_gd 20 200 (t_runE 22 (t_ch (24) (27))) = true := by decide +kernel
set_option maxRecDepth 1000000 in
theorem t_w22_8 : t_gd 20 200 (t_runE 22 (t_ch (28) (31))) = true := by decide +kernel
set_option maxRecDepth 1000000 in
theorem t_w22_9 : t_gd 20 200 (t_runE 22 (t_ch (32) (35))) = true := by decide +kernel
set_option maxRecDepth 1000000 in
theorem t_w22_10 : t_gd 20 200 (t_runE 22 (t_ch (36) (39))) = true := by decide +kernel
set_option maxRecDepth 1000000 in
theorem t_w22_11 : t_gd 20 200 (t_runE 22 (t_ch (40) (43))) = true := by decide +kernel
set_option maxRecDepth 1000000 in
theorem t_w22_12 : t_gd 20 200 (t_runE 22 (t_ch (44) (47))) = true := by decide +kernel
set_option maxRecDepth 1000000 in
theorem t_w22_13 : t_gd 20 200 (t_runE 22 (t_ch (48) (51))) = true := by decide +kernel
set_option maxRecDepth 1000000 in
theorem t_w22_14 : t_gd 20 200 (t_runE 22 (t_ch (52) (55))) = true := by decide +kernel
set_option maxRecDepth 1000000 in
theorem t_w22_15 : t_gd 20 200 (t_runE 22 (t_ch (56) (59))) = true := by decide +kernel
set_option maxRecDepth 1000000 in
theorem t_w22_16 : t_gd 20 200 (t_runE 22 (t_ch (60) (60))) = true := by decide +kernel
set_option maxRecDepth 1000000 in
theorem t_w22_17 : t_gd 20 200 (t_runE 22 (t_ch (61) (2147483647))) = true := by decide +kernel
theorem t_cover (z : Int) (h1 : -2147483648 ≤ z) (h2 : z ≤ 2147483647) : (-2147483648 ≤ z ∧ z ≤ -1) ∨ (0 ≤ z ∧ z ≤ 3) ∨ (4 ≤ z ∧ z ≤ 7) ∨ (8 ≤ z ∧ z ≤ 11) ∨ (12 ≤ z ∧ z ≤ 15) ∨ (16 ≤ z ∧ z ≤ 19) ∨ (20 ≤ z ∧ z ≤ 23) ∨ (24 ≤ z ∧ z ≤ 27) ∨ (28 ≤ z ∧ z ≤ 31) ∨ (32 ≤ z ∧ z ≤ 35) ∨ (36 ≤ z ∧ z ≤ 39) ∨ (40 ≤ z ∧ z ≤ 43) ∨ (44 ≤ z ∧ z ≤ 47) ∨ (48 ≤ z ∧ z ≤ 51) ∨ (52 ≤ z ∧ z ≤ 55) ∨ (56 ≤ z ∧ z ≤ 59) ∨ (60 ≤ z ∧ z ≤ 60) ∨ (61 ≤ z ∧ z ≤ 2147483647) := by omega
