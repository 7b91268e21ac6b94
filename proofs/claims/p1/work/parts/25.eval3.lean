set_option maxRecDepth 1000000 in
theorem t_w15_0 : t_gd 20 200 (t_runE 15 (t_ch (-2147483648) (-1))) = true := by decide +kernel
set_option maxRecDepth 1000000 in
theorem t_w15_1 : t_gd 20 200 (t_runE 15 (t_ch (0) (3))) = true := by decide +kernel
set_option maxRecDepth 1000000 in
theorem t_w15_2 : t_gd 20 200 (t_runE 15 (t_ch (4) (7))) = true := by decide +kernel
set_option maxRecDepth 1000000 in
theorem t_w15_3 : t_gd 20 200 (t_runE 15 (t_ch (8) (11))) = true := by decide +kernel
set_option maxRecDepth 1000000 in
theorem t_w15_4 : t_gd 20 200 (t_runE 15 (t_ch (12) (15))) = true := by decide +kernel
set_option maxRecDepth 1000000 in
theorem t_w15_5 : t_gd 20 200 (t_runE 15 (t_ch (16) (19))) = true := by decide +kernel
set_option maxRecDepth 1000000 in
theorem t_w15_6 : t_gd 20 200 (t_runE 15 (t_ch (20) (23))) = true := by decide +kernel
set_option maxRecDepth 1000000 in
theorem t_w15_7 : t_gd 20 200 (t_runE 15 (t_ch (24) (27))) = true := by decide +kernel
set_option maxRecDepth 1000000 in
theorem t_w15_8 : t_gd 20 200 (t_runE 15 (t_ch (28) (31))) = true := by decide +kernel
set_option maxRecDepth 1000000 in
theorem t_w15_9 : t_gd 20 200 (t_runE 15 (t_ch (32) (35))) = true := by decide +kernel
set_option maxRecDepth 1000000 in
theorem t_w15_10 : t_gd 20 200 (t_runE 15 (t_ch (36) (39))) = true := by decide +kernel
set_option maxRecDepth 1000000 in
theorem t_w15_11 : t_gd 20 200 (t_runE 15 (t_ch (40) (43))) = true := by decide +kernel
set_option maxRecDepth 1000000 in
theorem t_w15_12 : t_gd 20 200 (t_runE 15 (t_ch (44) (47))) = true := by decide +kernel
set_option maxRecDepth 1000000 in
theorem t_w15_13 : t_gd 20 200 (t_runE 15 (t_ch (48) (51))) = true := by decide +kernel
set_option maxRecDepth 1000000 in
theorem t_w15_14 : t_gd 20 200 (t_runE 15 (t_ch (52) (55))) = true := by decide +kernel
set_option maxRecDepth 1000000 in
theorem t_w15_15 : t_gd 20 200 (t_runE 15 (t_ch (56) (59))) = true := by decide +kernel
set_option maxRecDepth 1000000 in
theorem t_w15_16 : t_gd 20 200 (t_runE 15 (t_ch (60) (60))) = true := by decide +kernel
set_option maxRecDepth 1000000 in
theorem t_w15_17 : t_gd 20 200 (t_runE 15 (t_ch (61) (2147483647))) = true := by decide +kernel
