/-! The law: checks. -/
theorem t_n40 : t_nth 40 = true := by decide +kernel
theorem t_n41 : t_nth 41 = true := by decide +kernel
theorem t_n42 : t_nth 42 = true := by decide +kernel
theorem t_n43 : t_nth 43 = true := by decide +kernel
theorem t_n44 : t_nth 44 = true := by decide +kernel
theorem t_n45 : t_nth 45 = true := by decide +kernel
theorem t_n46 : t_nth 46 = true := by decide +kernel
theorem t_n47 : t_nth 47 = true := by decide +kernel
theorem t_n48 : t_nth 48 = true := by decide +kernel
theorem t_n49 : t_nth 49 = true := by decide +kernel
