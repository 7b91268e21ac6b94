/-! The law: checks. -/
theorem t_n10 : t_nth 10 = true := by decide +kernel
theorem t_n11 : t_nth 11 = true := by decide +kernel
theorem t_n12 : t_nth 12 = true := by decide +kernel
theorem t_n13 : t_nth 13 = true := by decide +kernel
theorem t_n14 : t_nth 14 = true := by decide +kernel
theorem t_n15 : t_nth 15 = true := by decide +kernel
theorem t_n16 : t_nth 16 = true := by decide +kernel
theorem t_n17 : t_nth 17 = true := by decide +kernel
theorem t_n18 : t_nth 18 = true := by decide +kernel
theorem t_n19 : t_nth 19 = true := by decide +kernel
