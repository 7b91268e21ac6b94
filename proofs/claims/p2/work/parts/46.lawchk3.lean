/-! The law: checks. -/
theorem t_n20 : t_nth 20 = true := by decide +kernel
theorem t_n21 : t_nth 21 = true := by decide +kernel
theorem t_n22 : t_nth 22 = true := by decide +kernel
theorem t_n23 : t_nth 23 = true := by decide +kernel
theorem t_n24 : t_nth 24 = true := by decide +kernel
theorem t_n25 : t_nth 25 = true := by decide +kernel
theorem t_n26 : t_nth 26 = true := by decide +kernel
theorem t_n27 : t_nth 27 = true := by decide +kernel
theorem t_n28 : t_nth 28 = true := by decide +kernel
theorem t_n29 : t_nth 29 = true := by decide +kernel
