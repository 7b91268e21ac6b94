/-! The law: checks. -/
theorem t_n50 : t_nth 50 = true := by decide +kernel
theorem t_n51 : t_nth 51 = true := by decide +kernel
theorem t_n52 : t_nth 52 = true := by decide +kernel
theorem t_n53 : t_nth 53 = true := by decide +kernel
theorem t_n54 : t_nth 54 = true := by decide +kernel
theorem t_n55 : t_nth 55 = true := by decide +kernel
theorem t_n56 : t_nth 56 = true := by decide +kernel
theorem t_n57 : t_nth 57 = true := by decide +kernel
theorem t_n58 : t_nth 58 = true := by decide +kernel
theorem t_n59 : t_nth 59 = true := by decide +kernel
