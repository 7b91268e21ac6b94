/-! The law: checks. -/
theorem t_n0 : t_nth 0 = true := by decide +kernel
theorem t_n1 : t_nth 1 = true := by decide +kernel
theorem t_n2 : t_nth 2 = true := by decide +kernel
theorem t_n3 : t_nth 3 = true := by decide +kernel
theorem t_n4 : t_nth 4 = true := by decide +kernel
theorem t_n5 : t_nth 5 = true := by decide +kernel
theorem t_n6 : t_nth 6 = true := by decide +kernel
theorem t_n7 : t_nth 7 = true := by decide +kernel
theorem t_n8 : t_nth 8 = true := by decide +kernel
theorem t_n9 : t_nth 9 = true := by decide +kernel
