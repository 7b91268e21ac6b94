/-! The law: checks. -/
theorem t_n30 : t_nth 30 = true := by decide +kernel
theorem t_n31 : t_nth 31 = true := by decide +kernel
theorem t_n32 : t_nth 32 = true := by decide +kernel
theorem t_n33 : t_nth 33 = true := by decide +kernel
theorem t_n34 : t_nth 34 = true := by decide +kernel
theorem t_n35 : t_nth 35 = true := by decide +kernel
theorem t_n36 : t_nth 36 = true := by decide +kernel
theorem t_n37 : t_nth 37 = true := by decide +kernel
theorem t_n38 : t_nth 38 = true := by decide +kernel
theorem t_n39 : t_nth 39 = true := by decide +kernel
