/-! The law: checks. -/
theorem t_c0 : t_ok0 t_r0 = true := by decide +kernel
theorem t_c1 : t_ok1 t_r1 = true := by decide +kernel
theorem t_c2 : (t_os.all t_good && Nat.ble t_l.length 60) = true := by decide +kernel
