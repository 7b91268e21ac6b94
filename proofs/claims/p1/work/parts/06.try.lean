def t_I : pI := (-2147483648, 2147483647)
def t_E : pE := (true, [t_I, t_I, t_I, t_I, t_I])
def t_f0 : pF := (0, [(0, .inr (.inl (some 0)))], [], t_E, [])
/-- what stands at the switch -/
def t_f1 : pF := match p_run 5 (p_exec 5 100000 12) 299 39 100000 t_f0 with
  | some (_, _, [(_, _, f)]) => f
  | _ => t_f0
def t_good (q : Option pZ) : Bool := match q with
  | some (_, _, os) => os.all (fun o => match o with
    | (0, some (.inl (.inl 1)), _) => true
    | _ => false)
  | none => false
def t_case (pc : Nat) (E : pE) : Option pZ := match t_f1 with
  | (_, lo, st, _, h) => p_run 5 (p_exec 5 100000 12) 299 1000000 100000 (pc, lo, st.drop 1, E, h)
set_option maxRecDepth 1000000 in
theorem t_c0 : t_good (t_case 256 t_E) = true := by decide +kernel
set_option maxRecDepth 1000000 in
theorem t_c1 : t_good (t_case 281 t_E) = true := by decide +kernel
set_option maxRecDepth 1000000 in
theorem t_c2 : t_good (t_case 306 t_E) = true := by decide +kernel
set_option maxRecDepth 1000000 in
theorem t_c3 : t_good (t_case 319 t_E) = true := by decide +kernel
set_option maxRecDepth 1000000 in
theorem t_c4 : t_good (t_case 332 t_E) = true := by decide +kernel
set_option maxRecDepth 1000000 in
theorem t_c5 : t_good (t_case 345 t_E) = true := by decide +kernel
set_option maxRecDepth 1000000 in
theorem t_c6 : t_good (t_case 413 t_E) = true := by decide +kernel
set_option maxRecDepth 1000000 in
theorem t_c7 : t_good (t_case 481 t_E) = true := by decide +kernel
set_option maxRecDepth 1000000 in
theorem t_c8 : t_good (t_case 518 t_E) = true := by decide +kernel
set_option maxRecDepth 1000000 in
theorem t_c9 : t_good (t_case 567 t_E) = true := by decide +kernel
set_option maxRecDepth 1000000 in
theorem t_c10 : t_good (t_case 604 t_E) = true := by decide +kernel
set_option maxRecDepth 1000000 in
theorem t_c11 : t_good (t_case 665 t_E) = true := by decide +kernel
set_option maxRecDepth 1000000 in
theorem t_c12 : t_good (t_case 702 t_E) = true := by decide +kernel
set_option maxRecDepth 1000000 in
theorem t_c13 : t_good (t_case 739 t_E) = true := by decide +kernel
