/-! p1: the law's runs, counted out by the kernel. -/
def t_I : pI := (-2147483648, 2147483647)
def t_E : pE := (true, [t_I, t_I, t_I, t_I, t_I])
def t_N : Nat := 100000
def t_X (L : Nat) : Nat → List pA → pE → pH → Option pZ := p_exe L t_N 12
def t_f0 : pF := (0, [(0, .inr (.inl (some 0)))], [], t_E, [])
/-- up to the switch -/
def t_r1 : Option pZ := p_run 5 (t_X 5) 299 39 t_N t_f0
def t_f1 : pF := match t_r1 with
  | some (_, _, [(_, _, f)]) => f
  | _ => t_f0
/-- the ways from the switch on -/
def t_l : List (Nat × Nat × pF) := match p_step 5 299 t_f1.1 t_f1.2.1 t_f1.2.2.1 t_f1.2.2.2.1 t_f1.2.2.2.2 with
  | some (.inl l) => l
  | _ => []
def t_shape : Option pZ → Bool
  | some (mc, ms, [(2, none, _)]) => Nat.ble mc 500000 && Nat.ble ms 7000000
  | _ => false
def t_end (o : pO) : Bool := match o with
  | (0, some (.inl (.inl 1)), _) => true
  | _ => false
def t_gd (a b : Nat) : Option pZ → Bool
  | some (mc, ms, os) => Nat.ble mc a && Nat.ble ms b && os.all t_end
  | none => false
def t_run (i : Nat) : Option pZ := match t_l[i]? with
  | some q => p_run 5 (t_X 5) 299 1000000 t_N q.2.2
  | none => none
def t_runE (i : Nat) (E : pE) : Option pZ := match t_l[i]? with
  | some q => p_run 5 (t_X 5) 299 1000000 t_N (q.2.2.1, q.2.2.2.1, q.2.2.2.2.1, E, q.2.2.2.2.2.2)
  | none => none
def t_ch (a b : Int) : pE := (true, [t_I, (a, b), t_I, t_I, t_I])
/-- nothing is made at the switch, and cells may still be made behind it -/
def t_flg (q : Nat × Nat × pF) : Bool := Nat.beq q.1 0 && Nat.beq q.2.1 0 && q.2.2.2.2.2.1.1
set_option maxRecDepth 1000000 in
theorem t_ok1 : t_shape t_r1 = true := by decide +kernel
set_option maxRecDepth 1000000 in
theorem t_len : t_l.length = 53 := by decide +kernel
set_option maxRecDepth 1000000 in
theorem t_frA : t_l.all t_flg = true := by decide +kernel
set_option maxRecDepth 1000000 in
theorem t_s0 : t_gd 500000 7000000 (p_run 0 (t_X 0) 299 1000000 t_N t_f0) = true := by decide +kernel
set_option maxRecDepth 1000000 in
theorem t_s1 : t_gd 500000 7000000 (p_run 1 (t_X 1) 299 1000000 t_N t_f0) = true := by decide +kernel
set_option maxRecDepth 1000000 in
theorem t_s2 : t_gd 500000 7000000 (p_run 2 (t_X 2) 299 1000000 t_N t_f0) = true := by decide +kernel
set_option maxRecDepth 1000000 in
theorem t_s3 : t_gd 500000 7000000 (p_run 3 (t_X 3) 299 1000000 t_N t_f0) = true := by decide +kernel
set_option maxRecDepth 1000000 in
theorem t_s4 : t_gd 500000 7000000 (p_run 4 (t_X 4) 299 1000000 t_N t_f0) = true := by decide +kernel
set_option maxRecDepth 1000000 in
theorem t_c0 : t_gd 20 200 (t_run 0) = true := by decide +kernel
set_option maxRecDepth 1000000 in
theorem t_c1 : t_gd 20 200 (t_run 1) = true := by decide +kernel
set_option maxRecDepth 1000000 in
theorem t_c2 : t_gd 20 200 (t_run 2) = true := by decide +kernel
set_option maxRecDepth 1000000 in
theorem t_c3 : t_gd 20 200 (t_run 3) = true := by decide +kernel
set_option maxRecDepth 1000000 in
theorem t_c4 : t_gd 20 200 (t_run 4) = true := by decide +kernel
set_option maxRecDepth 1000000 in
theorem t_c5 : t_gd 20 200 (t_run 5) = true := by decide +kernel
set_option maxRecDepth 1000000 in
theorem t_c6 : t_gd 20 200 (t_run 6) = true := by decide +kernel
set_option maxRecDepth 1000000 in
theorem t_c7 : t_gd 20 200 (t_run 7) = true := by decide +kernel
set_option maxRecDepth 1000000 in
theorem t_c8 : t_gd 20 200 (t_run 8) = true := by decide +kernel
set_option maxRecDepth 1000000 in
theorem t_c9 : t_gd 20 200 (t_run 9) = true := by decide +kernel
set_option maxRecDepth 1000000 in
theorem t_c10 : t_gd 20 200 (t_run 10) = true := by decide +kernel
set_option maxRecDepth 1000000 in
theorem t_c11 : t_gd 20 200 (t_run 11) = true := by decide +kernel
set_option maxRecDepth 1000000 in
theorem t_c12 : t_gd 20 200 (t_run 12) = true := by decide +kernel
set_option maxRecDepth 1000000 in
theorem t_c13 : t_gd 20 200 (t_run 13) = true := by decide +kernel
set_option maxRecDepth 1000000 in
theorem t_c14 : t_gd 20 200 (t_run 14) = true := by decide +kernel
set_option maxRecDepth 1000000 in
theorem t_c16 : t_gd 20 200 (t_run 16) = true := by decide +kernel
set_option maxRecDepth 1000000 in
theorem t_c17 : t_gd 20 200 (t_run 17) = true := by decide +kernel
set_option maxRecDepth 1000000 in
theorem t_c18 : t_gd 20 200 (t_run 18) = true := by decide +kernel
set_option maxRecDepth 1000000 in
theorem t_c19 : t_gd 20 200 (t_run 19) = true := by decide +kernel
set_option maxRecDepth 1000000 in
theorem t_c20 : t_gd 20 200 (t_run 20) = true := by decide +kernel
set_option maxRecDepth 1000000 in
theorem t_c21 : t_gd 20 200 (t_run 21) = true := by decide +kernel
set_option maxRecDepth 1000000 in
theorem t_c23 : t_gd 20 200 (t_run 23) = true := by decide +kernel
set_option maxRecDepth 1000000 in
theorem t_c24 : t_gd 20 200 (t_run 24) = true := by decide +kernel
set_option maxRecDepth 1000000 in
theorem t_c25 : t_gd 20 200 (t_run 25) = true := by decide +kernel
set_option maxRecDepth 1000000 in
theorem t_c26 : t_gd 20 200 (t_run 26) = true := by decide +kernel
set_option maxRecDepth 1000000 in
theorem t_c27 : t_gd 20 200 (t_run 27) = true := by decide +kernel
set_option maxRecDepth 1000000 in
theorem t_c28 : t_gd 20 200 (t_run 28) = true := by decide +kernel
set_option maxRecDepth 1000000 in
theorem t_c29 : t_gd 20 200 (t_run 29) = true := by decide +kernel
