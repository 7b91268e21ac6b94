/-! The greedy count (isServed, wanting, findTaken): its words. -/
def y_ob : Nat × sC := (74, vO 12 [vr 75, .inl (s_nm 0), vr 76, vr 77, .inl (s_nm 1), vr 78, .inl (s_nm 2), vr 79, vr 80, .inl (s_nm 3), vr 81, .inl (s_nm 4), .inl (s_nm 5), vu, .inl (s_nm 6), .inl (s_nm 7), .inl (s_nm 8), .inl (s_nm 9), vr 82, vr 83, vr 84, vr 85, .inl (s_nm 10), .inl (s_nm 11), vr 86, .inl (s_nm 12), .inl (s_nm 13), .inl (s_nm 14), .inl (s_nm 15), .inl (s_nm 16), .inl (s_nm 17), .inl (s_nm 18), .inl (s_nm 19), .inl (s_nm 20), vr 87, .inl (s_nm 21), vr 88, vr 89, .inl (s_nm 22), .inl (s_nm 23), vr 90, vr 91, vr 92, vr 93, vr 94, vr 95, vr 96, .inl (s_nm 24), vr 97, .inl (s_nm 25), vr 98, vr 99, .inl (s_nm 26), vr 100, .inl (s_nm 27), vr 101, vr 102, .inl (s_nm 28), vr 103, vr 104, vr 105, .inl (s_nm 29), .inl (s_nm 30), vr 106, vr 107, vr 108])
def y_B : List pI := [(vP 0, vP 4), (vP 0, vP 6), (vP 0, vP 8), (vP 0, vP 80), (vP 0, vP 32), (vM 2147483647, vP 2147483647), (vP 0, vP 80), (vP 0, vP 80), (vP 0, vP 100), (vM 2147483647, vP 2147483647), (vP 0, vP 6), (vP 0, vP 8), (vP 0, vP 40), (vP 0, vP 1), (vM 2147483647, vP 2147483647), (vM 2147483647, vP 2147483647), (vM 2147483647, vP 2147483647), (vM 2147483647, vP 2147483647), (vM 2147483647, vP 2147483647), (vM 2147483647, vP 2147483647), (vM 2147483647, vP 2147483647), (vP 0, vP 12), (vM 2147483647, vP 2147483647), (vM 2147483647, vP 2147483647), (vM 2147483647, vP 2147483647), (vP 0, vP 26), (vP 0, vP 12), (vP 0, vP 7), (vM 2147483647, vP 2147483647), (vM 2147483647, vP 2147483647), (vM 2147483647, vP 2147483647), (vP 0, vP 9), (vP 0, vP 99), (vP 0, vP 99), (vP 0, vP 99), (vP 0, vP 99), (vP 0, vP 99), (vP 0, vP 99), (vP 0, vP 99), (vP 0, vP 99), (vP 0, vP 99), (vP 0, vP 99), (vP 0, vP 99), (vP 0, vP 99), (vP 0, vP 99), (vP 0, vP 99), (vP 0, vP 99), (vP 0, vP 99), (vP 0, vP 99), (vP 0, vP 99), (vP 0, vP 99), (vP 0, vP 99), (vP 0, vP 99), (vP 0, vP 99), (vP 0, vP 99), (vP 0, vP 99), (vP 0, vP 99), (vP 0, vP 99), (vM 2147483647, vP 2147483647), (vM 2147483647, vP 2147483647), (vM 2147483647, vP 2147483647), (vM 2147483647, vP 2147483647), (vM 2147483647, vP 2147483647), (vM 2147483647, vP 2147483647), (vM 2147483647, vP 2147483647), (vM 2147483647, vP 2147483647), (vM 2147483647, vP 2147483647), (vM 2147483647, vP 2147483647), (vM 2147483647, vP 2147483647), (vM 2147483647, vP 2147483647), (vM 2147483647, vP 2147483647), (vM 2147483647, vP 2147483647), (vM 2147483647, vP 2147483647), (vM 2147483647, vP 2147483647), (vM 2147483647, vP 2147483647), (vM 2147483647, vP 2147483647), (vM 2147483647, vP 2147483647), (vM 2147483647, vP 2147483647), (vM 2147483647, vP 2147483647), (vM 2147483647, vP 2147483647), (vM 2147483647, vP 2147483647), (vM 2147483647, vP 2147483647), (vM 2147483647, vP 2147483647), (vM 2147483647, vP 2147483647)]
def y_B31 : List pI := [(vP 0, vP 4), (vP 0, vP 6), (vP 0, vP 8), (vP 0, vP 80), (vP 0, vP 32), (vM 2147483647, vP 2147483647), (vP 0, vP 80), (vP 0, vP 80), (vP 0, vP 100), (vM 2147483647, vP 2147483647), (vP 0, vP 6), (vP 0, vP 8), (vP 0, vP 40), (vP 0, vP 1), (vM 2147483647, vP 2147483647), (vM 2147483647, vP 2147483647), (vM 2147483647, vP 2147483647), (vM 2147483647, vP 2147483647), (vM 2147483647, vP 2147483647), (vM 2147483647, vP 2147483647), (vM 2147483647, vP 2147483647), (vP 0, vP 12), (vM 2147483647, vP 2147483647), (vM 2147483647, vP 2147483647), (vM 2147483647, vP 2147483647), (vP 0, vP 26), (vP 0, vP 12), (vP 0, vP 7), (vM 2147483647, vP 2147483647), (vM 2147483647, vP 2147483647), (vM 2147483647, vP 2147483647)]
def y_any : pI := (vM 2147483647, vP 2147483647)
theorem y_Be : y_B = ((y_B31 ++ [(vP 0, vP 9)]) ++ List.replicate 26 (vP 0, vP 99)) ++ List.replicate 26 y_any := by decide +kernel
def y_n90 : List sF := [s_nm 0, s_nm 1, s_nm 2, s_nm 3, s_nm 4, s_nm 5, s_nm 6, s_nm 7, s_nm 8, s_nm 9, s_nm 10, s_nm 11, s_nm 12, s_nm 13, s_nm 14, s_nm 15, s_nm 16, s_nm 17, s_nm 18, s_nm 19, s_nm 20, s_nm 21, s_nm 22, s_nm 23, s_nm 24, s_nm 25, s_nm 26, s_nm 27, s_nm 28, s_nm 29, s_nm 30, s_nm 31, s_nm 32, s_nm 33, s_nm 34, s_nm 35, s_nm 36, s_nm 37, s_nm 38, s_nm 39, s_nm 40, s_nm 41, s_nm 42, s_nm 43, s_nm 44, s_nm 45, s_nm 46, s_nm 47, s_nm 48, s_nm 49, s_nm 50, s_nm 51, s_nm 52, s_nm 53, s_nm 54, s_nm 55, s_nm 56, s_nm 57, s_nm 58, s_nm 59, s_nm 60, s_nm 61, s_nm 62, s_nm 63, s_nm 64, s_nm 65, s_nm 66, s_nm 67, s_nm 68, s_nm 69, s_nm 70, s_nm 71, s_nm 72, s_nm 73, s_nm 74, s_nm 75, s_nm 76, s_nm 77, s_nm 78, s_nm 79, s_nm 80, s_nm 81, s_nm 82, s_nm 83, s_nm 84, s_nm 85, s_nm 86, s_nm 87, s_nm 88, s_nm 89]
def y_id (n : Nat) : List sF := y_n90.take n
def y_r0 : List sW := [.inl (s_nm 31), wb (vP 0) (vP 9), wb (vP 0) (vP 9)]
def y_rL : List sW := [.inl (s_nm 32), .inl (s_nm 33), .inl (s_nm 34), .inl (s_nm 35), .inl (s_nm 36), .inl (s_nm 37), .inl (s_nm 38), .inl (s_nm 39), .inl (s_nm 40), .inl (s_nm 41), .inl (s_nm 42), .inl (s_nm 43), .inl (s_nm 44), .inl (s_nm 45), .inl (s_nm 46), .inl (s_nm 47), .inl (s_nm 48), .inl (s_nm 49), .inl (s_nm 50), .inl (s_nm 51), .inl (s_nm 52), .inl (s_nm 53), .inl (s_nm 54), .inl (s_nm 55), .inl (s_nm 56), .inl (s_nm 57)]
def y_rT : List sW := [.inl (s_nm 58), .inl (s_nm 59), .inl (s_nm 60), .inl (s_nm 61), .inl (s_nm 62), .inl (s_nm 63), .inl (s_nm 64), .inl (s_nm 65), .inl (s_nm 66), .inl (s_nm 67), .inl (s_nm 68), .inl (s_nm 69), .inl (s_nm 70), .inl (s_nm 71), .inl (s_nm 72), .inl (s_nm 73), .inl (s_nm 74), .inl (s_nm 75), .inl (s_nm 76), .inl (s_nm 77), .inl (s_nm 78), .inl (s_nm 79), .inl (s_nm 80), .inl (s_nm 81), .inl (s_nm 82), .inl (s_nm 83)]
def y_hB : sH := [y_ob, (79, vR .int 3 y_r0 []), (97, vR .int 26 y_rL []), (98, vR .int 26 y_rT [])]
def y_E (t : List pI) (cs : List (sT × Int)) : sE := (false, y_B ++ t, cs, [])
def y_X : sF → Nat → List sA → sE → sH → Option sZ := s_X (fun _ => []) 4
def y_p (k : Nat) : Nat × Int := (k, 1)
def y_m (k : Nat) : Nat × Int := (k, -1)
def y_at (pcs : List Nat) (f : sG) : Bool := pcs.any (fun k => Nat.beq k f.1)
/-! isServed: names 84 law, 85 many, 86 the answer -/
def y_E268 : sE := y_E [(vP 0, vP 99), (vP 0, vP 26), (vP 0, vP 1)] []
def y_k268 : sK := (s_num (vP 5), [vr 74, .inl (s_nm 84), .inl (s_nm 85)], y_E268, y_hB, [(some (.inl (s_nm 86)), y_E268, y_hB)])
def y_T268 (i : Nat) : sG := (2, [(0, vr 74), (1, .inl (s_nm 84)), (2, .inl (s_nm 85)), (3, .inl (s_num (vP i)))], [], y_E268, y_hB)
def y_r268 (z : Int) : sN := (some (.inl (s_num z)), y_E268, y_hB)
def y_a268 (i : Nat) : List sAl := (.inr (y_r268 (vP 0), y_id 87), [(([y_m 85], vP 0), -(vP i))], []) :: (bif Nat.blt i 26 then [
  (.inr (y_r268 (vP 1), y_id 87), [(([y_p (58 + i), y_m 84], vP 0), vP 0), (([y_p 31, y_m (58 + i), y_p 84], vP 0), vP 0), (([y_p 85], vP 0), vP (i + 1))], []),
  (.inl (y_T268 (i + 1), y_id 87), [(([y_m (58 + i), y_p 84], vP 0), vP 1)], []),
  (.inl (y_T268 (i + 1), y_id 87), [(([y_m 31, y_p (58 + i), y_m 84], vP 0), vP 1)], [])] else [])
def y_e268 : List sAl := [(.inl (y_T268 0, y_id 87), [], [])]
theorem y_o268 : s_seg y_X (s_num (vP 5)) 268 (y_at [2]) 60 87 (0, s_args 0 y_k268.2.1, [], y_E268, y_hB) y_e268 = true := by decide +kernel
/-! wanting: names 84 many, 85 the answer; 86 more, 87 last, 88 v, 89 is it served -/
def y_E269 : sE := y_E [(vP 0, vP 26), (vP 0, vP 100)] []
def y_k269 : sK := (s_num (vP 10), [vr 74, .inl (s_nm 84)], y_E269, y_hB, [(some (.inl (s_nm 85)), y_E269, y_hB)])
def y_vm : sT × Int := ([y_m 86, y_p 88], vP 0)
def y_lo9 : sL := [(0, vr 74), (1, .inl (s_nm 84)), (2, .inl (s_nm 86)), (3, .inl (s_nm 87)), (4, .inl (s_nm 88))]
def y_T269o : sG := (7, y_lo9, [], y_E [(vP 0, vP 26), (vP 0, vP 100), (vP 0, vP 100), (vM 0, vP 108), (vP 0, vP 100)] [y_vm], y_hB)
def y_T269g : sG := (7, y_lo9, [], y_E [(vP 0, vP 26), (vP 0, vP 100), (vP 0, vP 100), (vM 0, vP 108), (vP 0, vP 100), (vP 0, vP 1)] [y_vm], y_hB)
def y_T269i (k i : Nat) : sG := (20, y_lo9 ++ [(5, .inl (s_num (vP i))), (6, .inl (s_num (vP k)))], [], y_E [(vP 0, vP 26), (vP 0, vP 100), (vP 0, vP 100), (vM 0, vP 108), (vP 0, vP 99), (vP 0, vP 1)] [y_vm], y_hB)
def y_r269 : sN := (some (.inl (s_nm 86)), y_E [(vP 0, vP 26), (vP 0, vP 100), (vP 0, vP 100)] [], y_hB)
def y_n269 (a b : sF) : List sF := y_id 86 ++ [a, b, ([y_p 88], vP 1)]
def y_e269 : List sAl := [(.inl (y_T269o, y_id 86 ++ [s_num (vP 0), s_num (vM 0), s_num (vP 0)]), [], [])]
def y_g269 : List sAl := [(.inr (y_r269, y_id 87), [(s_nm 88, vP 100)], []), (.inl (y_T269i 0 0, y_id 90), [], [])]
def y_a269 (k i : Nat) : List sAl := (bif Nat.blt k 26 then [
  (.inl (y_T269i (k + 1) 1, y_id 90), [(([y_p 25], vP 0), vP (k + 1)), (([y_p (32 + k), y_m 88], vP 0), vP 0), (([y_m (32 + k), y_p 88], vP 0), vP 0)], []),
  (.inl (y_T269i (k + 1) i, y_id 90), [(([y_p 25], vP 0), vP (k + 1))], [([y_p (32 + k), y_m 88], vP 0)])] else []) ++ (bif Nat.beq i 0 then [
  (.inl (y_T269o, y_n269 (s_nm 86) (s_nm 87)), [(([y_m 25], vP 0), -(vP k))], [])] else [
  (.inl (y_T269o, y_n269 (s_nm 86) (s_nm 87)), [(([y_m 25], vP 0), -(vP k)), (s_nm 89, vP 1)], []),
  (.inl (y_T269o, y_n269 (s_nm 86) (s_nm 87)), [(([y_m 25], vP 0), -(vP k)), (([y_m 89], vP 0), vP 0), (([y_p 87, y_m 88], vP 0), vP 0), (([y_p 31, y_m 87, y_p 88], vP 0), vP 0)], []),
  (.inl (y_T269o, y_n269 ([y_p 86], vP 1) ([y_p 31, y_p 88], vP 0)), [(([y_m 25], vP 0), -(vP k)), (([y_m 89], vP 0), vP 0), (([y_m 87, y_p 88], vP 0), vP 1)], []),
  (.inl (y_T269o, y_n269 ([y_p 86], vP 1) ([y_p 31, y_p 88], vP 0)), [(([y_m 25], vP 0), -(vP k)), (([y_m 89], vP 0), vP 0), (([y_m 31, y_p 87, y_m 88], vP 0), vP 1)], [])])
def y_t268 : List sF := y_id 84 ++ [s_nm 88, s_nm 84, s_nm 89]
def y_X9 : sF → Nat → List sA → sE → sH → Option sZ := s_XP 268 y_t268 y_k268 y_X
theorem y_o269 : s_seg y_X (s_num (vP 10)) 269 (y_at [7, 20]) 90 86 (0, s_args 0 y_k269.2.1, [], y_E269, y_hB) y_e269 = true := by decide +kernel
theorem y_d269 : s_seg y_X9 (s_num (vP 10)) 269 (y_at [7, 20]) 90 86 y_T269g y_g269 = true := by decide +kernel
theorem y_h269 : s_cH y_r269.2.1 (y_id 86) y_hB y_hB = true := by decide +kernel
/-! findTaken: names 84 many, 85 all, 86 what is wanting -/
def y_lo0 (i : Nat) : sL := [(0, vr 74), (1, .inl (s_nm 84)), (2, .inl (s_nm 85)), (3, .inl (s_num (vP i)))]
def y_T270e : sG := (0, [(0, vr 74)], [], y_E [(vP 0, vP 26)] [], y_hB)
def y_T270f (i : Nat) : sG := (10, y_lo0 i, [], y_E [(vP 0, vP 26), (vP 0, vP (109 + i))] [], y_hB)
def y_Bw (i : Nat) : List pI := (y_B.set (58 + i) (vP 0, vP (109 + i))) ++ [(vP (i + 1), vP 26), (vP 0, vP (109 + i))]
def y_T270w (i : Nat) : sG := (22, y_lo0 i, [], (false, y_Bw i, [], []), y_hB)
def y_ch (i : Nat) : List (sT × Int) := [([y_m 84, y_p 86], -(vP i)), ([y_m (58 + i)], vM 106)]
def y_cl (i : Nat) : List (sT × Int) := [([y_p 84, y_m 86], vP (i + 1))]
def y_T270h (i : Nat) : sG := (22, y_lo0 i, [], (false, y_Bw i ++ [(vP 0, vP 100)], y_ch i, []), y_hB)
def y_T270l (i : Nat) : sG := (22, y_lo0 i, [], (false, y_Bw i ++ [(vP 0, vP 100)], y_cl i, []), y_hB)
def y_r270 : sN := (some (.inl (s_nm 84)), y_E [(vP 0, vP 26)] [], y_hB)
def y_X0 (i : Nat) (w : Nat) : sF → Nat → List sA → sE → sH → Option sZ := s_XP 269 (y_id 84 ++ [s_num (vP i), s_nm w]) y_k269 y_X
def y_e270 : List sAl := [(.inl (y_T270f 0, y_id 85 ++ [s_num (vP 0)]), [], [])]
def y_a270 (i : Nat) : List sAl := (.inr (y_r270, y_id 85), [(([y_m 84], vP 0), -(vP i))], []) :: (bif Nat.blt i 26 then [(.inl (y_T270w i, (y_id 86).set (58 + i) (s_nm 85)), [(([y_p 84], vP 0), vP (i + 1))], [])] else [])
def y_h270 (i : Nat) : List sAl := [(.inl (y_T270w i, (y_id 86).set (58 + i) ([y_p (58 + i)], vP 1)), [], [])]
def y_l270 (i : Nat) : List sAl := [(.inl (y_T270f (i + 1), y_id 85 ++ [([y_p (58 + i)], vP 1)]), [], [])]
theorem y_o270 : s_seg (y_X0 0 84) (s_num (vP 20)) 270 (y_at [10, 22]) 90 58 y_T270e y_e270 = true := by decide +kernel
