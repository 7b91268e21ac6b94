/-! trunk: its words. names 0 to 33 the contract's, 34 to 42 what the way's reading left, 43 told, 44 .. laws, 70 .. taken, 96 how many -/
def x_m110 : List sF := [s_nm 0, s_nm 1, s_nm 2, s_nm 3, s_nm 4, s_nm 5, s_nm 6, s_nm 7, s_nm 8, s_nm 9, s_nm 10, s_nm 11, s_nm 12, s_nm 13, s_nm 14, s_nm 15, s_nm 16, s_nm 17, s_nm 18, s_nm 19, s_nm 20, s_nm 21, s_nm 22, s_nm 23, s_nm 24, s_nm 25, s_nm 26, s_nm 27, s_nm 28, s_nm 29, s_nm 30, s_nm 31, s_nm 32, s_nm 33, s_nm 34, s_nm 35, s_nm 36, s_nm 37, s_nm 38, s_nm 39, s_nm 40, s_nm 41, s_nm 42, s_nm 43, s_nm 44, s_nm 45, s_nm 46, s_nm 47, s_nm 48, s_nm 49, s_nm 50, s_nm 51, s_nm 52, s_nm 53, s_nm 54, s_nm 55, s_nm 56, s_nm 57, s_nm 58, s_nm 59, s_nm 60, s_nm 61, s_nm 62, s_nm 63, s_nm 64, s_nm 65, s_nm 66, s_nm 67, s_nm 68, s_nm 69, s_nm 70, s_nm 71, s_nm 72, s_nm 73, s_nm 74, s_nm 75, s_nm 76, s_nm 77, s_nm 78, s_nm 79, s_nm 80, s_nm 81, s_nm 82, s_nm 83, s_nm 84, s_nm 85, s_nm 86, s_nm 87, s_nm 88, s_nm 89, s_nm 90, s_nm 91, s_nm 92, s_nm 93, s_nm 94, s_nm 95, s_nm 96, s_nm 97, s_nm 98, s_nm 99, s_nm 100, s_nm 101, s_nm 102, s_nm 103, s_nm 104, s_nm 105, s_nm 106, s_nm 107, s_nm 108, s_nm 109]
def x_id (n : Nat) : List sF := x_m110.take n
def x_ob : Nat × sC := (74, vO 12 [vr 75, .inl (s_nm 1), vr 76, vr 77, .inl (s_nm 2), vr 78, .inl (s_nm 3), vr 79, vr 80, .inl (s_num (vP 0)), vr 81, .inl (s_nm 5), .inl (s_num (vP 0)), vu, .inl (s_nm 34), .inl (s_nm 35), .inl (s_nm 36), .inl (s_nm 37), vr 82, vr 83, vr 84, vr 85, .inl (s_nm 11), .inl (s_nm 12), vr 86, .inl (s_nm 13), .inl (s_nm 38), .inl (s_nm 39), .inl (s_nm 40), .inl (s_nm 41), .inl (s_nm 42), .inl (s_nm 19), .inl (s_nm 20), .inl (s_nm 21), vr 87, .inl (s_nm 22), vr 88, vr 89, .inl (s_nm 23), .inl (s_nm 24), vr 90, vr 91, vr 92, vr 93, vr 94, vr 95, vr 96, .inl (s_nm 25), vr 97, .inl (s_nm 4), vr 98, vr 99, .inl (s_nm 27), vr 100, .inl (s_nm 28), vr 101, vr 102, .inl (s_nm 29), vr 103, vr 104, vr 105, .inl (s_nm 30), .inl (s_nm 31), vr 106, vr 107, vr 108])
def x_B43 : List pI := [(vM 2147483647, vP 2147483647), (vP 0, vP 4), (vP 0, vP 6), (vP 0, vP 8), (vP 0, vP 26), (vP 0, vP 32), (vM 2147483647, vP 2147483647), (vP 0, vP 80), (vP 0, vP 80), (vP 0, vP 100), (vM 2147483647, vP 2147483647), (vP 0, vP 6), (vP 0, vP 8), (vP 0, vP 40), (vP 0, vP 1), (vM 2147483647, vP 2147483647), (vM 2147483647, vP 2147483647), (vM 2147483647, vP 2147483647), (vM 2147483647, vP 2147483647), (vM 2147483647, vP 2147483647), (vM 2147483647, vP 2147483647), (vM 2147483647, vP 2147483647), (vP 0, vP 12), (vM 2147483647, vP 2147483647), (vM 2147483647, vP 2147483647), (vM 2147483647, vP 2147483647), (vP 0, vP 26), (vP 0, vP 12), (vP 0, vP 7), (vM 2147483647, vP 2147483647), (vM 2147483647, vP 2147483647), (vM 2147483647, vP 2147483647), (vP 0, vP 20), (vP 0, vP 400000), (vP 0, vP 80), (vP 0, vP 80), (vP 0, vP 100), (vM 2147483647, vP 2147483647), (vP 0, vP 1), (vM 2147483647, vP 2147483647), (vM 2147483647, vP 2147483647), (vM 2147483647, vP 2147483647), (vM 2147483647, vP 2147483647)]
def x_h18 : sH := [x_ob, (75, vR .int 59 (List.replicate 6 (wb (vP 0) (vP 3)) ++ List.replicate 6 (wb (vM 0) (vP 7)) ++ List.replicate 8 (wb (vM 0) (vP 99)) ++ List.replicate 8 (wb (vP 0) (vP 9)) ++ List.replicate 8 (wb (vM 2147483647) (vP 2147483647)) ++ List.replicate 20 (wb (vP 0) (vP 109)) ++ [.inl (s_nm 32), .inl (s_nm 33), wb (vM 2147483647) (vP 2147483647)]) []), (76, vR .int 104 ([wb (vP 0) (vP 9)]) []), (77, vR .int 4 ([wb (vP 0) (vP 26)]) [(s_nm 1, (vP 1, vP 26))]), (78, vR .int 6 ([wb (vP 0) (vP 99)]) []), (79, vR .int 3 ([wb (vP 0) (vP 9)]) []), (80, vR .byte 80 ([wb (vM 127) (vP 127)]) []), (81, vR .int 32 ([wb (vM 2147483647) (vP 2147483647)]) []), (86, vR .byte 40 ([wb (vM 127) (vP 127)]) []), (97, vR .int 26 ([wb (vP 0) (vP 99)]) []), (98, vR .int 26 ([wb (vM 2147483647) (vP 2147483647)]) [])]
def x_r0 : List sW := [.inl (s_nm 43), wb (vP 0) (vP 9), wb (vP 0) (vP 9)]
def x_rL : List sW := [.inl (s_nm 44), .inl (s_nm 45), .inl (s_nm 46), .inl (s_nm 47), .inl (s_nm 48), .inl (s_nm 49), .inl (s_nm 50), .inl (s_nm 51), .inl (s_nm 52), .inl (s_nm 53), .inl (s_nm 54), .inl (s_nm 55), .inl (s_nm 56), .inl (s_nm 57), .inl (s_nm 58), .inl (s_nm 59), .inl (s_nm 60), .inl (s_nm 61), .inl (s_nm 62), .inl (s_nm 63), .inl (s_nm 64), .inl (s_nm 65), .inl (s_nm 66), .inl (s_nm 67), .inl (s_nm 68), .inl (s_nm 69)]
def x_rT : List sW := [.inl (s_nm 70), .inl (s_nm 71), .inl (s_nm 72), .inl (s_nm 73), .inl (s_nm 74), .inl (s_nm 75), .inl (s_nm 76), .inl (s_nm 77), .inl (s_nm 78), .inl (s_nm 79), .inl (s_nm 80), .inl (s_nm 81), .inl (s_nm 82), .inl (s_nm 83), .inl (s_nm 84), .inl (s_nm 85), .inl (s_nm 86), .inl (s_nm 87), .inl (s_nm 88), .inl (s_nm 89), .inl (s_nm 90), .inl (s_nm 91), .inl (s_nm 92), .inl (s_nm 93), .inl (s_nm 94), .inl (s_nm 95)]
def x_hp : sH := [x_ob, (75, vR .int 59 (List.replicate 6 (wb (vP 0) (vP 3)) ++ List.replicate 6 (wb (vM 0) (vP 7)) ++ List.replicate 8 (wb (vM 0) (vP 99)) ++ List.replicate 8 (wb (vP 0) (vP 9)) ++ List.replicate 8 (wb (vM 2147483647) (vP 2147483647)) ++ List.replicate 20 (wb (vP 0) (vP 109)) ++ [.inl (s_nm 32), .inl (s_nm 33), wb (vM 2147483647) (vP 2147483647)]) []), (76, vR .int 104 ([wb (vP 0) (vP 9)]) []), (77, vR .int 4 ([wb (vP 0) (vP 26)]) [(s_nm 1, (vP 1, vP 26))]), (78, vR .int 6 ([wb (vP 0) (vP 99)]) []), (79, vR .int 3 x_r0 []), (80, vR .byte 80 ([wb (vM 127) (vP 127)]) []), (81, vR .int 32 ([wb (vM 2147483647) (vP 2147483647)]) []), (86, vR .byte 40 ([wb (vM 127) (vP 127)]) []), (97, vR .int 26 x_rL []), (98, vR .int 26 [wb (vM 2147483647) (vP 2147483647)] [])]
def x_hB : sH := [x_ob, (75, vR .int 59 (List.replicate 6 (wb (vP 0) (vP 3)) ++ List.replicate 6 (wb (vM 0) (vP 7)) ++ List.replicate 8 (wb (vM 0) (vP 99)) ++ List.replicate 8 (wb (vP 0) (vP 9)) ++ List.replicate 8 (wb (vM 2147483647) (vP 2147483647)) ++ List.replicate 20 (wb (vP 0) (vP 109)) ++ [.inl (s_nm 32), .inl (s_nm 33), wb (vM 2147483647) (vP 2147483647)]) []), (76, vR .int 104 ([wb (vP 0) (vP 9)]) []), (77, vR .int 4 ([wb (vP 0) (vP 26)]) [(s_nm 1, (vP 1, vP 26))]), (78, vR .int 6 ([wb (vP 0) (vP 99)]) []), (79, vR .int 3 x_r0 []), (80, vR .byte 80 ([wb (vM 127) (vP 127)]) []), (81, vR .int 32 ([wb (vM 2147483647) (vP 2147483647)]) []), (86, vR .byte 40 ([wb (vM 127) (vP 127)]) []), (97, vR .int 26 x_rL []), (98, vR .int 26 x_rT [])]
def x_B70 : List pI := (x_B43 ++ [(vP 0, vP 9)]) ++ List.replicate 26 (vP 0, vP 99)
def x_B97 : List pI := x_B70 ++ (List.replicate 26 (vM 2147483647, vP 2147483647) ++ [(vP 0, vP 26)])
def x_T18 : sG := (18, [(0, vr 74)], [vr 74], (false, x_B43, [], []), x_h18)
def x_T18p : sG := (18, [(0, vr 74)], [vr 74], (false, x_B70, [], []), x_hp)
def x_T21 : sG := (21, [(0, vr 74)], [.inl (s_nm 96)], (false, x_B97, [], []), x_hB)
def x_th : List sF := [(s_nm 1), (s_nm 2), (s_nm 3), (s_num (vP 0)), (s_nm 5), (s_num (vP 0)), (s_nm 34), (s_nm 35), (s_nm 36), (s_nm 37), (s_nm 11), (s_nm 12), (s_nm 13), (s_nm 38), (s_nm 39), (s_nm 40), (s_nm 41), (s_nm 42), (s_nm 19), (s_nm 20), (s_nm 21), (s_nm 22), (s_nm 23), (s_nm 24), (s_nm 25), (s_nm 4), (s_nm 27), (s_nm 28), (s_nm 29), (s_nm 30), (s_nm 31), s_nm 43, s_nm 44, s_nm 45, s_nm 46, s_nm 47, s_nm 48, s_nm 49, s_nm 50, s_nm 51, s_nm 52, s_nm 53, s_nm 54, s_nm 55, s_nm 56, s_nm 57, s_nm 58, s_nm 59, s_nm 60, s_nm 61, s_nm 62, s_nm 63, s_nm 64, s_nm 65, s_nm 66, s_nm 67, s_nm 68, s_nm 69]
def x_T28 : sG := (28, [(0, vr 74), (3, .inl (s_nm 96)), (4, .inl (s_nm 97)), (5, .inl (s_nm 98))], [], (false, x_B97 ++ [(vM 2147483647, vP 2147483647), (vP 0, vP 26)], [], []), x_hB)
def x_lo : sL := [(0, vr 74), (4, .inl (s_nm 97)), (5, .inl (s_nm 98)), (6, .inl (s_nm 99)), (7, .inl (s_nm 100))]
def x_BK : List pI := x_B97 ++ [(vM 2147483647, vP 2147483647), (vM 0, vP 26), (vM 2147483647, vP 2147483647), (vP 0, vP 26)]
def x_cc : sT × Int := ([y_m 98, y_p 100], vP 1)
def x_cx : sT × Int := ([y_m 4, y_p 100], vP 0)
def x_cg : sT × Int := ([y_p 4, y_m 100], vP 1)
def x_rK : sC := .inl (.int, s_num (Int.ofNat 26), x_rL, [(s_nm 100, s_nm 101)], [])
def x_hK : sH := s_hset x_hB 97 x_rK
def x_T61 : sG := (61, x_lo, [], (false, x_BK, [x_cc], []), x_hB)
def x_T61x : sG := (61, x_lo, [], (false, x_BK, [x_cx, x_cc], []), x_hB)
def x_T61g : sG := (61, x_lo, [], (false, x_BK ++ [(vP 0, vP 99)], [x_cg, x_cc], []), x_hK)
def x_T98 (i : Nat) : sG := (98, x_lo ++ [(8, .inl (s_num (vP i)))], [], (false, x_BK ++ [(vP 0, vP 99)], [x_cg, x_cc], []), x_hB)
def x_T98g (i : Nat) : sG := (98, x_lo ++ [(8, .inl (s_num (vP i)))], [], (false, x_BK ++ [(vP 0, vP 99)], [x_cg, x_cc], []), x_hK)
def x_n : sN := (k_306.2.2.2.2.head?).getD (none, (false, [], [], []), [])
def x_bf (r : sF) : List sF := x_id 34 ++ [s_num (vP 0), s_num (vP 0), s_nm 7, s_nm 8, s_nm 9, s_nm 10, s_nm 14, s_nm 15, s_nm 16, s_nm 17, s_nm 18, s_nm 26, r, s_nm 5]
def x_e : List sAl := [(.inl (x_T18, x_id 43), [], []), (.inr (x_n, x_bf (s_num (vM 0))), [], []), (.inr (x_n, x_bf (s_num (vM 99))), [], []), (.inr (x_n, x_bf (s_nm 34)), [], [])]
def x_a21 : List sAl := [(.inl (x_T28, x_id 97 ++ [s_num (vP 0), s_num (vP 0)]), [], [])]
def x_a28 : List sAl := [(.inl (x_T28, x_id 97 ++ [s_nm 100, ([y_p 98], vP 1)]), [(([y_p 96, y_m 98], vP 0), vP 1)], []), (.inl (x_T61, x_id 98 ++ [s_num (vM 0), s_num (vM 0), s_num (vP 0)]), [], [])]
def x_be : List sF := x_id 34 ++ [s_num (vP 0), s_num (vP 0), s_nm 34, s_nm 35, s_nm 36, s_nm 37, s_nm 38, s_nm 39, s_nm 40, s_nm 41, s_nm 42, s_nm 4, s_nm 97, s_num (vP 1)]
def x_a61x : List sAl := [(.inr (x_n, x_be), [], [])]
def x_a61g : List sAl := [(.inl (x_T61, x_id 100 ++ [([y_p 100], vP 1)]), [], []), (.inl (x_T98 0, x_id 102), [], [])]
def x_a98 (i : Nat) : List sAl := [
  (.inl (x_T61, x_id 98 ++ [([y_p 98], vP 1), s_nm (70 + i), ([y_p 100], vP 1)]), [], []),
  (.inl (x_T98 (i + 1), x_id 102), [(([y_m (70 + i), y_p 101], vP 0), vP 1)], []),
  (.inl (x_T98 (i + 1), x_id 102), [(([y_m 43, y_p (70 + i), y_m 101], vP 0), vP 1)], [])]
def x_X : sF → Nat → List sA → sE → sH → Option sZ := s_X tab 8
theorem x_o : s_seg x_X (s_num (vP 227)) 272 (y_at [18]) 200 34 (0, s_args 0 k_306.2.1, [], k_306.2.2.1, k_306.2.2.2.1) x_e = true := by decide +kernel
theorem x_o21 : s_seg y_X (s_num (vP 227)) 272 (y_at [28]) 60 34 x_T21 x_a21 = true := by decide +kernel
theorem x_o28 : s_seg y_X (s_num (vP 227)) 272 (y_at [28, 61]) 60 34 x_T28 x_a28 = true := by decide +kernel
theorem x_o61x : s_seg y_X (s_num (vP 227)) 272 (y_at [61, 98]) 90 34 x_T61x x_a61x = true := by decide +kernel
theorem x_o61g : s_seg y_X (s_num (vP 227)) 272 (y_at [61, 98]) 90 34 x_T61g x_a61g = true := by decide +kernel
def x_ck : Bool := match s_fitT x_th (s_num (vP 227)) [vr 74] (false, x_B70, [], []) x_hp y_k270 with
  | none => false
  | some os => os.all (fun o => match s_ret1 (21, [(0, vr 74)], [], (false, x_B70, [], []), x_hp) o with
    | none => false
    | some f => s_toB 97 (x_id 97) x_T21 f.2.2)
theorem x_oc : x_ck = true := by decide +kernel
def x_isM (as : List sA) : Bool := match as with
  | [.inr (.inl (some k))] => Nat.beq k 74
  | _ => false
def x_cl : Bool := match s_step 272 18 [(0, vr 74)] [vr 74] (false, x_B70, [], []) x_hp with
  | some (.inr (.inl (c, as, f))) => Nat.beq c 270 && x_isM as && Nat.beq f.1 21 && s_nil f.2.2.1
  | _ => false
theorem x_ocl : x_cl = true := by decide +kernel
