/-! remember: what is undone is moved by one. -/
def z_N (C : sK) : Nat := C.2.2.1.2.1.length
def z_H (C : sK) (q r : Nat) : sG := (11, [(0, vr 74), (1, vr q), (2, .inl ([(z_N C, 59)], vP r))], [], (false, (C.2.2.1.2.1.set 21 (vP 12, vP 12)) ++ [(vP 0, bif Nat.beq r 0 then vP 11 else vP 10)], C.2.2.1.2.2.1, C.2.2.1.2.2.2), C.2.2.2.1)
def z_n (C : sK) : sN := (C.2.2.2.2.head?).getD (none, (false, [], [], []), [])
def z_al (C : sK) (q r : Nat) : List sAl := (bif Nat.beq r 58 then (.inl (z_H C q 0, x_id (z_N C) ++ [([(z_N C, 1)], vP 1)]), [], []) else (.inl (z_H C q (r + 1), x_id (z_N C + 1)), [], [])) :: (bif Nat.beq r 0 then [(.inr (z_n C, x_id (z_N C) ++ [s_nm 21]), [], [])] else [])
def z_en (C : sK) (q : Nat) : List sAl := [(.inl (z_H C q 0, x_id (z_N C) ++ [s_num (vP 0)]), [], []), (.inr (z_n C, x_id (z_N C) ++ [([(21, 1)], vP 1)]), [], [])]
def z_ok (tb : Nat → List sK) (C : sK) (q : Nat) : Bool := s_seg (s_X tb 8) C.1 229 (y_at [11]) 200 (z_N C) (0, s_args 0 C.2.1, [], C.2.2.1, C.2.2.2.1) (z_en C q)
def z_ck (tb : Nat → List sK) (C : sK) (q r : Nat) : Bool := s_seg (s_X tb 8) C.1 229 (y_at [11]) 200 (z_N C) (z_H C q r) (z_al C q r)
theorem z_o167 : z_ok tab k_167 75 = true := by decide +kernel
theorem z_c167_0 : z_ck tab k_167 75 0 = true := by decide +kernel
theorem z_c167_1 : z_ck tab k_167 75 1 = true := by decide +kernel
theorem z_c167_2 : z_ck tab k_167 75 2 = true := by decide +kernel
theorem z_c167_3 : z_ck tab k_167 75 3 = true := by decide +kernel
theorem z_c167_4 : z_ck tab k_167 75 4 = true := by decide +kernel
theorem z_c167_5 : z_ck tab k_167 75 5 = true := by decide +kernel
theorem z_c167_6 : z_ck tab k_167 75 6 = true := by decide +kernel
theorem z_c167_7 : z_ck tab k_167 75 7 = true := by decide +kernel
theorem z_c167_8 : z_ck tab k_167 75 8 = true := by decide +kernel
theorem z_c167_9 : z_ck tab k_167 75 9 = true := by decide +kernel
theorem z_c167_10 : z_ck tab k_167 75 10 = true := by decide +kernel
theorem z_c167_11 : z_ck tab k_167 75 11 = true := by decide +kernel
theorem z_c167_12 : z_ck tab k_167 75 12 = true := by decide +kernel
theorem z_c167_13 : z_ck tab k_167 75 13 = true := by decide +kernel
theorem z_c167_14 : z_ck tab k_167 75 14 = true := by decide +kernel
theorem z_c167_15 : z_ck tab k_167 75 15 = true := by decide +kernel
theorem z_c167_16 : z_ck tab k_167 75 16 = true := by decide +kernel
theorem z_c167_17 : z_ck tab k_167 75 17 = true := by decide +kernel
theorem z_c167_18 : z_ck tab k_167 75 18 = true := by decide +kernel
theorem z_c167_19 : z_ck tab k_167 75 19 = true := by decide +kernel
theorem z_c167_20 : z_ck tab k_167 75 20 = true := by decide +kernel
theorem z_c167_21 : z_ck tab k_167 75 21 = true := by decide +kernel
theorem z_c167_22 : z_ck tab k_167 75 22 = true := by decide +kernel
theorem z_c167_23 : z_ck tab k_167 75 23 = true := by decide +kernel
theorem z_c167_24 : z_ck tab k_167 75 24 = true := by decide +kernel
theorem z_c167_25 : z_ck tab k_167 75 25 = true := by decide +kernel
theorem z_c167_26 : z_ck tab k_167 75 26 = true := by decide +kernel
theorem z_c167_27 : z_ck tab k_167 75 27 = true := by decide +kernel
theorem z_c167_28 : z_ck tab k_167 75 28 = true := by decide +kernel
theorem z_c167_29 : z_ck tab k_167 75 29 = true := by decide +kernel
theorem z_c167_30 : z_ck tab k_167 75 30 = true := by decide +kernel
theorem z_c167_31 : z_ck tab k_167 75 31 = true := by decide +kernel
theorem z_c167_32 : z_ck tab k_167 75 32 = true := by decide +kernel
theorem z_c167_33 : z_ck tab k_167 75 33 = true := by decide +kernel
theorem z_c167_34 : z_ck tab k_167 75 34 = true := by decide +kernel
theorem z_c167_35 : z_ck tab k_167 75 35 = true := by decide +kernel
theorem z_c167_36 : z_ck tab k_167 75 36 = true := by decide +kernel
theorem z_c167_37 : z_ck tab k_167 75 37 = true := by decide +kernel
theorem z_c167_38 : z_ck tab k_167 75 38 = true := by decide +kernel
theorem z_c167_39 : z_ck tab k_167 75 39 = true := by decide +kernel
theorem z_c167_40 : z_ck tab k_167 75 40 = true := by decide +kernel
theorem z_c167_41 : z_ck tab k_167 75 41 = true := by decide +kernel
theorem z_c167_42 : z_ck tab k_167 75 42 = true := by decide +kernel
theorem z_c167_43 : z_ck tab k_167 75 43 = true := by decide +kernel
theorem z_c167_44 : z_ck tab k_167 75 44 = true := by decide +kernel
theorem z_c167_45 : z_ck tab k_167 75 45 = true := by decide +kernel
theorem z_c167_46 : z_ck tab k_167 75 46 = true := by decide +kernel
theorem z_c167_47 : z_ck tab k_167 75 47 = true := by decide +kernel
theorem z_c167_48 : z_ck tab k_167 75 48 = true := by decide +kernel
theorem z_c167_49 : z_ck tab k_167 75 49 = true := by decide +kernel
theorem z_c167_50 : z_ck tab k_167 75 50 = true := by decide +kernel
theorem z_c167_51 : z_ck tab k_167 75 51 = true := by decide +kernel
theorem z_c167_52 : z_ck tab k_167 75 52 = true := by decide +kernel
theorem z_c167_53 : z_ck tab k_167 75 53 = true := by decide +kernel
theorem z_c167_54 : z_ck tab k_167 75 54 = true := by decide +kernel
theorem z_c167_55 : z_ck tab k_167 75 55 = true := by decide +kernel
theorem z_c167_56 : z_ck tab k_167 75 56 = true := by decide +kernel
theorem z_c167_57 : z_ck tab k_167 75 57 = true := by decide +kernel
theorem z_c167_58 : z_ck tab k_167 75 58 = true := by decide +kernel
theorem z_c167 : ∀ r, r < 59 → z_ck tab k_167 75 r = true := by
  intro r hr
  match r, hr with
  | 0, _ => exact z_c167_0
  | 1, _ => exact z_c167_1
  | 2, _ => exact z_c167_2
  | 3, _ => exact z_c167_3
  | 4, _ => exact z_c167_4
  | 5, _ => exact z_c167_5
  | 6, _ => exact z_c167_6
  | 7, _ => exact z_c167_7
  | 8, _ => exact z_c167_8
  | 9, _ => exact z_c167_9
  | 10, _ => exact z_c167_10
  | 11, _ => exact z_c167_11
  | 12, _ => exact z_c167_12
  | 13, _ => exact z_c167_13
  | 14, _ => exact z_c167_14
  | 15, _ => exact z_c167_15
  | 16, _ => exact z_c167_16
  | 17, _ => exact z_c167_17
  | 18, _ => exact z_c167_18
  | 19, _ => exact z_c167_19
  | 20, _ => exact z_c167_20
  | 21, _ => exact z_c167_21
  | 22, _ => exact z_c167_22
  | 23, _ => exact z_c167_23
  | 24, _ => exact z_c167_24
  | 25, _ => exact z_c167_25
  | 26, _ => exact z_c167_26
  | 27, _ => exact z_c167_27
  | 28, _ => exact z_c167_28
  | 29, _ => exact z_c167_29
  | 30, _ => exact z_c167_30
  | 31, _ => exact z_c167_31
  | 32, _ => exact z_c167_32
  | 33, _ => exact z_c167_33
  | 34, _ => exact z_c167_34
  | 35, _ => exact z_c167_35
  | 36, _ => exact z_c167_36
  | 37, _ => exact z_c167_37
  | 38, _ => exact z_c167_38
  | 39, _ => exact z_c167_39
  | 40, _ => exact z_c167_40
  | 41, _ => exact z_c167_41
  | 42, _ => exact z_c167_42
  | 43, _ => exact z_c167_43
  | 44, _ => exact z_c167_44
  | 45, _ => exact z_c167_45
  | 46, _ => exact z_c167_46
  | 47, _ => exact z_c167_47
  | 48, _ => exact z_c167_48
  | 49, _ => exact z_c167_49
  | 50, _ => exact z_c167_50
  | 51, _ => exact z_c167_51
  | 52, _ => exact z_c167_52
  | 53, _ => exact z_c167_53
  | 54, _ => exact z_c167_54
  | 55, _ => exact z_c167_55
  | 56, _ => exact z_c167_56
  | 57, _ => exact z_c167_57
  | 58, _ => exact z_c167_58
  | r + 59, hr => omega
theorem z_o168 : z_ok tabY k_168 88 = true := by decide +kernel
theorem z_c168_0 : z_ck tabY k_168 88 0 = true := by decide +kernel
theorem z_c168_1 : z_ck tabY k_168 88 1 = true := by decide +kernel
theorem z_c168_2 : z_ck tabY k_168 88 2 = true := by decide +kernel
theorem z_c168_3 : z_ck tabY k_168 88 3 = true := by decide +kernel
theorem z_c168_4 : z_ck tabY k_168 88 4 = true := by decide +kernel
theorem z_c168_5 : z_ck tabY k_168 88 5 = true := by decide +kernel
theorem z_c168_6 : z_ck tabY k_168 88 6 = true := by decide +kernel
theorem z_c168_7 : z_ck tabY k_168 88 7 = true := by decide +kernel
theorem z_c168_8 : z_ck tabY k_168 88 8 = true := by decide +kernel
theorem z_c168_9 : z_ck tabY k_168 88 9 = true := by decide +kernel
theorem z_c168_10 : z_ck tabY k_168 88 10 = true := by decide +kernel
theorem z_c168_11 : z_ck tabY k_168 88 11 = true := by decide +kernel
theorem z_c168_12 : z_ck tabY k_168 88 12 = true := by decide +kernel
theorem z_c168_13 : z_ck tabY k_168 88 13 = true := by decide +kernel
theorem z_c168_14 : z_ck tabY k_168 88 14 = true := by decide +kernel
theorem z_c168_15 : z_ck tabY k_168 88 15 = true := by decide +kernel
theorem z_c168_16 : z_ck tabY k_168 88 16 = true := by decide +kernel
theorem z_c168_17 : z_ck tabY k_168 88 17 = true := by decide +kernel
theorem z_c168_18 : z_ck tabY k_168 88 18 = true := by decide +kernel
theorem z_c168_19 : z_ck tabY k_168 88 19 = true := by decide +kernel
theorem z_c168_20 : z_ck tabY k_168 88 20 = true := by decide +kernel
theorem z_c168_21 : z_ck tabY k_168 88 21 = true := by decide +kernel
theorem z_c168_22 : z_ck tabY k_168 88 22 = true := by decide +kernel
theorem z_c168_23 : z_ck tabY k_168 88 23 = true := by decide +kernel
theorem z_c168_24 : z_ck tabY k_168 88 24 = true := by decide +kernel
theorem z_c168_25 : z_ck tabY k_168 88 25 = true := by decide +kernel
theorem z_c168_26 : z_ck tabY k_168 88 26 = true := by decide +kernel
theorem z_c168_27 : z_ck tabY k_168 88 27 = true := by decide +kernel
theorem z_c168_28 : z_ck tabY k_168 88 28 = true := by decide +kernel
theorem z_c168_29 : z_ck tabY k_168 88 29 = true := by decide +kernel
theorem z_c168_30 : z_ck tabY k_168 88 30 = true := by decide +kernel
theorem z_c168_31 : z_ck tabY k_168 88 31 = true := by decide +kernel
theorem z_c168_32 : z_ck tabY k_168 88 32 = true := by decide +kernel
theorem z_c168_33 : z_ck tabY k_168 88 33 = true := by decide +kernel
theorem z_c168_34 : z_ck tabY k_168 88 34 = true := by decide +kernel
theorem z_c168_35 : z_ck tabY k_168 88 35 = true := by decide +kernel
theorem z_c168_36 : z_ck tabY k_168 88 36 = true := by decide +kernel
theorem z_c168_37 : z_ck tabY k_168 88 37 = true := by decide +kernel
theorem z_c168_38 : z_ck tabY k_168 88 38 = true := by decide +kernel
theorem z_c168_39 : z_ck tabY k_168 88 39 = true := by decide +kernel
theorem z_c168_40 : z_ck tabY k_168 88 40 = true := by decide +kernel
theorem z_c168_41 : z_ck tabY k_168 88 41 = true := by decide +kernel
theorem z_c168_42 : z_ck tabY k_168 88 42 = true := by decide +kernel
theorem z_c168_43 : z_ck tabY k_168 88 43 = true := by decide +kernel
theorem z_c168_44 : z_ck tabY k_168 88 44 = true := by decide +kernel
theorem z_c168_45 : z_ck tabY k_168 88 45 = true := by decide +kernel
theorem z_c168_46 : z_ck tabY k_168 88 46 = true := by decide +kernel
theorem z_c168_47 : z_ck tabY k_168 88 47 = true := by decide +kernel
theorem z_c168_48 : z_ck tabY k_168 88 48 = true := by decide +kernel
theorem z_c168_49 : z_ck tabY k_168 88 49 = true := by decide +kernel
theorem z_c168_50 : z_ck tabY k_168 88 50 = true := by decide +kernel
theorem z_c168_51 : z_ck tabY k_168 88 51 = true := by decide +kernel
theorem z_c168_52 : z_ck tabY k_168 88 52 = true := by decide +kernel
theorem z_c168_53 : z_ck tabY k_168 88 53 = true := by decide +kernel
theorem z_c168_54 : z_ck tabY k_168 88 54 = true := by decide +kernel
theorem z_c168_55 : z_ck tabY k_168 88 55 = true := by decide +kernel
theorem z_c168_56 : z_ck tabY k_168 88 56 = true := by decide +kernel
theorem z_c168_57 : z_ck tabY k_168 88 57 = true := by decide +kernel
theorem z_c168_58 : z_ck tabY k_168 88 58 = true := by decide +kernel
theorem z_c168 : ∀ r, r < 59 → z_ck tabY k_168 88 r = true := by
  intro r hr
  match r, hr with
  | 0, _ => exact z_c168_0
  | 1, _ => exact z_c168_1
  | 2, _ => exact z_c168_2
  | 3, _ => exact z_c168_3
  | 4, _ => exact z_c168_4
  | 5, _ => exact z_c168_5
  | 6, _ => exact z_c168_6
  | 7, _ => exact z_c168_7
  | 8, _ => exact z_c168_8
  | 9, _ => exact z_c168_9
  | 10, _ => exact z_c168_10
  | 11, _ => exact z_c168_11
  | 12, _ => exact z_c168_12
  | 13, _ => exact z_c168_13
  | 14, _ => exact z_c168_14
  | 15, _ => exact z_c168_15
  | 16, _ => exact z_c168_16
  | 17, _ => exact z_c168_17
  | 18, _ => exact z_c168_18
  | 19, _ => exact z_c168_19
  | 20, _ => exact z_c168_20
  | 21, _ => exact z_c168_21
  | 22, _ => exact z_c168_22
  | 23, _ => exact z_c168_23
  | 24, _ => exact z_c168_24
  | 25, _ => exact z_c168_25
  | 26, _ => exact z_c168_26
  | 27, _ => exact z_c168_27
  | 28, _ => exact z_c168_28
  | 29, _ => exact z_c168_29
  | 30, _ => exact z_c168_30
  | 31, _ => exact z_c168_31
  | 32, _ => exact z_c168_32
  | 33, _ => exact z_c168_33
  | 34, _ => exact z_c168_34
  | 35, _ => exact z_c168_35
  | 36, _ => exact z_c168_36
  | 37, _ => exact z_c168_37
  | 38, _ => exact z_c168_38
  | 39, _ => exact z_c168_39
  | 40, _ => exact z_c168_40
  | 41, _ => exact z_c168_41
  | 42, _ => exact z_c168_42
  | 43, _ => exact z_c168_43
  | 44, _ => exact z_c168_44
  | 45, _ => exact z_c168_45
  | 46, _ => exact z_c168_46
  | 47, _ => exact z_c168_47
  | 48, _ => exact z_c168_48
  | 49, _ => exact z_c168_49
  | 50, _ => exact z_c168_50
  | 51, _ => exact z_c168_51
  | 52, _ => exact z_c168_52
  | 53, _ => exact z_c168_53
  | 54, _ => exact z_c168_54
  | 55, _ => exact z_c168_55
  | 56, _ => exact z_c168_56
  | 57, _ => exact z_c168_57
  | 58, _ => exact z_c168_58
  | r + 59, hr => omega
