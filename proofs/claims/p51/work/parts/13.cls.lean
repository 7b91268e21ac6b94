/-- what the words say of a class: its fields' words are there, their types, their names apart, it can be made -/
noncomputable def q_cls (ci : Nat) (q : vw_C) : Prop := (∀ w ∈ u_ws q.1 q.2.1 q.2.2, w ∈ tb) ∧ (∀ k, k < q.2.2 → parseFieldDescriptor (q.2.1 k).2.2.1 = some (tyOf ci k)) ∧ (∀ a, a < q.2.2 → ∀ b, b < q.2.2 → a ≠ b → (q.2.1 a).2.1 ≠ (q.2.1 b).2.1) ∧ Cond.instantiable q.1 q.2.2 ∈ tb ∧ Cond.initialized q.1 ∈ tb ∧ (∀ k, k < q.2.2 → tyOf ci k = .int ∨ tyOf ci k = .boolean ∨ (∃ t, tyOf ci k = .array t) ∨ ∃ n, tyOf ci k = .object n)
noncomputable def q_layB (ws : List Cond) (is : List Nat) : Bool := Nat.beq ws.length is.length && (ws.zip is).all (fun x => wAt x.2 x.1)
theorem q_lay {ws : List Cond} {is : List Nat} (h : q_layB ws is = true) : ∀ w ∈ ws, w ∈ tb := by
  simp only [q_layB, Bool.and_eq_true] at h
  have hl := Nat.eq_of_beq_eq_true h.1
  have ha := List.all_eq_true.mp h.2
  intro w hw
  obtain ⟨i, hi, rfl⟩ := List.mem_iff_getElem.mp hw
  have hm : (ws[i], is[i]'(by omega)) ∈ ws.zip is := by
    refine List.mem_iff_getElem.mpr ⟨i, by simp; omega, ?_⟩
    simp
  exact wAt_mem (ha _ hm)
noncomputable def q_tyB (t : FieldType) : Bool := match t with
  | .int => true
  | .boolean => true
  | .array _ => true
  | .object _ => true
  | _ => false
theorem q_ty {t : FieldType} (h : q_tyB t = true) : t = .int ∨ t = .boolean ∨ (∃ u, t = .array u) ∨ ∃ n, t = .object n := by
  cases t <;> simp [q_tyB] at h ⊢
set_option maxRecDepth 100000 in
theorem q_lay0 : q_layB (u_ws RX0 TX0 5) [131, 133, 135, 137, 139] = true := by decide +kernel
set_option maxRecDepth 100000 in
theorem q_tyz0 : ∀ k, k < 5 → q_tyB (tyOf 0 k) = true := by decide +kernel
set_option maxRecDepth 100000 in
theorem q_tyo0 : ∀ k, k < 5 → parseFieldDescriptor (TX0 k).2.2.1 = some (tyOf 0 k) := tyX0_ok
set_option maxRecDepth 100000 in
theorem q_cls0 : q_cls 0 (RX0, TX0, 5) := ⟨q_lay q_lay0, q_tyo0, nmX0, wAt_mem (i := 120) (by decide +kernel), wAt_mem (i := 69) (by decide +kernel), fun k hk => q_ty (q_tyz0 k hk)⟩
set_option maxRecDepth 100000 in
theorem q_lay1 : q_layB (u_ws RX1 TX1 5) [200, 202, 204, 206, 208] = true := by decide +kernel
set_option maxRecDepth 100000 in
theorem q_tyz1 : ∀ k, k < 5 → q_tyB (tyOf 1 k) = true := by decide +kernel
set_option maxRecDepth 100000 in
theorem q_tyo1 : ∀ k, k < 5 → parseFieldDescriptor (TX1 k).2.2.1 = some (tyOf 1 k) := tyX1_ok
set_option maxRecDepth 100000 in
theorem q_cls1 : q_cls 1 (RX1, TX1, 5) := ⟨q_lay q_lay1, q_tyo1, nmX1, wAt_mem (i := 184) (by decide +kernel), wAt_mem (i := 72) (by decide +kernel), fun k hk => q_ty (q_tyz1 k hk)⟩
set_option maxRecDepth 100000 in
theorem q_lay2 : q_layB (u_ws RX2 TX2 6) [292, 294, 296, 298, 300, 302] = true := by decide +kernel
set_option maxRecDepth 100000 in
theorem q_tyz2 : ∀ k, k < 6 → q_tyB (tyOf 2 k) = true := by decide +kernel
set_option maxRecDepth 100000 in
theorem q_tyo2 : ∀ k, k < 6 → parseFieldDescriptor (TX2 k).2.2.1 = some (tyOf 2 k) := tyX2_ok
set_option maxRecDepth 100000 in
theorem q_cls2 : q_cls 2 (RX2, TX2, 6) := ⟨q_lay q_lay2, q_tyo2, nmX2, wAt_mem (i := 278) (by decide +kernel), wAt_mem (i := 73) (by decide +kernel), fun k hk => q_ty (q_tyz2 k hk)⟩
set_option maxRecDepth 100000 in
theorem q_lay3 : q_layB (u_ws RX3 TX3 15) [246, 248, 250, 252, 254, 256, 258, 260, 262, 264, 266, 268, 270, 272, 274] = true := by decide +kernel
set_option maxRecDepth 100000 in
theorem q_tyz3 : ∀ k, k < 15 → q_tyB (tyOf 3 k) = true := by decide +kernel
set_option maxRecDepth 100000 in
theorem q_tyo3 : ∀ k, k < 15 → parseFieldDescriptor (TX3 k).2.2.1 = some (tyOf 3 k) := tyX3_ok
set_option maxRecDepth 100000 in
theorem q_cls3 : q_cls 3 (RX3, TX3, 15) := ⟨q_lay q_lay3, q_tyo3, nmX3, wAt_mem (i := 178) (by decide +kernel), wAt_mem (i := 71) (by decide +kernel), fun k hk => q_ty (q_tyz3 k hk)⟩
set_option maxRecDepth 100000 in
theorem q_lay4 : q_layB (u_ws RX4 TX4 2) [435, 437] = true := by decide +kernel
set_option maxRecDepth 100000 in
theorem q_tyz4 : ∀ k, k < 2 → q_tyB (tyOf 4 k) = true := by decide +kernel
set_option maxRecDepth 100000 in
theorem q_tyo4 : ∀ k, k < 2 → parseFieldDescriptor (TX4 k).2.2.1 = some (tyOf 4 k) := tyX4_ok
set_option maxRecDepth 100000 in
theorem q_cls4 : q_cls 4 (RX4, TX4, 2) := ⟨q_lay q_lay4, q_tyo4, nmX4, wAt_mem (i := 426) (by decide +kernel), wAt_mem (i := 78) (by decide +kernel), fun k hk => q_ty (q_tyz4 k hk)⟩
set_option maxRecDepth 100000 in
theorem q_lay5 : q_layB (u_ws RX5 TX5 9) [158, 160, 162, 164, 166, 168, 170, 172, 174] = true := by decide +kernel
set_option maxRecDepth 100000 in
theorem q_tyz5 : ∀ k, k < 9 → q_tyB (tyOf 5 k) = true := by decide +kernel
set_option maxRecDepth 100000 in
theorem q_tyo5 : ∀ k, k < 9 → parseFieldDescriptor (TX5 k).2.2.1 = some (tyOf 5 k) := tyX5_ok
set_option maxRecDepth 100000 in
theorem q_cls5 : q_cls 5 (RX5, TX5, 9) := ⟨q_lay q_lay5, q_tyo5, nmX5, wAt_mem (i := 144) (by decide +kernel), wAt_mem (i := 70) (by decide +kernel), fun k hk => q_ty (q_tyz5 k hk)⟩
set_option maxRecDepth 100000 in
theorem q_lay6 : q_layB (u_ws RX6 TX6 5) [380, 382, 384, 386, 388] = true := by decide +kernel
set_option maxRecDepth 100000 in
theorem q_tyz6 : ∀ k, k < 5 → q_tyB (tyOf 6 k) = true := by decide +kernel
set_option maxRecDepth 100000 in
theorem q_tyo6 : ∀ k, k < 5 → parseFieldDescriptor (TX6 k).2.2.1 = some (tyOf 6 k) := tyX6_ok
set_option maxRecDepth 100000 in
theorem q_cls6 : q_cls 6 (RX6, TX6, 5) := ⟨q_lay q_lay6, q_tyo6, nmX6, wAt_mem (i := 365) (by decide +kernel), wAt_mem (i := 76) (by decide +kernel), fun k hk => q_ty (q_tyz6 k hk)⟩
set_option maxRecDepth 100000 in
theorem q_lay7 : q_layB (u_ws RX7 TX7 4) [109, 111, 113, 115] = true := by decide +kernel
set_option maxRecDepth 100000 in
theorem q_tyz7 : ∀ k, k < 4 → q_tyB (tyOf 7 k) = true := by decide +kernel
set_option maxRecDepth 100000 in
theorem q_tyo7 : ∀ k, k < 4 → parseFieldDescriptor (TX7 k).2.2.1 = some (tyOf 7 k) := tyX7_ok
set_option maxRecDepth 100000 in
theorem q_cls7 : q_cls 7 (RX7, TX7, 4) := ⟨q_lay q_lay7, q_tyo7, nmX7, wAt_mem (i := 96) (by decide +kernel), wAt_mem (i := 68) (by decide +kernel), fun k hk => q_ty (q_tyz7 k hk)⟩
set_option maxRecDepth 100000 in
theorem q_lay8 : q_layB (u_ws RX8 TX8 9) [345, 347, 349, 351, 353, 355, 357, 359, 361] = true := by decide +kernel
set_option maxRecDepth 100000 in
theorem q_tyz8 : ∀ k, k < 9 → q_tyB (tyOf 8 k) = true := by decide +kernel
set_option maxRecDepth 100000 in
theorem q_tyo8 : ∀ k, k < 9 → parseFieldDescriptor (TX8 k).2.2.1 = some (tyOf 8 k) := tyX8_ok
set_option maxRecDepth 100000 in
theorem q_cls8 : q_cls 8 (RX8, TX8, 9) := ⟨q_lay q_lay8, q_tyo8, nmX8, wAt_mem (i := 325) (by decide +kernel), wAt_mem (i := 75) (by decide +kernel), fun k hk => q_ty (q_tyz8 k hk)⟩
set_option maxRecDepth 100000 in
theorem q_lay9 : q_layB (u_ws RX9 TX9 8) [407, 409, 411, 413, 415, 417, 419, 421] = true := by decide +kernel
set_option maxRecDepth 100000 in
theorem q_tyz9 : ∀ k, k < 8 → q_tyB (tyOf 9 k) = true := by decide +kernel
set_option maxRecDepth 100000 in
theorem q_tyo9 : ∀ k, k < 8 → parseFieldDescriptor (TX9 k).2.2.1 = some (tyOf 9 k) := tyX9_ok
set_option maxRecDepth 100000 in
theorem q_cls9 : q_cls 9 (RX9, TX9, 8) := ⟨q_lay q_lay9, q_tyo9, nmX9, wAt_mem (i := 392) (by decide +kernel), wAt_mem (i := 77) (by decide +kernel), fun k hk => q_ty (q_tyz9 k hk)⟩
set_option maxRecDepth 100000 in
theorem q_lay10 : q_layB (u_ws RX10 TX10 3) [317, 319, 321] = true := by decide +kernel
set_option maxRecDepth 100000 in
theorem q_tyz10 : ∀ k, k < 3 → q_tyB (tyOf 10 k) = true := by decide +kernel
set_option maxRecDepth 100000 in
theorem q_tyo10 : ∀ k, k < 3 → parseFieldDescriptor (TX10 k).2.2.1 = some (tyOf 10 k) := tyX10_ok
set_option maxRecDepth 100000 in
theorem q_cls10 : q_cls 10 (RX10, TX10, 3) := ⟨q_lay q_lay10, q_tyo10, nmX10, wAt_mem (i := 306) (by decide +kernel), wAt_mem (i := 74) (by decide +kernel), fun k hk => q_ty (q_tyz10 k hk)⟩
set_option maxRecDepth 100000 in
theorem q_lay11 : q_layB (u_ws RX11 TX11 11) [451, 453, 455, 457, 459, 461, 463, 465, 467, 469, 471] = true := by decide +kernel
set_option maxRecDepth 100000 in
theorem q_tyz11 : ∀ k, k < 11 → q_tyB (tyOf 11 k) = true := by decide +kernel
set_option maxRecDepth 100000 in
theorem q_tyo11 : ∀ k, k < 11 → parseFieldDescriptor (TX11 k).2.2.1 = some (tyOf 11 k) := tyX11_ok
set_option maxRecDepth 100000 in
theorem q_cls11 : q_cls 11 (RX11, TX11, 11) := ⟨q_lay q_lay11, q_tyo11, nmX11, wAt_mem (i := 88) (by decide +kernel), wAt_mem (i := 67) (by decide +kernel), fun k hk => q_ty (q_tyz11 k hk)⟩
set_option maxRecDepth 100000 in
theorem q_lay12 : q_layB (u_ws RX12 TX12 66) [1377, 1379, 1381, 1383, 1385, 1387, 1389, 1391, 1393, 1395, 1397, 1399, 1401, 1403, 1405, 1407, 1409, 1411, 1413, 1415, 1417, 1419, 1421, 1423, 1425, 1427, 1429, 1431, 1433, 1435, 1437, 1439, 1441, 1443, 1445, 1447, 1449, 1451, 1453, 1455, 1457, 1459, 1461, 1463, 1465, 1467, 1469, 1471, 1473, 1475, 1477, 1479, 1481, 1483, 1485, 1487, 1489, 1491, 1493, 1495, 1497, 1499, 1501, 1503, 1505, 1507] = true := by decide +kernel
set_option maxRecDepth 100000 in
theorem q_tyz12 : ∀ k, k < 66 → q_tyB (tyOf 12 k) = true := by decide +kernel
set_option maxRecDepth 100000 in
theorem q_tyo12 : ∀ k, k < 66 → parseFieldDescriptor (TX12 k).2.2.1 = some (tyOf 12 k) := tyX12_ok
set_option maxRecDepth 100000 in
theorem q_cls12 : q_cls 12 (RX12, TX12, 66) := ⟨q_lay q_lay12, q_tyo12, nmX12, wAt_mem (i := 1306) (by decide +kernel), wAt_mem (i := 79) (by decide +kernel), fun k hk => q_ty (q_tyz12 k hk)⟩
theorem q_clsA : ∀ (ci : Nat) (q : vw_C), vwCl[ci]? = some q → q_cls ci q
  | 0, _, h => Option.some.inj h ▸ q_cls0
  | 1, _, h => Option.some.inj h ▸ q_cls1
  | 2, _, h => Option.some.inj h ▸ q_cls2
  | 3, _, h => Option.some.inj h ▸ q_cls3
  | 4, _, h => Option.some.inj h ▸ q_cls4
  | 5, _, h => Option.some.inj h ▸ q_cls5
  | 6, _, h => Option.some.inj h ▸ q_cls6
  | 7, _, h => Option.some.inj h ▸ q_cls7
  | 8, _, h => Option.some.inj h ▸ q_cls8
  | 9, _, h => Option.some.inj h ▸ q_cls9
  | 10, _, h => Option.some.inj h ▸ q_cls10
  | 11, _, h => Option.some.inj h ▸ q_cls11
  | 12, _, h => Option.some.inj h ▸ q_cls12
  | n + 13, _, h => nomatch h
theorem q_ac_int : Cond.arrayClass .int ∈ tb := wAt_mem (i := 142) (by decide +kernel)
theorem q_ac_byte : Cond.arrayClass .byte ∈ tb := wAt_mem (i := 1274) (by decide +kernel)
theorem q_ac_boolean : Cond.arrayClass .boolean ∈ tb := wAt_mem (i := 424) (by decide +kernel)
theorem q_ac_char : Cond.arrayClass .char ∈ tb := wAt_mem (i := 118) (by decide +kernel)
theorem q_ac_long : Cond.arrayClass .long ∈ tb := wAt_mem (i := 1510) (by decide +kernel)
theorem q_ao : lw_tbl[284]? = some (Cond.arrayOver (.array .int)) := by decide +kernel
theorem q_w_nat : Cond.native arraycopyName ∈ tb := wAt_mem (i := 527) (by decide +kernel)
theorem q_w_sta : Cond.static arraycopyName ∈ tb := wAt_mem (i := 526) (by decide +kernel)
theorem q_w_sys : Cond.initialized "java/lang/System" ∈ tb := wAt_mem (i := 81) (by decide +kernel)
theorem q_w_oi : Cond.instanceMethod objectInit ∈ tb := wAt_mem (i := 93) (by decide +kernel)
theorem q_w_oc : Cond.code objectInit ⟨#[0xb1]⟩ 1 none ∈ tb := wAt_mem (i := 94) (by decide +kernel)
