/-! What block theorems use. -/
noncomputable def s_tstB (c : ClassFile.Cond) (x y : Int) : Bool := match c with
  | .eq => decide (x = y)
  | .ne => !decide (x = y)
  | .lt => decide (x < y)
  | .ge => !decide (x < y)
  | .gt => decide (y < x)
  | .le => !decide (y < x)
theorem z_litT {c : ClassFile.Cond} {x y : Int} (h : s_tstB c x y = true) : z_tst c x y := by
  cases c <;> simp [s_tstB] at h <;> simp only [z_tst] <;> omega
theorem z_litF {c : ClassFile.Cond} {x y : Int} (h : z_tst c x y) (e : s_tstB c x y = false) : False := by
  cases c <;> simp [s_tstB] at e <;> simp only [z_tst] at h <;> omega
theorem z_eqL {x y : Int} (h : decide (x = y) = true) : x = y := of_decide_eq_true h
theorem z_neqL {x y : Int} (h : x = y) (e : decide (x = y) = false) : False := of_decide_eq_false e h
theorem z_neL {x : Int} (h : decide (x = 0) = false) : ¬ x = 0 := of_decide_eq_false h
theorem z_lneL {x : Int} (h : decide (x = 0) = false) : ¬ x = 0 := of_decide_eq_false h
theorem z_n8086 {x : Int} (h : x = 80) (e : x = 86) : False := by omega
theorem wl_id {a : Int} (h1 : -9223372036854775808 ≤ a) (h2 : a ≤ 9223372036854775807) : wl a = a := by
  simp only [wl_def]
  omega
theorem z_tmodB (a b h : Int) (ha : 0 ≤ a) (hb : 1 ≤ b) (hh : a ≤ h ∨ b - 1 ≤ h) : 0 ≤ Int.tmod a b ∧ Int.tmod a b ≤ h := by
  have h1 := Int.tmod_nonneg b ha
  have h2 := Int.tmod_lt_of_pos a (show 0 < b by omega)
  have h3 : Int.tmod a b ≤ a := by
    have e := Int.tmod_def a b
    have := Int.mul_nonneg (show 0 ≤ b by omega) (Int.tdiv_nonneg ha (show 0 ≤ b by omega))
    omega
  omega
theorem z_tdivB (a b h : Int) (ha : 0 ≤ a) (hb : 1 ≤ b) (hh : a ≤ h) : 0 ≤ Int.tdiv a b ∧ Int.tdiv a b ≤ h := by
  have h1 := Int.tdiv_nonneg ha (show 0 ≤ b by omega)
  have h2 : Int.tdiv a b ≤ a := Int.tdiv_le_self b ha
  omega
theorem z_b8B (a : Int) : -128 ≤ z_b8 a ∧ z_b8 a ≤ 127 := by
  unfold z_b8
  omega
theorem z_s16B (a : Int) : -32768 ≤ z_s16 a ∧ z_s16 a ≤ 32767 := by
  unfold z_s16
  omega
theorem z_c16B (a : Int) : 0 ≤ a % 65536 ∧ a % 65536 ≤ 65535 := by omega
theorem z_lcB (a b : Int) : -1 ≤ z_lc a b ∧ z_lc a b ≤ 1 := by
  unfold z_lc
  split
  · omega
  · split <;> omega
theorem z_mulB (a b p q r : Int) (h1 : 0 ≤ a) (h2 : 0 ≤ b) (h3 : a ≤ p) (h4 : b ≤ q) (e : p * q = r) : 0 ≤ a * b ∧ a * b ≤ r := ⟨Int.mul_nonneg h1 h2, e ▸ Int.mul_le_mul h3 h4 h2 (by omega)⟩
theorem z_i32B (x : Int32) : -2147483648 ≤ x.toInt ∧ x.toInt ≤ 2147483647 := ⟨q_low x, q_high x⟩
theorem z_andB (a b : Int) : -2147483648 ≤ z_and a b ∧ z_and a b ≤ 2147483647 := z_i32B _
theorem z_orB (a b : Int) : -2147483648 ≤ z_or a b ∧ z_or a b ≤ 2147483647 := z_i32B _
theorem z_xorB (a b : Int) : -2147483648 ≤ z_xor a b ∧ z_xor a b ≤ 2147483647 := z_i32B _
theorem z_shlB (a b : Int) : -2147483648 ≤ z_shl a b ∧ z_shl a b ≤ 2147483647 := z_i32B _
theorem z_shrB (a b : Int) : -2147483648 ≤ z_shr a b ∧ z_shr a b ≤ 2147483647 := z_i32B _
theorem z_ushB (a b : Int) : -2147483648 ≤ z_ush a b ∧ z_ush a b ≤ 2147483647 := z_i32B _
theorem z_wf {α : Type} {T : Nat → Nat → zG → (Option zA → zM → Prop) → Prop} {D k : Nat} {κ : Option zA → zM → Prop} (μ : α → Nat) (g : α → zG) (I : α → Prop) (step : ∀ a, I a → (∀ b, I b → μ b < μ a → T D k (g b) κ) → T D k (g a) κ) : ∀ a, I a → T D k (g a) κ := by
  have key : ∀ n a, μ a < n → I a → T D k (g a) κ := by
    intro n
    induction n with
    | zero => intro a h; omega
    | succ n ih => intro a h hI; exact step a hI (fun b hb hlt => ih b (by omega) hb)
  intro a hI
  exact key (μ a + 1) a (by omega) hI
theorem z_andC (a : Int) (n : Nat) (hn : n < 2147483648) : 0 ≤ z_and a (n : Int) ∧ z_and a (n : Int) ≤ (n : Int) := by
  unfold z_and
  have e1 : (Int32.ofInt a &&& Int32.ofInt (n : Int)).toBitVec.toNat ≤ n := by
    rw [Int32.toBitVec_and, BitVec.toNat_and]
    refine Nat.le_trans Nat.and_le_right ?_
    have e := z_natS (n : Int)
    omega
  have e2 := s_ofnat (z := (Int32.ofInt a &&& Int32.ofInt (n : Int))) (by omega)
  omega
/-! What numbers lie in the cells. -/
noncomputable def zb75 (j : Nat) : Option (Int × Int) := (bif Nat.ble 0 j && Nat.blt j 6 then some (0, 3) else bif Nat.ble 6 j && Nat.blt j 12 then some ((-1), 7) else bif Nat.ble 12 j && Nat.blt j 20 then some ((-1), 99) else bif Nat.ble 20 j && Nat.blt j 28 then some ((-1), 9) else bif Nat.ble 36 j && Nat.blt j 56 then some (0, 108) else bif Nat.beq j 56 then some (0, 20) else bif Nat.beq j 57 then some (0, 400000) else none)
noncomputable def zbMm (j : Nat) : Option (Int × Int) := (bif Nat.ble 0 j && Nat.blt j 6 then some ((-1), 3) else bif Nat.ble 6 j && Nat.blt j 12 then some ((-1), 7) else bif Nat.ble 12 j && Nat.blt j 20 then some ((-1), 99) else bif Nat.ble 20 j && Nat.blt j 28 then some ((-1), 9) else bif Nat.ble 36 j && Nat.blt j 56 then some (0, 108) else bif Nat.beq j 56 then some (0, 20) else bif Nat.beq j 58 then some (0, 400000) else none)
noncomputable def zbt (c j : Nat) : Option (Int × Int) := (bif Nat.blt c 41 then (bif Nat.blt c 20 then (bif Nat.blt c 10 then (bif Nat.blt c 6 then (bif Nat.blt c 4 then (bif Nat.blt c 3 then (bif Nat.beq c 2 then (bif Nat.beq j 1 then some (0, 80) else bif Nat.beq j 2 then some (0, 80) else bif Nat.beq j 3 then some ((-1), 100) else none) else none) else (bif Nat.beq c 3 then some (0, 65535) else none)) else (bif Nat.blt c 5 then (bif Nat.beq c 4 then (bif Nat.beq j 4 then some (0, 4) else none) else none) else (bif Nat.beq c 5 then some (0, 9) else none))) else (bif Nat.blt c 8 then (bif Nat.blt c 7 then (bif Nat.beq c 6 then some (0, 26) else none) else (bif Nat.beq c 7 then some (0, 9) else none)) else (bif Nat.blt c 9 then (bif Nat.beq c 8 then some (0, 26) else none) else (bif Nat.beq c 9 then (bif Nat.beq j 4 then some (0, 40) else bif Nat.beq j 8 then some (0, 40) else none) else none)))) else (bif Nat.blt c 15 then (bif Nat.blt c 12 then (bif Nat.blt c 11 then (bif Nat.beq c 10 then some ((-1), 65535) else none) else (bif Nat.beq c 11 then some (0, 999) else none)) else (bif Nat.blt c 14 then (bif Nat.beq c 12 then some (0, 39) else none) else (bif Nat.beq c 14 then some ((-1), 65535) else none))) else (bif Nat.blt c 17 then (bif Nat.blt c 16 then (bif Nat.beq c 15 then some (0, 999) else none) else (bif Nat.beq c 16 then some (0, 39) else none)) else (bif Nat.blt c 18 then (bif Nat.beq c 17 then (bif Nat.beq j 0 then some (0, 6) else bif Nat.beq j 1 then some (0, 8) else bif Nat.beq j 11 then some (0, 400000) else none) else none) else (bif Nat.blt c 19 then (bif Nat.beq c 18 then some ((-1), 99) else none) else (bif Nat.beq c 19 then some ((-1), 3) else none)))))) else (bif Nat.blt c 32 then (bif Nat.blt c 25 then (bif Nat.blt c 22 then (bif Nat.blt c 21 then (bif Nat.beq c 20 then some ((-1), 7) else none) else (bif Nat.beq c 21 then some ((-1), 99) else none)) else (bif Nat.blt c 24 then (bif Nat.beq c 22 then some ((-1), 9) else none) else (bif Nat.beq c 24 then some (0, 9) else none))) else (bif Nat.blt c 28 then (bif Nat.blt c 26 then (bif Nat.beq c 25 then (bif Nat.beq j 2 then some (0, 20) else none) else none) else (bif Nat.beq c 26 then some (0, 108) else none)) else (bif Nat.blt c 30 then (bif Nat.beq c 28 then (bif Nat.beq j 4 then some (0, 12) else bif Nat.beq j 5 then some (0, 12) else none) else none) else (bif Nat.blt c 31 then (bif Nat.beq c 30 then zbMm j else none) else (bif Nat.beq c 31 then zbMm j else none))))) else (bif Nat.blt c 36 then (bif Nat.blt c 34 then (bif Nat.blt c 33 then (bif Nat.beq c 32 then zbMm j else none) else (bif Nat.beq c 33 then zbMm j else none)) else (bif Nat.blt c 35 then (bif Nat.beq c 34 then zbMm j else none) else (bif Nat.beq c 35 then zbMm j else none))) else (bif Nat.blt c 38 then (bif Nat.blt c 37 then (bif Nat.beq c 36 then zbMm j else none) else (bif Nat.beq c 37 then zbMm j else none)) else (bif Nat.blt c 39 then (bif Nat.beq c 38 then zbMm j else none) else (bif Nat.blt c 40 then (bif Nat.beq c 39 then zbMm j else none) else (bif Nat.beq c 40 then zbMm j else none))))))) else (bif Nat.blt c 76 then (bif Nat.blt c 62 then (bif Nat.blt c 52 then (bif Nat.blt c 44 then (bif Nat.blt c 42 then (bif Nat.beq c 41 then zbMm j else none) else (bif Nat.beq c 42 then zbMm j else none)) else (bif Nat.blt c 45 then (bif Nat.beq c 44 then zbMm j else none) else (bif Nat.beq c 45 then zbMm j else none))) else (bif Nat.blt c 59 then (bif Nat.blt c 53 then (bif Nat.beq c 52 then (bif Nat.beq j 1 then some (0, 60) else bif Nat.beq j 6 then some (0, 9) else none) else none) else (bif Nat.beq c 53 then some (0, 99) else none)) else (bif Nat.blt c 60 then (bif Nat.beq c 59 then (bif Nat.beq j 4 then some (0, 12) else none) else none) else (bif Nat.blt c 61 then (bif Nat.beq c 60 then some (0, 5) else none) else (bif Nat.beq c 61 then some (0, 3) else none))))) else (bif Nat.blt c 66 then (bif Nat.blt c 64 then (bif Nat.blt c 63 then (bif Nat.beq c 62 then some (0, 9999) else none) else (bif Nat.beq c 63 then some (0, 99) else none)) else (bif Nat.blt c 65 then (bif Nat.beq c 64 then (bif Nat.beq j 2 then some (0, 7) else none) else none) else (bif Nat.beq c 65 then some (0, 20) else none))) else (bif Nat.blt c 72 then (bif Nat.blt c 71 then (bif Nat.beq c 66 then some (0, 99) else none) else (bif Nat.beq c 71 then some (0, 1) else none)) else (bif Nat.blt c 74 then (bif Nat.beq c 72 then (bif Nat.beq j 1 then some (0, 26) else none) else none) else (bif Nat.blt c 75 then (bif Nat.beq c 74 then (bif Nat.beq j 1 then some (0, 4) else bif Nat.beq j 4 then some (0, 6) else bif Nat.beq j 6 then some (0, 8) else bif Nat.beq j 9 then some (0, 80) else bif Nat.beq j 11 then some (0, 32) else bif Nat.beq j 14 then some (0, 80) else bif Nat.beq j 15 then some (0, 80) else bif Nat.beq j 16 then some (0, 100) else bif Nat.beq j 22 then some (0, 6) else bif Nat.beq j 23 then some (0, 8) else bif Nat.beq j 25 then some (0, 40) else bif Nat.beq j 26 then some (0, 1) else bif Nat.beq j 35 then some (0, 12) else bif Nat.beq j 49 then some (0, 26) else bif Nat.beq j 52 then some (0, 12) else bif Nat.beq j 54 then some (0, 7) else none) else none) else (bif Nat.beq c 75 then zb75 j else none)))))) else (bif Nat.blt c 86 then (bif Nat.blt c 80 then (bif Nat.blt c 78 then (bif Nat.blt c 77 then (bif Nat.beq c 76 then some (0, 9) else none) else (bif Nat.beq c 77 then some (0, 26) else none)) else (bif Nat.blt c 79 then (bif Nat.beq c 78 then some (0, 99) else none) else (bif Nat.beq c 79 then some (0, 9) else none))) else (bif Nat.blt c 83 then (bif Nat.blt c 82 then (bif Nat.beq c 80 then some ((-128), 127) else none) else (bif Nat.beq c 82 then some (0, 9) else none)) else (bif Nat.blt c 84 then (bif Nat.beq c 83 then some (0, 26) else none) else (bif Nat.blt c 85 then (bif Nat.beq c 84 then some (0, 99) else none) else (bif Nat.beq c 85 then some (0, 99) else none))))) else (bif Nat.blt c 97 then (bif Nat.blt c 88 then (bif Nat.blt c 87 then (bif Nat.beq c 86 then some ((-128), 127) else none) else (bif Nat.beq c 87 then zb75 (j % 59) else none)) else (bif Nat.blt c 91 then (bif Nat.beq c 88 then zb75 j else none) else (bif Nat.beq c 91 then zb75 j else none))) else (bif Nat.blt c 100 then (bif Nat.blt c 99 then (bif Nat.beq c 97 then some (0, 99) else none) else (bif Nat.beq c 99 then some (0, 9999) else none)) else (bif Nat.blt c 106 then (bif Nat.beq c 100 then some (0, 99) else none) else (bif Nat.blt c 107 then (bif Nat.beq c 106 then zb75 (j % 59) else none) else (bif Nat.beq c 107 then some (0, 1) else none))))))))
noncomputable def zbd (c j : Nat) (v : Int) : Prop := match zbt c j with
  | some q => q.1 ≤ v ∧ v ≤ q.2
  | none => True
noncomputable def zB (m : zM) : Prop := ∀ c j, zbd c j (m c j)
theorem zB_u {m : zM} {q i : Nat} {v : Int} (h : zB m) (hv : zbd q i v) : zB (zu m q i v) := by
  intro c j
  show zbd c j (bif Nat.beq c q && Nat.beq j i then v else m c j)
  cases hc : Nat.beq c q with
  | false => exact h c j
  | true =>
    cases hj : Nat.beq j i with
    | false => exact h c j
    | true =>
      rw [Nat.eq_of_beq_eq_true hc, Nat.eq_of_beq_eq_true hj]
      exact hv
theorem zB_cp {m : zM} {q0 q1 sp dp n : Nat} (h : zB m) (hv : ∀ j, dp ≤ j → j < dp + n → zbd q1 j (m q0 (sp + (j - dp)))) : zB (z_cp m q0 q1 sp dp n) := by
  intro c j
  by_cases hc : c = q1
  · subst hc
    rw [z_cp_at]
    split
    · rename_i e
      exact hv j e.1 e.2
    · exact h c j
  · rw [z_cp_ne hc]
    exact h c j
noncomputable def zsegB (c a b : Nat) (l h : Int) : Bool := (List.range b).all (fun i => Nat.blt i a || (match zbt c i with
  | some q => s_le l q.1 && s_le q.2 h
  | none => false))
theorem q_bltF {a j : Nat} (h : a ≤ j) : Nat.blt j a = false := q_bleF (Nat.lt_succ_of_le h)
theorem zbSn (c a b : Nat) (chk : ((List.range b).all (fun i => Nat.blt i a || (match zbt c i with
  | some _ => false
  | none => true))) = true) (j : Nat) (v : Int) (h1 : a ≤ j) (h2 : j < b) : zbd c j v := by
  have e := List.all_eq_true.mp chk j (List.mem_range.mpr h2)
  rw [show Nat.blt j a = false from q_bltF h1, Bool.false_or] at e
  unfold zbd
  split at e
  · cases e
  · trivial
theorem zSg {m : zM} (hB : zB m) (c a b : Nat) (l h : Int) (chk : zsegB c a b l h = true) (j : Nat) (h1 : a ≤ j) (h2 : j < b) : l ≤ m c j ∧ m c j ≤ h := by
  have e := List.all_eq_true.mp chk j (List.mem_range.mpr h2)
  rw [show Nat.blt j a = false from q_bltF h1, Bool.false_or] at e
  have g := hB c j
  unfold zbd at g
  split at e
  · rename_i q hq
    rw [hq] at g
    rw [Bool.and_eq_true] at e
    exact ⟨Int.le_trans (s_le_iff.mp e.1) g.1, Int.le_trans g.2 (s_le_iff.mp e.2)⟩
  · cases e
theorem zbSg (c a b : Nat) (l h : Int) (chk : ((List.range b).all (fun i => Nat.blt i a || (match zbt c i with
  | some q => s_le q.1 l && s_le h q.2
  | none => true))) = true) (j : Nat) (v : Int) (h1 : a ≤ j) (h2 : j < b) (hv : l ≤ v ∧ v ≤ h) : zbd c j v := by
  have e := List.all_eq_true.mp chk j (List.mem_range.mpr h2)
  rw [show Nat.blt j a = false from q_bltF h1, Bool.false_or] at e
  unfold zbd
  split at e
  · rw [Bool.and_eq_true] at e
    exact ⟨Int.le_trans (s_le_iff.mp e.1) hv.1, Int.le_trans hv.2 (s_le_iff.mp e.2)⟩
  · trivial
noncomputable def zcpB (q0 q1 sp dp n : Nat) : Bool := (List.range n).all (fun t => match zbt q1 (dp + t) with
  | none => true
  | some q => match zbt q0 (sp + t) with
    | some r => s_le q.1 r.1 && s_le r.2 q.2
    | none => false)
theorem zB_cpB {m : zM} {q0 q1 sp dp n : Nat} (hB : zB m) (chk : zcpB q0 q1 sp dp n = true) : zB (z_cp m q0 q1 sp dp n) := by
  refine zB_cp hB (fun j h1 h2 => ?_)
  have e := List.all_eq_true.mp chk (j - dp) (List.mem_range.mpr (by omega))
  have g := hB q0 (sp + (j - dp))
  unfold zbd at g ⊢
  rw [show dp + (j - dp) = j by omega] at e
  split at e
  · rename_i hq
    rw [hq]
    trivial
  · split at e
    · rename_i q hq _ r hr
      rw [hq]
      rw [hr] at g
      rw [Bool.and_eq_true] at e
      exact ⟨Int.le_trans (s_le_iff.mp e.1) g.1, Int.le_trans g.2 (s_le_iff.mp e.2)⟩
    · cases e
theorem zu_off {m : zM} {q i j : Nat} {v : Int} (h : j ≠ i) : zu m q i v q j = m q j := by rw [zu_at, if_neg h]
theorem zu_df {m : zM} {q c i j : Nat} {v : Int} (h : Nat.beq c q = false) : zu m q i v c j = m c j := by
  show (bif Nat.beq c q && Nat.beq j i then v else m c j) = m c j
  rw [h]
  rfl
theorem z_cp_df {m : zM} {q0 q1 sp dp n c j : Nat} (h : Nat.beq c q1 = false) : z_cp m q0 q1 sp dp n c j = m c j := by
  rw [z_cp_ne (fun e => by rw [e, Nat.beq_refl] at h; cases h)]
theorem zu_sm {m : zM} {q i j : Nat} {v : Int} (h : j = i) : zu m q i v q j = v := by rw [zu_at, if_pos h]

