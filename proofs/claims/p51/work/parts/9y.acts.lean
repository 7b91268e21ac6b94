/-! year(): the acts as they are told; read by the class. -/
noncomputable def twoS (s : Nat → Int) (a : Nat) : Nat ⊕ (Int × Nat) := if 48 ≤ s a ∧ s a ≤ 57 then .inr ((rNum s 2 a 0).2, (rNum s 2 a 0).1) else .inl a
noncomputable def secS (s : Nat → Int) (kd : Int) (a : Nat) : Nat ⊕ (Int × Nat) :=
  if kd = 119 then (if s a = 45 then .inr (-1, a + 1) else if 48 ≤ s a ∧ s a ≤ 57 then .inr (s a - 48, a + 1) else .inl a)
  else if kd = 103 then (if 48 ≤ s a ∧ s a ≤ 51 then .inr (s a - 48, a + 1) else .inl a)
  else if s a = 61 then twoS s (a + 1) else .inl a
/-- what stands behind the sign of an act: its numbers, where it ends; or the place at fault -/
noncomputable def actS (s : Nat → Int) (a : Nat) : Nat ⊕ (Int × Int × Nat) :=
  if s a = 107 then (if 49 ≤ s (a + 1) ∧ s (a + 1) ≤ 57 then .inr (s (a + 1) - 48, 0, a + 2) else .inr (1, 0, a + 1))
  else if s a = 119 ∨ s a = 103 ∨ s a = 109 then (if 48 ≤ s (a + 1) ∧ s (a + 1) ≤ 57 then (match secS s (s a) (a + 2) with
    | .inl x => .inl x
    | .inr q => .inr (s (a + 1) - 48, q.1, q.2)) else .inl (a + 1))
  else .inl a
noncomputable def actE (s : Nat → Int) (a : Nat) : Nat := match actS s a with
  | .inl x => x
  | .inr q => q.2.2
/-- where act i begins -/
noncomputable def stY (s : Nat → Int) : Nat → Nat
  | 0 => 0
  | i + 1 => actE s (stY s i) + 1
noncomputable def yrP (s : Nat → Int) (L : Nat) : Nat → Nat → Nat → Nat ⊕ Nat
  | 0, _, a => .inl a
  | j + 1, n, a => match actS s a with
    | .inl x => .inl x
    | .inr q => if q.2.2 = L then .inr (n + 1) else if s q.2.2 = 59 then yrP s L j (n + 1) (q.2.2 + 1) else .inl q.2.2
theorem twoS_b {s : Nat → Int} {L : Nat} (hs : ∀ a, L ≤ a → s a = -1) {a : Nat} (ha : a ≤ L) : (∀ x, twoS s a = .inl x → x = a) ∧ ∀ v b, twoS s a = .inr (v, b) → a + 1 ≤ b ∧ b ≤ L ∧ 0 ≤ v ∧ v ≤ 99 := by
  unfold twoS
  by_cases q : 48 ≤ s a ∧ s a ≤ 57
  · rw [if_pos q]
    refine ⟨(fun x h => by cases h), fun v b h => ?_⟩
    have hl : a < L := by
      rcases Nat.lt_or_ge a L with h | h
      · exact h
      · have := hs a h
        omega
    rw [rNum, if_pos q, rNum] at h
    by_cases q2 : 48 ≤ s (a + 1) ∧ s (a + 1) ≤ 57
    · have hl2 : a + 1 < L := by
        rcases Nat.lt_or_ge (a + 1) L with h | h
        · exact h
        · have := hs (a + 1) h
          omega
      rw [if_pos q2, rNum] at h
      cases h
      omega
    · rw [if_neg q2] at h
      cases h
      omega
  · rw [if_neg q]
    refine ⟨fun x h => ?_, fun v b h => by cases h⟩
    cases h
    rfl
theorem secS_b {s : Nat → Int} {L : Nat} (hs : ∀ a, L ≤ a → s a = -1) {a : Nat} {kd : Int} (hk : kd = 119 ∨ kd = 103 ∨ kd = 109) (ha : a ≤ L) : (∀ x, secS s kd a = .inl x → a ≤ x ∧ x ≤ L) ∧ ∀ v b, secS s kd a = .inr (v, b) → a + 1 ≤ b ∧ b ≤ L ∧ (kd = 119 → -1 ≤ v ∧ v ≤ 9) ∧ (kd = 103 → 0 ≤ v ∧ v ≤ 3) ∧ (kd = 109 → 0 ≤ v ∧ v ≤ 99) := by
  have lt : ∀ b, ¬ s b = -1 → b < L := fun b h => by
    rcases Nat.lt_or_ge b L with x | x
    · exact x
    · exact absurd (hs b x) h
  unfold secS
  by_cases k1 : kd = 119
  · rw [if_pos k1]
    by_cases q : s a = 45
    · rw [if_pos q]
      have := lt a (by omega)
      exact ⟨(fun x h => by cases h), fun v b h => by cases h; omega⟩
    · rw [if_neg q]
      by_cases q2 : 48 ≤ s a ∧ s a ≤ 57
      · rw [if_pos q2]
        have := lt a (by omega)
        exact ⟨(fun x h => by cases h), fun v b h => by cases h; omega⟩
      · rw [if_neg q2]
        exact ⟨(fun x h => by cases h; omega), fun v b h => by cases h⟩
  · rw [if_neg k1]
    by_cases k2 : kd = 103
    · rw [if_pos k2]
      by_cases q2 : 48 ≤ s a ∧ s a ≤ 51
      · rw [if_pos q2]
        have := lt a (by omega)
        exact ⟨(fun x h => by cases h), fun v b h => by cases h; omega⟩
      · rw [if_neg q2]
        exact ⟨(fun x h => by cases h; omega), fun v b h => by cases h⟩
    · rw [if_neg k2]
      by_cases q : s a = 61
      · rw [if_pos q]
        have := lt a (by omega)
        obtain ⟨t1, t2⟩ := twoS_b hs (a := a + 1) (by omega)
        refine ⟨fun x h => ?_, fun v b h => ?_⟩
        · have := t1 x h
          omega
        · have := t2 v b h
          omega
      · rw [if_neg q]
        exact ⟨(fun x h => by cases h; omega), fun v b h => by cases h⟩
theorem actS_b {s : Nat → Int} {L : Nat} (hs : ∀ a, L ≤ a → s a = -1) {a : Nat} (ha : a ≤ L) : (∀ x, actS s a = .inl x → a ≤ x ∧ x ≤ L) ∧ ∀ f g b, actS s a = .inr (f, g, b) → a + 1 ≤ b ∧ b ≤ L ∧ (s a = 107 ∨ s a = 119 ∨ s a = 103 ∨ s a = 109) ∧ (0 ≤ f ∧ f ≤ 9) ∧ (s a = 119 → -1 ≤ g ∧ g ≤ 9) ∧ (s a = 103 → 0 ≤ g ∧ g ≤ 3) ∧ (s a = 109 → 0 ≤ g ∧ g ≤ 99) := by
  have lt : ∀ b, ¬ s b = -1 → b < L := fun b h => by
    rcases Nat.lt_or_ge b L with x | x
    · exact x
    · exact absurd (hs b x) h
  unfold actS
  by_cases k1 : s a = 107
  · rw [if_pos k1]
    have := lt a (by omega)
    by_cases q : 49 ≤ s (a + 1) ∧ s (a + 1) ≤ 57
    · rw [if_pos q]
      have := lt (a + 1) (by omega)
      exact ⟨(fun x h => by cases h), fun f g b h => by cases h; omega⟩
    · rw [if_neg q]
      exact ⟨(fun x h => by cases h), fun f g b h => by cases h; omega⟩
  · rw [if_neg k1]
    by_cases k2 : s a = 119 ∨ s a = 103 ∨ s a = 109
    · rw [if_pos k2]
      have := lt a (by omega)
      by_cases q : 48 ≤ s (a + 1) ∧ s (a + 1) ≤ 57
      · rw [if_pos q]
        have := lt (a + 1) (by omega)
        obtain ⟨t1, t2⟩ := secS_b hs (a := a + 2) k2 (by omega)
        cases h0 : secS s (s a) (a + 2) with
        | inl x =>
          have := t1 x h0
          exact ⟨(fun y h => by cases h; omega), fun f g b h => by cases h⟩
        | inr w =>
          obtain ⟨v, c⟩ := w
          have := t2 v c h0
          exact ⟨(fun y h => by cases h), fun f g b h => by cases h; omega⟩
      · rw [if_neg q]
        exact ⟨(fun x h => by cases h; omega), fun f g b h => by cases h⟩
    · rw [if_neg k2]
      exact ⟨(fun x h => by cases h; omega), fun f g b h => by cases h⟩
section ZActs
variable {T : Nat → Nat → zG → (Option zA → zM → Prop) → Prop} {D : Nat} {κ : Option zA → zM → Prop} {m : zM} {s : Nat → Int} {L : Nat}
noncomputable def yfL : zLs := [(2, some 3), (49, none), (50, none), (51, none)]
theorem sC_y {M : zM} (hF : zFr (inL yfL) m M) : sgC M = sgC m := by
  funext a
  have e1 : M 2 2 = m 2 2 := hF 2 2 rfl
  have e2 : M 3 a = m 3 a := hF 3 a rfl
  unfold sgC
  rw [e1, e2]
theorem nx_y {M : zM} {a : Nat} (hsd : s = sgC m) (hF : zFr (inL yfL) m M) (h : M 2 3 = (a : Int)) : nxC M = s a := by
  have e : zu M 2 3 (a : Int) = M := zu_id h
  rw [hsd, ← sC_y hF, ← nx_at, e]
theorem z_secC (hT : zRules T) (hsd : s = sgC m) {N : zM} {a i : Nat} {kd : Int} (hBN : zB N) (hF : zFr (inL yfL) m N) (h23 : N 2 3 = (a : Int)) (ha : a ≤ 62) (hi : i ≤ 29) (hk : N 49 i = kd) (hkd : kd = 119 ∨ kd = 103 ∨ kd = 109)
    (h0 : ∀ x M, secS s kd a = .inl x → zB M → zFr (inL [(2, some 3), (51, none)]) N M → M 2 3 = (x : Int) → κ (some (zi 0)) M)
    (h1 : ∀ v b M, secS s kd a = .inr (v, b) → zB M → zFr (inL [(2, some 3), (51, none)]) N M → M 2 3 = (b : Int) → M 51 i = v → (∀ j, j ≠ i → M 51 j = N 51 j) → κ (some (zi 1)) M) : T (D + 4) 110 (0, [(0, zr 48), (1, zr 2), (2, zi (i : Int))], [], N) κ := by
  have hn : nxC N = s a := nx_y hsd hF h23
  have ek : wr (N 49 i) = kd := by rw [hk]; exact wr_id (by omega) (by omega)
  have bad : ∀ x : Nat, x = a → secS s kd a = .inl x → zB (zu N 51 i (-1)) → κ (some (zi 0)) (zu N 51 i (-1)) := fun x hx hs2 hz => h0 x _ hs2 hz (zFr.refl.set rfl) (by rw [zu_dn (by omega), h23, hx])
  have one : ∀ v : Int, secS s kd a = .inr (v, a + 1) → zB (zu (zu N 2 3 (N 2 3 + 1)) 51 i v) → κ (some (zi 1)) (zu (zu N 2 3 (N 2 3 + 1)) 51 i v) := fun v hs2 hz => h1 v (a + 1) _ hs2 hz ((zFr.refl.set rfl).set rfl) (by rw [zu_dn (by omega), zu_sm rfl, h23]; omega) (by rw [zu_sm rfl]) (fun j hj => by rw [zu_off hj, zu_dn (by omega)])
  refine zb110_0 (D := D + 2) hT hBN hi (by omega) ?_ ?_ ?_ ?_ ?_ ?_ ?_ ?_ ?_ <;> rw [ek, hn]
  · intro q1 q2 q3 hz
    have e1 : secS s kd a = twoS s (a + 1) := by
      unfold secS
      rw [if_neg q1, if_neg q2, if_pos q3]
    have hF1 : zFr (inL yfL) m (zu N 2 3 (N 2 3 + 1)) := hF.set rfl
    have g23 : (zu N 2 3 (N 2 3 + 1)) 2 3 = ((a + 1 : Nat) : Int) := by rw [zu_sm rfl, h23]; omega
    have hF0 : zFr (inL [(2, some 3), (51, none)]) N (zu N 2 3 (N 2 3 + 1)) := zFr.refl.set rfl
    have f51 : ∀ j, (zu N 2 3 (N 2 3 + 1)) 51 j = N 51 j := fun j => zu_dn (by omega)
    generalize zu N 2 3 (N 2 3 + 1) = N1 at hz hF1 g23 hF0 f51 ⊢
    have es : sgC N1 = s := by rw [hsd]; exact sC_y hF1
    have lt : ∀ b, 80 ≤ b → sgC N1 b = -1 := fun b hb => by
      have h22 : 0 ≤ N1 2 2 ∧ N1 2 2 ≤ 80 := hz 2 2
      unfold sgC
      rw [if_neg (by omega)]
    rw [es] at lt
    obtain ⟨t1, t2⟩ := twoS_b lt (a := a + 1) (by omega)
    refine z_num_2 (D := D) (a := a + 1) hT hz g23 (by omega) (fun c1 c2 hz2 => ?_) (fun c => ?_)
    · rw [es] at c1 c2 hz2 ⊢
      have e2 : twoS s (a + 1) = .inr ((rNum s 2 (a + 1) 0).2, (rNum s 2 (a + 1) 0).1) := by
        unfold twoS
        rw [if_pos ⟨c1, c2⟩]
      have hb := t2 _ _ e2
      refine zb110_101 (D := D + 2) hT rfl hz2 hi (by omega) (fun q => by omega) (fun _ hz3 => ?_)
      exact h1 _ _ _ (e1.trans e2) hz3 ((hF0.set rfl).set rfl) (by rw [zu_dn (by omega), zu_sm rfl]) (by rw [zu_sm rfl]) (fun j hj => by rw [zu_off hj, zu_dn (by omega), f51])
    · rw [es] at c
      have e2 : twoS s (a + 1) = .inl (a + 1) := by
        unfold twoS
        rw [if_neg c]
      refine zb110_101 (D := D + 2) hT rfl hz hi (by omega) (fun _ hz3 => ?_) (fun q => absurd rfl q)
      exact h0 _ _ (e1.trans e2) hz3 (hF0.set rfl) (by rw [zu_dn (by omega), g23])
  · intro q1 q2 q3 hz
    exact bad a rfl (by unfold secS; rw [if_neg q1, if_neg q2, if_neg q3]) hz
  · intro q1 q2 q3 hz
    exact bad a rfl (by unfold secS; rw [if_neg q1, if_pos q2, if_neg (by omega)]) hz
  · intro q1 q2 q3 q4 hz
    exact one _ (by unfold secS; rw [if_neg q1, if_pos q2, if_pos (by omega)]) hz
  · intro q1 q2 q3 q4 hz
    exact bad a rfl (by unfold secS; rw [if_neg q1, if_pos q2, if_neg (by omega)]) hz
  · intro q1 q2 hz
    exact one _ (by unfold secS; rw [if_pos q1, if_pos q2]) hz
  · intro q1 q2 q3 hz
    exact bad a rfl (by unfold secS; rw [if_pos q1, if_neg q2, if_neg (by omega)]) hz
  · intro q1 q2 q3 q4 hz
    exact one _ (by unfold secS; rw [if_pos q1, if_neg q2, if_pos (by omega)]) hz
  · intro q1 q2 q3 q4 hz
    exact bad a rfl (by unfold secS; rw [if_pos q1, if_neg q2, if_neg (by omega)]) hz
/-- act i as it was told -/
noncomputable def actOK (s : Nat → Int) (k f g : Nat → Int) (i : Nat) : Prop := ∃ v b, actS s (stY s i) = .inr (f i, v, b) ∧ k i = s (stY s i) ∧ (¬ k i = 107 → g i = v)
theorem z_actC (hT : zRules T) (hsd : s = sgC m) {N : zM} {a i : Nat} (hBN : zB N) (hF : zFr (inL yfL) m N) (h23 : N 2 3 = (a : Int)) (ha : a ≤ 60) (hi : i ≤ 29)
    (h0 : ∀ x M, actS s a = .inl x → zB M → zFr (inL yfL) m M → M 2 3 = (x : Int) → κ (some (zi 0)) M)
    (h1 : ∀ f v b M, actS s a = .inr (f, v, b) → zB M → zFr (inL yfL) m M → M 2 3 = (b : Int) → M 49 i = s a → M 50 i = f → (¬ s a = 107 → M 51 i = v) → (∀ j, j ≠ i → M 49 j = N 49 j ∧ M 50 j = N 50 j ∧ M 51 j = N 51 j) → κ (some (zi 1)) M) : T (D + 5) 108 (0, [(0, zr 48), (1, zr 2), (2, zi (i : Int))], [], N) κ := by
  have hn : nxC N = s a := nx_y hsd hF h23
  have hF1 : zFr (inL yfL) m (zu N 49 i (nxC N)) := hF.set rfl
  have hn1 : nxC (zu N 49 i (nxC N)) = s a := nx_y hsd hF1 (by rw [zu_dn (by omega)]; exact h23)
  have hF2 : zFr (inL yfL) m (zu (zu N 49 i (nxC N)) 2 3 (N 2 3 + 1)) := hF1.set rfl
  have g2 : (zu (zu N 49 i (nxC N)) 2 3 (N 2 3 + 1)) 2 3 = ((a + 1 : Nat) : Int) := by rw [zu_sm rfl, h23]; omega
  have hn2 : nxC (zu (zu N 49 i (nxC N)) 2 3 (N 2 3 + 1)) = s (a + 1) := nx_y hsd hF2 g2
  have k2 : (zu (zu N 49 i (nxC N)) 2 3 (N 2 3 + 1)) 49 i = s a := by rw [zu_dn (by omega), zu_sm rfl, hn]
  have o2 : ∀ j, j ≠ i → (zu (zu N 49 i (nxC N)) 2 3 (N 2 3 + 1)) 49 j = N 49 j := fun j hj => by rw [zu_dn (by omega), zu_off hj]
  have o3 : ∀ j, (zu (zu N 49 i (nxC N)) 2 3 (N 2 3 + 1)) 50 j = N 50 j ∧ (zu (zu N 49 i (nxC N)) 2 3 (N 2 3 + 1)) 51 j = N 51 j := fun j => ⟨by rw [zu_dn (by omega), zu_dn (by omega)], by rw [zu_dn (by omega), zu_dn (by omega)]⟩
  -- the first number is at fault
  have bad : (s a = 119 ∨ s a = 103 ∨ s a = 109) → ¬ (48 ≤ s (a + 1) ∧ s (a + 1) ≤ 57) → zB (zu (zu (zu N 49 i (nxC N)) 2 3 (N 2 3 + 1)) 50 i (-1)) → κ (some (zi 0)) (zu (zu (zu N 49 i (nxC N)) 2 3 (N 2 3 + 1)) 50 i (-1)) := fun q1 q2 hz => h0 (a + 1) _ (by unfold actS; rw [if_neg (by omega), if_pos q1, if_neg q2]) hz (hF2.set rfl) (by rw [zu_dn (by omega)]; exact g2)
  have more : (s a = 119 ∨ s a = 103 ∨ s a = 109) → (48 ≤ s (a + 1) ∧ s (a + 1) ≤ 57) → zB (zu (zu (zu (zu N 49 i (nxC N)) 2 3 (N 2 3 + 1)) 2 3 (N 2 3 + 1 + 1)) 50 i (nxC (zu (zu N 49 i (nxC N)) 2 3 (N 2 3 + 1)) - 48)) → T (D + 4) 110 (0, [(0, zr 48), (1, zr 2), (2, zi (i : Int))], [], (zu (zu (zu (zu N 49 i (nxC N)) 2 3 (N 2 3 + 1)) 2 3 (N 2 3 + 1 + 1)) 50 i (nxC (zu (zu N 49 i (nxC N)) 2 3 (N 2 3 + 1)) - 48))) (fun r m1 => T (D + 5) 108 (84, [(0, zr 48), (1, zr 2), (2, zi (i : Int))], r.toList ++ [], m1) κ) := by
    intro q1 q2 hz
    rw [hn2] at hz ⊢
    have hF3 : zFr (inL yfL) m (zu (zu (zu (zu N 49 i (nxC N)) 2 3 (N 2 3 + 1)) 2 3 (N 2 3 + 1 + 1)) 50 i (s (a + 1) - 48)) := (hF2.set rfl).set rfl
    have g3 : (zu (zu (zu (zu N 49 i (nxC N)) 2 3 (N 2 3 + 1)) 2 3 (N 2 3 + 1 + 1)) 50 i (s (a + 1) - 48)) 2 3 = ((a + 2 : Nat) : Int) := by rw [zu_dn (by omega), zu_sm rfl, h23]; omega
    have k3 : (zu (zu (zu (zu N 49 i (nxC N)) 2 3 (N 2 3 + 1)) 2 3 (N 2 3 + 1 + 1)) 50 i (s (a + 1) - 48)) 49 i = s a := by rw [zu_dn (by omega), zu_dn (by omega)]; exact k2
    have f3 : (zu (zu (zu (zu N 49 i (nxC N)) 2 3 (N 2 3 + 1)) 2 3 (N 2 3 + 1 + 1)) 50 i (s (a + 1) - 48)) 50 i = s (a + 1) - 48 := by rw [zu_sm rfl]
    have p3 : ∀ j, j ≠ i → (zu (zu (zu (zu N 49 i (nxC N)) 2 3 (N 2 3 + 1)) 2 3 (N 2 3 + 1 + 1)) 50 i (s (a + 1) - 48)) 49 j = N 49 j ∧ (zu (zu (zu (zu N 49 i (nxC N)) 2 3 (N 2 3 + 1)) 2 3 (N 2 3 + 1 + 1)) 50 i (s (a + 1) - 48)) 50 j = N 50 j ∧ (zu (zu (zu (zu N 49 i (nxC N)) 2 3 (N 2 3 + 1)) 2 3 (N 2 3 + 1 + 1)) 50 i (s (a + 1) - 48)) 51 j = N 51 j := fun j hj => ⟨by rw [zu_dn (by omega), zu_dn (by omega)]; exact o2 j hj, by rw [zu_off hj, zu_dn (by omega)]; exact (o3 j).1, by rw [zu_dn (by omega), zu_dn (by omega)]; exact (o3 j).2⟩
    generalize (zu (zu (zu (zu N 49 i (nxC N)) 2 3 (N 2 3 + 1)) 2 3 (N 2 3 + 1 + 1)) 50 i (s (a + 1) - 48)) = N3 at hz hF3 g3 k3 f3 p3 ⊢
    refine z_secC (D := D) (kd := s a) hT hsd hz hF3 g3 (by omega) hi k3 q1 (fun x M e1 hBM hFM g => ?_) (fun v b M e1 hBM hFM g g51 go => ?_)
    · refine zb108_84 (D := D + 2) hT rfl (by omega) (fun _ => ?_) (fun q => absurd rfl q)
      exact h0 x M (by unfold actS; rw [if_neg (by omega), if_pos q1, if_pos q2, e1]) hBM (hF3.trans (hFM.sub (inL_sub (by decide)))) g
    · refine zb108_84 (D := D + 2) hT rfl (by omega) (fun q => by omega) (fun _ => ?_)
      refine h1 (s (a + 1) - 48) v b M (by unfold actS; rw [if_neg (by omega), if_pos q1, if_pos q2, e1]) hBM (hF3.trans (hFM.sub (inL_sub (by decide)))) g ((hFM 49 i rfl).trans k3) ((hFM 50 i rfl).trans f3) (fun _ => g51) (fun j hj => ?_)
      obtain ⟨p1, p2, p4⟩ := p3 j hj
      exact ⟨(hFM 49 j rfl).trans p1, (hFM 50 j rfl).trans p2, (go j hj).trans p4⟩
  refine zb108_0 (D := D + 2) hT hBN hi (by omega) ?_ ?_ ?_ ?_ ?_ ?_ ?_ ?_ ?_ ?_ ?_
  · rw [hn1]
    intro q hz
    have fin : ∀ f b M, actS s a = .inr (f, 0, b) → zB M → zFr (inL [(2, some 3), (50, none)]) (zu (zu N 49 i (nxC N)) 2 3 (N 2 3 + 1)) M → M 2 3 = ((b : Nat) : Int) → M 50 i = f → (∀ j, j ≠ i → M 50 j = N 50 j) → κ (some (zi 1)) M := fun f b M e1 hBM hFM g gf go => h1 f 0 b M e1 hBM (hF2.trans (hFM.sub (inL_sub (by decide)))) g ((hFM 49 i rfl).trans k2) gf (fun x => absurd q x) (fun j hj => ⟨(hFM 49 j rfl).trans (o2 j hj), go j hj, (hFM 51 j rfl).trans (o3 j).2⟩)
    refine zb109_0 (D := D + 2) hT hz hi (by omega) ?_ ?_ ?_ <;> rw [hn2]
    · intro c hz2
      refine zb108_25 (D := D + 2) hT rfl (by omega) (fin 1 (a + 1) _ (by unfold actS; rw [if_pos q, if_neg (by omega)]) hz2 (zFr.refl.set rfl) (by rw [zu_dn (by omega)]; exact g2) (by rw [zu_sm rfl]) (fun j hj => by rw [zu_off hj]; exact (o3 j).1))
    · intro c1 c2 hz2
      refine zb108_25 (D := D + 2) hT rfl (by omega) (fin (s (a + 1) - 48) (a + 2) _ (by unfold actS; rw [if_pos q, if_pos (by omega)]) hz2 ((zFr.refl.set rfl).set rfl) (by rw [zu_dn (by omega), zu_sm rfl, g2]; omega) (by rw [zu_sm rfl]) (fun j hj => by rw [zu_off hj, zu_dn (by omega)]; exact (o3 j).1))
    · intro c1 c2 hz2
      refine zb108_25 (D := D + 2) hT rfl (by omega) (fin 1 (a + 1) _ (by unfold actS; rw [if_pos q, if_neg (by omega)]) hz2 (zFr.refl.set rfl) (by rw [zu_dn (by omega)]; exact g2) (by rw [zu_sm rfl]) (fun j hj => by rw [zu_off hj]; exact (o3 j).1))
  · rw [hn1, hn2]
    exact fun _ q1 q2 hz => bad (by omega) (by omega) hz
  · rw [hn1]
    intro _ q1 q2 q3 hz
    rw [hn2] at q2 q3
    exact more (by omega) (by omega) hz
  · rw [hn1, hn2]
    exact fun _ q1 _ q2 hz => bad (by omega) (by omega) hz
  · rw [hn1, hn2]
    exact fun _ _ q1 q2 hz => bad (by omega) (by omega) hz
  · rw [hn1]
    intro _ _ q1 q2 q3 hz
    rw [hn2] at q2 q3
    exact more (by omega) (by omega) hz
  · rw [hn1, hn2]
    exact fun _ _ q1 _ q2 hz => bad (by omega) (by omega) hz
  · rw [hn1, hn2]
    exact fun _ _ _ q1 q2 hz => bad (by omega) (by omega) hz
  · rw [hn1]
    intro _ _ _ q1 q2 q3 hz
    rw [hn2] at q2 q3
    exact more (by omega) (by omega) hz
  · rw [hn1, hn2]
    exact fun _ _ _ q1 _ q2 hz => bad (by omega) (by omega) hz
  · rw [hn1]
    exact fun q1 q2 q3 q4 hz => h0 a _ (by unfold actS; rw [if_neg q1, if_neg (by omega)]) hz hF1 (by rw [zu_dn (by omega)]; exact h23)
/-- all acts, by the class; L: THE TEXT's length, L60: how much of it is read -/
theorem z_actsC (hT : zRules T) (hB : zB m) (hsd : s = sgC m) {L60 : Nat} (hL : m 2 1 = (L : Int)) (h60 : L60 ≤ 60) (hs : ∀ a, L60 ≤ a → s a = -1) (h0 : m 2 3 = 0)
    (h1 : ∀ x M1, yrP s L 30 0 0 = .inl x → zB M1 → zFr (inL yfL) m M1 → M1 2 3 = (x : Int) → κ (some (zi (-1))) M1)
    (h2 : ∀ n M1, yrP s L 30 0 0 = .inr n → 1 ≤ n → n ≤ 30 → zB M1 → zFr (inL yfL) m M1 → (∀ i, i < n → actOK s (M1 49) (M1 50) (M1 51) i) → κ (some (zi (n : Int))) M1) : T (D + 6) 107 (0, [(0, zr 48), (1, zr 2)], [], m) κ := by
  have lt : ∀ b, ¬ s b = -1 → b < L60 := fun b h => by
    rcases Nat.lt_or_ge b L60 with x | x
    · exact x
    · exact absurd (hs b x) h
  have key : ∀ (j p : Nat) (M : zM), p + j = 30 → stY s p ≤ L60 → yrP s L j p (stY s p) = yrP s L 30 0 0 → zB M → zFr (inL yfL) m M → M 2 3 = (stY s p : Int) → (∀ i, i < p → actOK s (M 49) (M 50) (M 51) i) → T (D + 6) 107 (2, [(0, zr 48), (1, zr 2), (2, zi (p : Int))], [], M) κ := by
    intro j
    induction j with
    | zero =>
      intro p M hp hst hal hBM hF h23 hpl
      rw [yrP] at hal
      exact zb107_2 (D := D + 2) hT rfl hBM (by omega) (fun _ => h1 _ M hal.symm hBM hF h23) (fun q => by omega)
    | succ j ih =>
      intro p M hp hst hal hBM hF h23 hpl
      refine zb107_2 (D := D + 2) hT rfl hBM (by omega) (fun q => by omega) (fun _ => ?_)
      obtain ⟨t1, t2⟩ := actS_b hs hst
      refine z_actC (D := D) hT hsd hBM hF h23 (by omega) (by omega) (fun x M1 e1 hB1 hF1 g => ?_) (fun f v b M1 e1 hB1 hF1 g g49 g50 g51 go => ?_)
      · rw [yrP, e1] at hal
        have := t1 x e1
        exact zb107_14 (D := D + 2) hT rfl hB1 (by omega) (by omega) (by omega) (fun q => absurd rfl q) (fun q => absurd rfl q) (fun q => absurd rfl q) (fun _ => h1 x M1 hal.symm hB1 hF1 g)
      · obtain ⟨b1, b2, b3, b4, b5, b6, b7⟩ := t2 f v b e1
        rw [yrP, e1] at hal
        dsimp only at hal
        have hE : actE s (stY s p) = b := by
          unfold actE
          rw [e1]
        have e21 : M1 2 1 = (L : Int) := (hF1 2 1 rfl).trans hL
        have hn : nxC M1 = s b := nx_y hsd hF1 g
        have new : ∀ i, i < p + 1 → actOK s (M1 49) (M1 50) (M1 51) i := fun i hi => by
          by_cases e : i = p
          · subst e
            exact ⟨v, b, by rw [g50]; exact e1, g49, fun q => g51 (by rw [← g49]; exact q)⟩
          · obtain ⟨w, c, a1, a2, a3⟩ := hpl i (by omega)
            obtain ⟨p1, p2, p3⟩ := go i e
            exact ⟨w, c, by rw [p2]; exact a1, by rw [p1]; exact a2, fun q => by rw [p3]; exact a3 (by rw [← p1]; exact q)⟩
        refine zb107_14 (D := D + 2) hT rfl hB1 (by omega) (by omega) (by omega) (fun _ q1 q2 hz => ?_) (fun _ q1 q2 => ?_) (fun _ q1 => ?_) (fun q => by omega)
        · rw [hn] at q2
          rw [if_neg (by omega), if_pos q2] at hal
          have := lt b (by omega)
          refine ih (p + 1) _ (by omega) (by rw [stY, hE]; omega) (by rw [stY, hE]; exact hal) hz (hF1.set rfl) (by rw [zu_sm rfl, g, stY, hE]; omega) (fun i hi => ?_)
          rw [zu_dnR (by omega), zu_dnR (by omega), zu_dnR (by omega)]
          exact new i hi
        · rw [hn] at q2
          rw [if_neg (by omega), if_neg q2] at hal
          exact h1 b M1 hal.symm hB1 hF1 g
        · rw [if_pos (by omega)] at hal
          exact h2 (p + 1) M1 hal.symm (by omega) (by omega) hB1 hF1 new
  exact zb107_0 (D := D + 2) hT hB (key 30 0 m (by omega) (by rw [stY]; omega) rfl hB zFr.refl (by rw [h0]; rfl) (fun i hi => by omega))
end ZActs
