/-! year(): the acts read by the reference. -/
theorem two0 {s : Nat → Int} {b : Nat} (h : ¬ (48 ≤ s b ∧ s b ≤ 57)) : twoS s b = .inl b := by
  unfold twoS
  rw [if_neg h]
theorem two1 {s : Nat → Int} {b : Nat} (h : 48 ≤ s b ∧ s b ≤ 57) (h2 : ¬ (48 ≤ s (b + 1) ∧ s (b + 1) ≤ 57)) : twoS s b = .inr (s b - 48, b + 1) := by
  unfold twoS
  rw [if_pos h, rNum, if_pos h, rNum, if_neg h2, show (10 : Int) * 0 + (s b - 48) = s b - 48 by omega]
theorem two2 {s : Nat → Int} {b : Nat} (h : 48 ≤ s b ∧ s b ≤ 57) (h2 : 48 ≤ s (b + 1) ∧ s (b + 1) ≤ 57) : twoS s b = .inr (10 * (s b - 48) + (s (b + 1) - 48), b + 2) := by
  unfold twoS
  rw [if_pos h, rNum, if_pos h, rNum, if_pos h2, rNum, show (10 : Int) * 0 + (s b - 48) = s b - 48 by omega]
theorem actS_0 {s : Nat → Int} {a : Nat} (h : ¬ s a = 107) (h2 : ¬ s a = 119) (h3 : ¬ s a = 103) (h4 : ¬ s a = 109) : actS s a = .inl a := by
  unfold actS
  rw [if_neg h, if_neg (by omega)]
theorem actS_1 {s : Nat → Int} {a : Nat} (h : s a = 119 ∨ s a = 103 ∨ s a = 109) (h2 : ¬ (48 ≤ s (a + 1) ∧ s (a + 1) ≤ 57)) : actS s a = .inl (a + 1) := by
  unfold actS
  rw [if_neg (by omega), if_pos h, if_neg h2]
theorem actS_l {s : Nat → Int} {a x : Nat} (h : s a = 119 ∨ s a = 103 ∨ s a = 109) (h2 : 48 ≤ s (a + 1) ∧ s (a + 1) ≤ 57) (e : secS s (s a) (a + 2) = .inl x) : actS s a = .inl x := by
  unfold actS
  rw [if_neg (by omega), if_pos h, if_pos h2, e]
theorem actS_r {s : Nat → Int} {a b : Nat} {v : Int} (h : s a = 119 ∨ s a = 103 ∨ s a = 109) (h2 : 48 ≤ s (a + 1) ∧ s (a + 1) ≤ 57) (e : secS s (s a) (a + 2) = .inr (v, b)) : actS s a = .inr (s (a + 1) - 48, v, b) := by
  unfold actS
  rw [if_neg (by omega), if_pos h, if_pos h2, e]
section ZActsR
variable {T : Nat → Nat → zG → (Option zA → zM → Prop) → Prop} {D : Nat} {κ : Option zA → zM → Prop} {m : zM} {s : Nat → Int} {L : Nat}
noncomputable def yraL : zLs := [(74, some 16), (74, some 17), (89, none)]
theorem hr_y {M : zM} {a : Nat} (hsd : s = sgR m 80) (hF : zFr (inL yraL) m M) (h16 : M 74 16 = (a : Int)) : hrR M 80 = s a := by
  have e14 : M 74 14 = m 74 14 := hF 74 14 rfl
  have e15 : M 74 15 = m 74 15 := hF 74 15 rfl
  have eq : M 80 a = m 80 a := hF 80 a rfl
  rw [hsd]
  unfold hrR sgR
  rw [h16, e14, e15, Int.toNat_natCast, eq]
theorem dg_y {M : zM} {a : Nat} (hsd : s = sgR m 80) (hB : zB m) (hF : zFr (inL yraL) m M) (h : 48 ≤ s a ∧ s a ≤ 57) : M 80 a = s a := by
  have b80 : -128 ≤ m 80 a ∧ m 80 a ≤ 127 := hB 80 a
  rw [hF 80 a rfl]
  rw [hsd] at h ⊢
  unfold sgR at h ⊢
  split at h
  · rename_i q
    rw [if_pos q]
    rw [z_and255] at h ⊢
    omega
  · omega
theorem z_twoR (hT : zRules T) {N : zM} {b : Nat} (hB : zB N) (hrd : N 74 13 = 80) (h16 : N 74 16 = (b : Int)) (h17 : N 74 17 = -1) (hb : b ≤ 76) (hsd : s = sgR N 80)
    (h0 : twoS s b = .inl b → zB (zu N 74 17 (b : Int)) → κ (some (zi 0)) (zu N 74 17 (b : Int)))
    (h1 : ∀ v e M, twoS s b = .inr (v, e) → (0 ≤ v ∧ v ≤ 99) → zB M → zFr (inL [(74, some 16)]) N M → M 74 16 = (e : Int) → κ (some (zi v)) M) : T (D + 3) 204 (0, [(0, zr 74)], [], N) κ := by
  have hF : zFr (inL yraL) N N := zFr.refl
  have r0 : hrR N 80 = s b := hr_y hsd hF h16
  have r1 : hrR (zu N 74 16 ((b : Int) + 1)) 80 = s (b + 1) := hr_y hsd (hF.set rfl) (by rw [zu_sm rfl]; omega)
  have e1 : ((b : Int) + 1 - 1).toNat = b := by omega
  have e2 : ((b : Int) + 1 + 1 - 1).toNat = b + 1 := by omega
  have dg : ∀ c, 48 ≤ s c ∧ s c ≤ 57 → N 80 c = s c := fun c => dg_y hsd hB hF
  have key := zb204_0 (D := D) (κ := κ) (m := N) hT hB hrd (by omega) (by omega)
  simp only [r0, h16, r1, e1, e2] at key
  refine key (fun q1 hz => h0 (two0 (by omega)) hz) (fun q1 q2 hz => h0 (two0 (by omega)) hz) (fun q1 q2 q3 hz => ?_) (fun q1 q2 q3 q4 hz => ?_) (fun q1 q2 q3 q4 hz => ?_)
  · rw [dg b (by omega)]
    exact h1 _ (b + 1) _ (two1 (by omega) (by omega)) (by omega) hz (zFr.refl.set rfl) (by rw [zu_sm rfl]; omega)
  · rw [dg b (by omega)]
    exact h1 _ (b + 1) _ (two1 (by omega) (by omega)) (by omega) hz (zFr.refl.set rfl) (by rw [zu_sm rfl]; omega)
  · rw [dg b (by omega), dg (b + 1) (by omega)]
    exact h1 _ (b + 2) _ (two2 (by omega) (by omega)) (by omega) hz ((zFr.refl.set rfl).set rfl) (by rw [zu_sm rfl]; omega)
set_option maxHeartbeats 4000000 in
theorem z_actR (hT : zRules T) (hB : zB m) (hrd : m 74 13 = 80) (hsd : s = sgR m 80) {N : zM} {a k : Nat} (hBN : zB N) (hF : zFr (inL yraL) m N) (h16 : N 74 16 = (a : Int)) (h17 : N 74 17 = -1) (ha : a ≤ 60) (hk : k ≤ 90)
    (h0 : ∀ x M, actS s a = .inl x → zB M → zFr (inL yraL) m M → M 74 17 = (x : Int) → (0 ≤ M 74 16 ∧ M 74 16 ≤ 70) → κ none M)
    (h1 : ∀ f v b M, actS s a = .inr (f, v, b) → zB M → zFr (inL yraL) m M → M 74 17 = -1 → M 74 16 = (b : Int) → M 89 k = s a → M 89 (k + 1) = f → (¬ s a = 107 → M 89 (k + 2) = v) → (∀ j, j < k → M 89 j = N 89 j) → κ none M) : T (D + 4) 239 (0, [(0, zr 74), (1, zi (k : Int))], [], N) κ := by
  have r0 : hrR N 80 = s a := hr_y hsd hF h16
  have e1 : ((a : Int) + 1 + 1 - 1).toNat = a + 1 := by omega
  have e2 : ((a : Int) + 1 + 1 + 1 - 1).toNat = a + 2 := by omega
  have r1 : hrR (zu (zu N 74 16 ((a : Int) + 1)) 89 k (s a)) 80 = s (a + 1) := hr_y hsd ((hF.set rfl).set rfl) (by rw [zu_dn (by omega), zu_sm rfl]; omega)
  have r2 : hrR (zu (zu (zu (zu N 74 16 ((a : Int) + 1)) 89 k (s a)) 74 16 ((a : Int) + 1 + 1)) 89 (k + 1) (N 80 (a + 1) - 48)) 80 = s (a + 2) := hr_y hsd ((((hF.set rfl).set rfl).set rfl).set rfl) (by rw [zu_dn (by omega), zu_sm rfl]; omega)
  have dg : ∀ b, 48 ≤ s b ∧ s b ≤ 57 → N 80 b = s b := fun b => dg_y hsd hB hF
  have key := zb239_0 (D := D) (κ := κ) (m := N) (k := k) hT hBN ((hF 74 13 rfl).trans hrd) hk (by omega) (by omega)
  simp only [r0, h16, r1, e1, r2, e2] at key
  refine key ?_ ?_ ?_ ?_ ?_ ?_ ?_ ?_ ?_ ?_ ?_ ?_ ?_ ?_ ?_ ?_ ?_ ?_ ?_
  · intro q1 q2 hz
    exact h1 1 0 (a + 1) _ (by unfold actS; rw [if_pos q1, if_neg (by omega)]) hz (((hF.set rfl).set rfl).set rfl) (by simp (disch := omega) only [zu_off, zu_dn]; exact h17) (by simp (disch := omega) only [zu_sm, zu_off, zu_dn]; omega) (by simp (disch := omega) only [zu_sm, zu_off, zu_dn]) (by simp (disch := omega) only [zu_sm, zu_off, zu_dn]) (fun x => absurd q1 x) (fun j hj => by simp (disch := omega) only [zu_off, zu_dn])
  · intro q1 q2 q3 hz
    exact h1 1 0 (a + 1) _ (by unfold actS; rw [if_pos q1, if_neg (by omega)]) hz (((hF.set rfl).set rfl).set rfl) (by simp (disch := omega) only [zu_off, zu_dn]; exact h17) (by simp (disch := omega) only [zu_sm, zu_off, zu_dn]; omega) (by simp (disch := omega) only [zu_sm, zu_off, zu_dn]) (by simp (disch := omega) only [zu_sm, zu_off, zu_dn]) (fun x => absurd q1 x) (fun j hj => by simp (disch := omega) only [zu_off, zu_dn])
  · intro q1 q2 q3 hz
    exact h1 (s (a + 1) - 48) 0 (a + 2) _ (by unfold actS; rw [if_pos q1, if_pos (by omega)]) hz ((((hF.set rfl).set rfl).set rfl).set rfl) (by simp (disch := omega) only [zu_off, zu_dn]; exact h17) (by simp (disch := omega) only [zu_sm, zu_off, zu_dn]; omega) (by simp (disch := omega) only [zu_sm, zu_off, zu_dn]) (by simp (disch := omega) only [zu_sm, zu_off, zu_dn]; rw [dg _ (by omega)]) (fun x => absurd q1 x) (fun j hj => by simp (disch := omega) only [zu_off, zu_dn])
  · intro q1 q2 q3 hz
    exact h0 (a + 1) _ (actS_1 (by omega) (by omega)) hz (((((hF.set rfl).set rfl).set rfl).set rfl).set rfl) (by simp (disch := omega) only [zu_sm, zu_off, zu_dn]; omega) (by simp (disch := omega) only [zu_sm, zu_off, zu_dn]; omega)
  · intro q1 q2 q3 q4 hz
    exact h0 (a + 1) _ (actS_1 (by omega) (by omega)) hz (((((hF.set rfl).set rfl).set rfl).set rfl).set rfl) (by simp (disch := omega) only [zu_sm, zu_off, zu_dn]; omega) (by simp (disch := omega) only [zu_sm, zu_off, zu_dn]; omega)
  · intro q1 q2 q3 q4 q5 hz
    exact h1 (s (a + 1) - 48) (-1) (a + 3) _ (actS_r (by omega) (by omega) (by unfold secS; rw [if_pos (by omega), if_pos q5])) hz ((((((hF.set rfl).set rfl).set rfl).set rfl).set rfl).set rfl) (by simp (disch := omega) only [zu_off, zu_dn]; exact h17) (by simp (disch := omega) only [zu_sm, zu_off, zu_dn]; omega) (by simp (disch := omega) only [zu_sm, zu_off, zu_dn]) (by simp (disch := omega) only [zu_sm, zu_off, zu_dn]; rw [dg _ (by omega)]) (fun _ => by simp (disch := omega) only [zu_sm, zu_off, zu_dn]) (fun j hj => by simp (disch := omega) only [zu_off, zu_dn])
  · intro q1 q2 q3 q4 q5 q6 hz
    exact h0 (a + 2) _ (actS_l (by omega) (by omega) (by unfold secS; rw [if_pos (by omega), if_neg q5, if_neg (by omega)])) hz ((((((hF.set rfl).set rfl).set rfl).set rfl).set rfl).set rfl) (by simp (disch := omega) only [zu_sm, zu_off, zu_dn]; omega) (by simp (disch := omega) only [zu_sm, zu_off, zu_dn]; omega)
  · intro q1 q2 q3 q4 q5 q6 q7 hz
    exact h0 (a + 2) _ (actS_l (by omega) (by omega) (by unfold secS; rw [if_pos (by omega), if_neg q5, if_neg (by omega)])) hz ((((((hF.set rfl).set rfl).set rfl).set rfl).set rfl).set rfl) (by simp (disch := omega) only [zu_sm, zu_off, zu_dn]; omega) (by simp (disch := omega) only [zu_sm, zu_off, zu_dn]; omega)
  · intro q1 q2 q3 q4 q5 q6 q7 hz
    exact h1 (s (a + 1) - 48) (s (a + 2) - 48) (a + 3) _ (actS_r (by omega) (by omega) (by unfold secS; rw [if_pos (by omega), if_neg q5, if_pos (by omega)])) hz ((((((hF.set rfl).set rfl).set rfl).set rfl).set rfl).set rfl) (by simp (disch := omega) only [zu_off, zu_dn]; exact h17) (by simp (disch := omega) only [zu_sm, zu_off, zu_dn]; omega) (by simp (disch := omega) only [zu_sm, zu_off, zu_dn]) (by simp (disch := omega) only [zu_sm, zu_off, zu_dn]; rw [dg _ (by omega)]) (fun _ => by simp (disch := omega) only [zu_sm, zu_off, zu_dn]; rw [dg _ (by omega)]) (fun j hj => by simp (disch := omega) only [zu_off, zu_dn])
  · intro q1 q2 q3 q4 hz
    exact h0 (a + 1) _ (actS_1 (by omega) (by omega)) hz (((((hF.set rfl).set rfl).set rfl).set rfl).set rfl) (by simp (disch := omega) only [zu_sm, zu_off, zu_dn]; omega) (by simp (disch := omega) only [zu_sm, zu_off, zu_dn]; omega)
  · intro q1 q2 q3 q4 q5 hz
    exact h0 (a + 1) _ (actS_1 (by omega) (by omega)) hz (((((hF.set rfl).set rfl).set rfl).set rfl).set rfl) (by simp (disch := omega) only [zu_sm, zu_off, zu_dn]; omega) (by simp (disch := omega) only [zu_sm, zu_off, zu_dn]; omega)
  · intro q1 q2 q3 q4 q5 q6 hz
    exact h0 (a + 2) _ (actS_l (by omega) (by omega) (by unfold secS; rw [if_neg (by omega), if_pos (by omega), if_neg (by omega)])) hz ((((((hF.set rfl).set rfl).set rfl).set rfl).set rfl).set rfl) (by simp (disch := omega) only [zu_sm, zu_off, zu_dn]; omega) (by simp (disch := omega) only [zu_sm, zu_off, zu_dn]; omega)
  · intro q1 q2 q3 q4 q5 q6 q7 hz
    exact h0 (a + 2) _ (actS_l (by omega) (by omega) (by unfold secS; rw [if_neg (by omega), if_pos (by omega), if_neg (by omega)])) hz ((((((hF.set rfl).set rfl).set rfl).set rfl).set rfl).set rfl) (by simp (disch := omega) only [zu_sm, zu_off, zu_dn]; omega) (by simp (disch := omega) only [zu_sm, zu_off, zu_dn]; omega)
  · intro q1 q2 q3 q4 q5 q6 q7 hz
    exact h1 (s (a + 1) - 48) (s (a + 2) - 48) (a + 3) _ (actS_r (by omega) (by omega) (by unfold secS; rw [if_neg (by omega), if_pos (by omega), if_pos (by omega)])) hz ((((((hF.set rfl).set rfl).set rfl).set rfl).set rfl).set rfl) (by simp (disch := omega) only [zu_off, zu_dn]; exact h17) (by simp (disch := omega) only [zu_sm, zu_off, zu_dn]; omega) (by simp (disch := omega) only [zu_sm, zu_off, zu_dn]) (by simp (disch := omega) only [zu_sm, zu_off, zu_dn]; rw [dg _ (by omega)]) (fun _ => by simp (disch := omega) only [zu_sm, zu_off, zu_dn]; rw [dg _ (by omega)]) (fun j hj => by simp (disch := omega) only [zu_off, zu_dn])
  · intro q1 q2 q3 q4 q5 hz
    have hFp : zFr (inL yraL) m (zu (zu (zu (zu N 74 16 ((a : Int) + 1)) 89 k (s a)) 74 17 ((a : Int) + 1)) 89 (k + 1) 0) := ((((hF.set rfl).set rfl).set rfl).set rfl)
    have p17 : (zu (zu (zu (zu N 74 16 ((a : Int) + 1)) 89 k (s a)) 74 17 ((a : Int) + 1)) 89 (k + 1) 0) 74 17 = ((a + 1) : Nat) := by simp (disch := omega) only [zu_sm, zu_off, zu_dn]; omega
    have p16 : 0 ≤ (zu (zu (zu (zu N 74 16 ((a : Int) + 1)) 89 k (s a)) 74 17 ((a : Int) + 1)) 89 (k + 1) 0) 74 16 ∧ (zu (zu (zu (zu N 74 16 ((a : Int) + 1)) 89 k (s a)) 74 17 ((a : Int) + 1)) 89 (k + 1) 0) 74 16 ≤ 70 := by simp (disch := omega) only [zu_sm, zu_off, zu_dn]; omega
    generalize (zu (zu (zu (zu N 74 16 ((a : Int) + 1)) 89 k (s a)) 74 17 ((a : Int) + 1)) 89 (k + 1) 0) = P at hz hFp p17 p16 ⊢
    refine zb204_0f (D := D) hT hz ((hFp 74 13 rfl).trans hrd) (by omega) (by omega) ?_
    rw [show (k : Int) + 2 = ((k + 2 : Nat) : Int) by omega]
    refine zb239_186 (D := D) (v := 0) (lo := [(0, zr 74), (1, zi (k : Int)), (2, zi (s a))]) hT rfl hz (by omega) (by omega) (fun hz2 => ?_)
    exact h0 (a + 1) _ (actS_1 (by omega) (by omega)) hz2 (hFp.set rfl) (by rw [zu_dn (by omega)]; exact p17) (by rw [zu_dn (by omega)]; exact p16)
  · intro q1 q2 q3 q4 q5 q6 hz
    have hFp : zFr (inL yraL) m (zu (zu (zu (zu N 74 16 ((a : Int) + 1)) 89 k (s a)) 74 17 ((a : Int) + 1)) 89 (k + 1) 0) := ((((hF.set rfl).set rfl).set rfl).set rfl)
    have p17 : (zu (zu (zu (zu N 74 16 ((a : Int) + 1)) 89 k (s a)) 74 17 ((a : Int) + 1)) 89 (k + 1) 0) 74 17 = ((a + 1) : Nat) := by simp (disch := omega) only [zu_sm, zu_off, zu_dn]; omega
    have p16 : 0 ≤ (zu (zu (zu (zu N 74 16 ((a : Int) + 1)) 89 k (s a)) 74 17 ((a : Int) + 1)) 89 (k + 1) 0) 74 16 ∧ (zu (zu (zu (zu N 74 16 ((a : Int) + 1)) 89 k (s a)) 74 17 ((a : Int) + 1)) 89 (k + 1) 0) 74 16 ≤ 70 := by simp (disch := omega) only [zu_sm, zu_off, zu_dn]; omega
    generalize (zu (zu (zu (zu N 74 16 ((a : Int) + 1)) 89 k (s a)) 74 17 ((a : Int) + 1)) 89 (k + 1) 0) = P at hz hFp p17 p16 ⊢
    refine zb204_0f (D := D) hT hz ((hFp 74 13 rfl).trans hrd) (by omega) (by omega) ?_
    rw [show (k : Int) + 2 = ((k + 2 : Nat) : Int) by omega]
    refine zb239_186 (D := D) (v := 0) (lo := [(0, zr 74), (1, zi (k : Int)), (2, zi (s a))]) hT rfl hz (by omega) (by omega) (fun hz2 => ?_)
    exact h0 (a + 1) _ (actS_1 (by omega) (by omega)) hz2 (hFp.set rfl) (by rw [zu_dn (by omega)]; exact p17) (by rw [zu_dn (by omega)]; exact p16)
  · intro q1 q2 q3 q4 q5 q6 q7 hz
    have hFp : zFr (inL yraL) m (zu (zu (zu (zu (zu N 74 16 ((a : Int) + 1)) 89 k (s a)) 74 16 ((a : Int) + 1 + 1)) 89 (k + 1) (N 80 (a + 1) - 48)) 74 16 ((a : Int) + 1 + 1 + 1)) := (((((hF.set rfl).set rfl).set rfl).set rfl).set rfl)
    have p16 : (zu (zu (zu (zu (zu N 74 16 ((a : Int) + 1)) 89 k (s a)) 74 16 ((a : Int) + 1 + 1)) 89 (k + 1) (N 80 (a + 1) - 48)) 74 16 ((a : Int) + 1 + 1 + 1)) 74 16 = ((a + 3 : Nat) : Int) := by rw [zu_sm rfl]; omega
    have p17 : (zu (zu (zu (zu (zu N 74 16 ((a : Int) + 1)) 89 k (s a)) 74 16 ((a : Int) + 1 + 1)) 89 (k + 1) (N 80 (a + 1) - 48)) 74 16 ((a : Int) + 1 + 1 + 1)) 74 17 = -1 := by simp (disch := omega) only [zu_off, zu_dn]; exact h17
    have p0 : (zu (zu (zu (zu (zu N 74 16 ((a : Int) + 1)) 89 k (s a)) 74 16 ((a : Int) + 1 + 1)) 89 (k + 1) (N 80 (a + 1) - 48)) 74 16 ((a : Int) + 1 + 1 + 1)) 89 k = s a := by simp (disch := omega) only [zu_sm, zu_off, zu_dn]
    have p1 : (zu (zu (zu (zu (zu N 74 16 ((a : Int) + 1)) 89 k (s a)) 74 16 ((a : Int) + 1 + 1)) 89 (k + 1) (N 80 (a + 1) - 48)) 74 16 ((a : Int) + 1 + 1 + 1)) 89 (k + 1) = s (a + 1) - 48 := by simp (disch := omega) only [zu_sm, zu_off, zu_dn]; rw [dg _ (by omega)]
    have pj : ∀ j, j < k → (zu (zu (zu (zu (zu N 74 16 ((a : Int) + 1)) 89 k (s a)) 74 16 ((a : Int) + 1 + 1)) 89 (k + 1) (N 80 (a + 1) - 48)) 74 16 ((a : Int) + 1 + 1 + 1)) 89 j = N 89 j := fun j hj => by simp (disch := omega) only [zu_off, zu_dn]
    generalize (zu (zu (zu (zu (zu N 74 16 ((a : Int) + 1)) 89 k (s a)) 74 16 ((a : Int) + 1 + 1)) 89 (k + 1) (N 80 (a + 1) - 48)) 74 16 ((a : Int) + 1 + 1 + 1)) = P at hz hFp p17 p16 p0 p1 pj ⊢
    have hsP : s = sgR P 80 := by
      rw [hsd]
      funext x
      unfold sgR
      rw [hFp 74 14 rfl, hFp 74 15 rfl, hFp 80 x rfl]
    have e9 : secS s (s a) (a + 2) = twoS s (a + 3) := by unfold secS; rw [if_neg (by omega), if_neg (by omega), if_pos q7]
    refine z_twoR (D := D) hT hz ((hFp 74 13 rfl).trans hrd) p16 p17 (by omega) hsP (fun ht hz2 => ?_) (fun v e M ht hv hBM hFM f16 => ?_)
    · rw [show (k : Int) + 2 = ((k + 2 : Nat) : Int) by omega]
      refine zb239_186 (D := D) (v := 0) (lo := [(0, zr 74), (1, zi (k : Int)), (2, zi (s a))]) hT rfl hz2 (by omega) (by omega) (fun hz3 => ?_)
      exact h0 (a + 3) _ (actS_l (by omega) (by omega) (e9.trans ht)) hz3 ((hFp.set rfl).set rfl) (by rw [zu_dn (by omega), zu_sm rfl]) (by rw [zu_dn (by omega), zu_off (by omega)]; omega)
    · rw [show (k : Int) + 2 = ((k + 2 : Nat) : Int) by omega]
      refine zb239_186 (D := D) (v := v) (lo := [(0, zr 74), (1, zi (k : Int)), (2, zi (s a))]) hT rfl hBM (by omega) hv (fun hz3 => ?_)
      exact h1 _ v e _ (actS_r (by omega) (by omega) (e9.trans ht)) hz3 ((hFp.trans (hFM.sub (inL_sub (by decide)))).set rfl) (by rw [zu_dn (by omega), hFM 74 17 rfl]; exact p17) (by rw [zu_dn (by omega)]; exact f16) (by rw [zu_off (by omega), hFM 89 k rfl]; exact p0) (by rw [zu_off (by omega), hFM 89 (k + 1) rfl]; exact p1) (fun _ => by rw [zu_sm rfl]) (fun j hj => by rw [zu_off (by omega), hFM 89 j rfl]; exact pj j hj)
  · intro q1 q2 q3 q4 q5 q6 q7 hz
    have hFp : zFr (inL yraL) m (zu (zu (zu (zu (zu N 74 16 ((a : Int) + 1)) 89 k (s a)) 74 16 ((a : Int) + 1 + 1)) 89 (k + 1) (N 80 (a + 1) - 48)) 74 17 ((a : Int) + 1 + 1)) := (((((hF.set rfl).set rfl).set rfl).set rfl).set rfl)
    have p17 : (zu (zu (zu (zu (zu N 74 16 ((a : Int) + 1)) 89 k (s a)) 74 16 ((a : Int) + 1 + 1)) 89 (k + 1) (N 80 (a + 1) - 48)) 74 17 ((a : Int) + 1 + 1)) 74 17 = ((a + 2) : Nat) := by simp (disch := omega) only [zu_sm, zu_off, zu_dn]; omega
    have p16 : 0 ≤ (zu (zu (zu (zu (zu N 74 16 ((a : Int) + 1)) 89 k (s a)) 74 16 ((a : Int) + 1 + 1)) 89 (k + 1) (N 80 (a + 1) - 48)) 74 17 ((a : Int) + 1 + 1)) 74 16 ∧ (zu (zu (zu (zu (zu N 74 16 ((a : Int) + 1)) 89 k (s a)) 74 16 ((a : Int) + 1 + 1)) 89 (k + 1) (N 80 (a + 1) - 48)) 74 17 ((a : Int) + 1 + 1)) 74 16 ≤ 70 := by simp (disch := omega) only [zu_sm, zu_off, zu_dn]; omega
    generalize (zu (zu (zu (zu (zu N 74 16 ((a : Int) + 1)) 89 k (s a)) 74 16 ((a : Int) + 1 + 1)) 89 (k + 1) (N 80 (a + 1) - 48)) 74 17 ((a : Int) + 1 + 1)) = P at hz hFp p17 p16 ⊢
    refine zb204_0f (D := D) hT hz ((hFp 74 13 rfl).trans hrd) (by omega) (by omega) ?_
    rw [show (k : Int) + 2 = ((k + 2 : Nat) : Int) by omega]
    refine zb239_186 (D := D) (v := 0) (lo := [(0, zr 74), (1, zi (k : Int)), (2, zi (s a))]) hT rfl hz (by omega) (by omega) (fun hz2 => ?_)
    exact h0 (a + 2) _ (actS_l (by omega) (by omega) (by unfold secS; rw [if_neg (by omega), if_neg (by omega), if_neg q7])) hz2 (hFp.set rfl) (by rw [zu_dn (by omega)]; exact p17) (by rw [zu_dn (by omega)]; exact p16)
  · intro q1 q2 q3 q4 hz
    exact h0 a _ (actS_0 q1 q2 q3 q4) hz ((((hF.set rfl).set rfl).set rfl).set rfl) (by simp (disch := omega) only [zu_sm, zu_off, zu_dn]) (by simp (disch := omega) only [zu_sm, zu_off, zu_dn]; omega)
/-- act i as the reference has it -/
noncomputable def actOR (s : Nat → Int) (g : Nat → Int) (i : Nat) : Prop := ∃ f v b, actS s (stY s i) = .inr (f, v, b) ∧ g (3 * i) = s (stY s i) ∧ g (3 * i + 1) = f ∧ (¬ s (stY s i) = 107 → g (3 * i + 2) = v)
theorem z_actsR (hT : zRules T) (hB : zB m) (hrd : m 74 13 = 80) (hsd : s = sgR m 80) {L60 : Nat} (hL : m 74 14 = (L : Int)) (hL80 : L ≤ 80) (h60 : L60 ≤ 60) (hle : L60 ≤ L) (hs : ∀ a, L60 ≤ a → s a = -1) (h16 : m 74 16 = 0) (h17 : m 74 17 = -1)
    (h1 : ∀ x M1, yrP s L 30 0 0 = .inl x → zB M1 → zFr (inL yraL) m M1 → κ (some (zi (-1 - (x : Int)))) M1)
    (h2 : ∀ n M1, yrP s L 30 0 0 = .inr n → 1 ≤ n → n ≤ 30 → zB M1 → zFr (inL yraL) m M1 → (∀ i, i < n → actOR s (M1 89) i) → T (D + 4) 228 (0, [(0, zr 75), (1, zr 88), (2, zi 0)], [], M1) (fun r m1 => T (D + 5) 238 (115, [(0, zr 74), (1, zi (n : Int)), (2, zi 0)], r.toList ++ [], m1) κ)) : T (D + 5) 238 (39, [(0, zr 74), (1, zi 0), (2, zi 1)], [], m) κ := by
  have lt : ∀ b, ¬ s b = -1 → b < L60 := fun b h => by
    rcases Nat.lt_or_ge b L60 with x | x
    · exact x
    · exact absurd (hs b x) h
  -- at fault, behind an act
  have bad : ∀ (x p : Nat) (N : zM), yrP s L 30 0 0 = .inl x → x ≤ 60 → p ≤ 30 → zB N → zFr (inL yraL) m N → N 74 17 = (x : Int) → (0 ≤ N 74 16 ∧ N 74 16 ≤ 70) → T (D + 5) 238 (57, [(0, zr 74), (1, zi (p : Int)), (2, zi 1)], [], N) κ := by
    intro x p N hx h60x hp hBN hFN g17 g16
    have h74 : N 74 13 = 80 := (hFN 74 13 rfl).trans hrd
    refine zb238_57f (n := p) hT rfl hBN h74 hp (by omega) g16 ?_
    have := h1 x N hx hBN hFN
    rw [← g17] at this
    exact zb238_39f (n := p + 1) (mo := 0) hT rfl hBN h74 (by omega) (by omega) (by omega) g16 (fun _ _ => this) (fun _ _ => this) (fun _ _ => this) (fun _ _ => this)
  have key : ∀ (j p : Nat) (M : zM), p + j = 30 → 2 * p ≤ stY s p → stY s p ≤ L60 → yrP s L j p (stY s p) = yrP s L 30 0 0 → zB M → zFr (inL yraL) m M → M 74 16 = (stY s p : Int) → M 74 17 = -1 → (∀ i, i < p → actOR s (M 89) i) → T (D + 5) 238 (39, [(0, zr 74), (1, zi (p : Int)), (2, zi 1)], [], M) κ := by
    intro j
    induction j with
    | zero =>
      intro p M hp h2p hst hal hBM hF g16 g17 hpl
      have ep : p = 30 := by omega
      subst ep
      rw [yrP] at hal
      have e60 : s (stY s 30) = -1 := hs _ (by omega)
      refine zb238_39b hT rfl hBM ((hF 74 13 rfl).trans hrd) (by omega) (by omega) (by omega) ?_
      rw [show (3 : Int) * ((30 : Nat) : Int) = ((90 : Nat) : Int) from rfl]
      refine z_actR (D := D) hT hB hrd hsd hBM hF g16 g17 (by omega) (by omega) (fun x M1 e1 hB1 hF1 f17 f16 => ?_) (fun f v b M1 e1 hB1 hF1 f17 f16 f0 f1 f2 fo => ?_)
      · rw [actS_0 (by omega) (by omega) (by omega) (by omega)] at e1
        cases e1
        exact bad _ 30 M1 hal.symm (by omega) (by omega) hB1 hF1 f17 f16
      · rw [actS_0 (by omega) (by omega) (by omega) (by omega)] at e1
        cases e1
    | succ j ih =>
      intro p M hp h2p hst hal hBM hF g16 g17 hpl
      obtain ⟨t1, t2⟩ := actS_b hs hst
      refine zb238_39b hT rfl hBM ((hF 74 13 rfl).trans hrd) (by omega) (by omega) (by omega) ?_
      rw [show (3 : Int) * (p : Int) = ((3 * p : Nat) : Int) by omega]
      refine z_actR (D := D) hT hB hrd hsd hBM hF g16 g17 (by omega) (by omega) (fun x M1 e1 hB1 hF1 f17 f16 => ?_) (fun f v b M1 e1 hB1 hF1 f17 f16 f0 f1 f2 fo => ?_)
      · have hx := t1 x e1
        rw [yrP, e1] at hal
        exact bad x p M1 hal.symm (by omega) (by omega) hB1 hF1 f17 f16
      · obtain ⟨b1, b2, b3, b4, b5, b6, b7⟩ := t2 f v b e1
        rw [yrP, e1] at hal
        dsimp only at hal
        have hE : actE s (stY s p) = b := by
          unfold actE
          rw [e1]
        have e14 : M1 74 14 = (L : Int) := (hF1 74 14 rfl).trans hL
        have e13 : M1 74 13 = 80 := (hF1 74 13 rfl).trans hrd
        have hn : hrR M1 80 = s b := hr_y hsd hF1 f16
        have new : ∀ i, i < p + 1 → actOR s (M1 89) i := fun i hi => by
          by_cases e : i = p
          · subst e
            exact ⟨f, v, b, e1, f0, f1, f2⟩
          · obtain ⟨f', w, c, a1, a2, a3, a4⟩ := hpl i (by omega)
            exact ⟨f', w, c, a1, by rw [fo _ (by omega)]; exact a2, by rw [fo _ (by omega)]; exact a3, fun q => by rw [fo _ (by omega)]; exact a4 q⟩
        refine zb238_57 hT rfl hB1 e13 (by omega) (by omega) (by omega) (fun q hz => ?_) (fun q => ?_)
        · rw [hn] at q
          have := lt b (by omega)
          rw [if_neg (by omega), if_pos q] at hal
          refine ih (p + 1) _ (by omega) (by rw [stY, hE]; omega) (by rw [stY, hE]; omega) (by rw [stY, hE]; exact hal) hz (hF1.set rfl) (by rw [zu_sm rfl, f16, stY, hE]; omega) (by rw [zu_off (by omega)]; exact f17) (fun i hi => ?_)
          rw [zu_dnR (by omega)]
          exact new i hi
        · rw [hn] at q
          refine zb238_39a (n := p + 1) hT rfl hB1 e13 (by omega) (by omega) (by omega) (fun c => ?_) (fun c hz => ?_)
          · rw [if_pos (by omega)] at hal
            exact h2 (p + 1) M1 hal.symm (by omega) (by omega) hB1 hF1 new
          · rw [if_neg (by omega), if_neg q] at hal
            have := h1 b _ hal.symm hz (hF1.set rfl)
            rw [← f16] at this
            exact this
  exact key 30 0 m (by omega) (by omega) (by rw [stY]; omega) rfl hB zFr.refl (by rw [h16]; rfl) h17 (fun i hi => by omega)
end ZActsR
