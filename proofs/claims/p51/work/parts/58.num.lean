/-! Numbers read by the class; a thing, signs ahead of it, an EXPRESSION within. -/
theorem zu_zu {m : zM} {q i : Nat} {v w : Int} : zu (zu m q i v) q i w = zu m q i w := by
  funext c j
  by_cases e : c = q
  · subst e
    by_cases e2 : j = i
    · rw [zu_sm e2, zu_sm e2]
    · rw [zu_off e2, zu_off e2, zu_off e2]
  · rw [zu_dn e, zu_dn e, zu_dn e]
theorem zu_id {m : zM} {q i : Nat} {v : Int} (h : m q i = v) : zu m q i v = m := by
  funext c j
  by_cases e : c = q
  · subst e
    by_cases e2 : j = i
    · rw [zu_sm e2, e2, h]
    · rw [zu_off e2]
  · rw [zu_dn e]
section ZNum
variable {T : Nat → Nat → zG → (Option zA → zM → Prop) → Prop} {D : Nat} {κ : Option zA → zM → Prop}
theorem nx_at {M : zM} {a : Nat} : nxC (zu M 2 3 (a : Int)) = sgC M a := by
  unfold nxC sgC
  rw [zu_sm rfl, zu_off (by omega), zu_dn (by omega), Int.toNat_natCast]
theorem sC_lt {M : zM} (hB : zB M) {a : Nat} (h : ¬ sgC M a = -1) : (a : Int) < M 2 2 ∧ M 2 2 ≤ 80 := by
  have h2 : 0 ≤ M 2 2 ∧ M 2 2 ≤ 80 := hB 2 2
  unfold sgC at h
  split at h
  · exact ⟨by assumption, h2.2⟩
  · exact absurd rfl h
theorem z_num_2 (hT : zRules T) {M : zM} {a : Nat} (hB : zB M) (h23 : M 2 3 = (a : Int)) (ha : a ≤ 80)
    (h1 : 48 ≤ sgC M a → sgC M a ≤ 57 → zB (zu M 2 3 ((rNum (sgC M) 2 a 0).1 : Int)) → κ (some (zi (rNum (sgC M) 2 a 0).2)) (zu M 2 3 ((rNum (sgC M) 2 a 0).1 : Int))) (h2 : ¬ (48 ≤ sgC M a ∧ sgC M a ≤ 57) → κ (some (zi (-1))) M) : T (D + 3) 72 (0, [(0, zr 2), (1, zi 2)], [], M) κ := by
  have hBa : ∀ b : Nat, b ≤ 90 → zB (zu M 2 3 (b : Int)) := fun b hb => zB_u hB (show -1 ≤ (b : Int) ∧ (b : Int) ≤ 100 by omega)
  have key : ∀ (j k b : Nat) (v : Int), k + j = 2 → 1 ≤ k → b ≤ 81 → (0 ≤ v ∧ (k = 1 → v ≤ 9) ∧ (k = 2 → v ≤ 99) ∧ v ≤ 999) → κ (some (zi (rNum (sgC M) j b v).2)) (zu M 2 3 ((rNum (sgC M) j b v).1 : Int)) → T (D + 3) 72 (10, [(0, zr 2), (1, zi 2), (2, zi v), (3, zi (k : Int))], [], zu M 2 3 (b : Int)) κ := by
    intro j
    induction j with
    | zero =>
      intro k b v hk h1k hb hv hκ
      exact zb72_10_2 hT rfl (hBa b (by omega)) (by omega) (by omega) (by rw [zu_sm rfl]; omega) (fun _ => hκ) (fun q => by omega) (fun q => by omega) (fun q => by omega) (fun q => by omega)
    | succ j ih =>
      intro k b v hk h1k hb hv hκ
      rw [rNum] at hκ
      refine zb72_10_2 hT rfl (hBa b (by omega)) (by omega) (by omega) (by rw [zu_sm rfl]; omega) (fun q => by omega) (fun _ q => by omega) (fun _ _ q => ?_) (fun _ _ q1 q2 => ?_) (fun _ _ q1 q2 => ?_)
      · rw [nx_at] at q
        rw [if_neg (by omega)] at hκ
        exact hκ
      · rw [nx_at] at q1 q2 ⊢
        rw [if_pos (by omega)] at hκ
        have hlt := sC_lt hB (a := b) (by omega)
        intro _
        rw [zu_sm rfl, zu_zu, show v * 10 + (sgC M b - 48) = 10 * v + (sgC M b - 48) by omega]
        exact ih (k + 1) (b + 1) _ (by omega) (by omega) (by omega) (by omega) hκ
      · rw [nx_at] at q1 q2
        rw [if_neg (by omega)] at hκ
        exact hκ
  have e0 : zu M 2 3 (a : Int) = M := zu_id h23
  have hn : nxC M = sgC M a := by rw [← nx_at, e0]
  refine zb72_0_2 hT hB (by omega) (fun q => ?_) (fun q1 q2 => ?_) (fun q1 q2 => ?_)
  · rw [hn] at q
    exact zb72_10_2 (k := 1) hT rfl hB (by omega) (by omega) (by omega) (fun q => by omega) (fun _ _ => h2 (by omega)) (fun _ q => absurd rfl q) (fun _ q => absurd rfl q) (fun _ q => absurd rfl q)
  · rw [hn] at q1 q2 ⊢
    intro _
    have hlt := sC_lt hB (a := a) (by omega)
    have e1 : rNum (sgC M) 2 a 0 = rNum (sgC M) 1 (a + 1) (sgC M a - 48) := by
      rw [rNum, if_pos (by omega), show (10 * 0 + (sgC M a - 48) : Int) = sgC M a - 48 by omega]
    have hs : ∀ b, (M 2 2).toNat ≤ b → sgC M b = -1 := fun b hb => by
      unfold sgC
      rw [if_neg (by omega)]
    have hP := rNumP hs 1 (a + 1) (sgC M a - 48) (by omega)
    have hk := h1 (by omega) (by omega) (hBa _ (by rw [e1]; omega))
    rw [e1] at hk
    have := key 1 1 (a + 1) (sgC M a - 48) (by omega) (by omega) (by omega) (by omega) hk
    rw [h23]
    exact this
  · rw [hn] at q1 q2
    exact zb72_10_2 (k := 1) hT rfl hB (by omega) (by omega) (by omega) (fun q => by omega) (fun _ _ => h2 (by omega)) (fun _ q => absurd rfl q) (fun _ q => absurd rfl q) (fun _ q => absurd rfl q)
theorem z_num_3 (hT : zRules T) {M : zM} {a : Nat} (hB : zB M) (h23 : M 2 3 = (a : Int)) (ha : a ≤ 80)
    (h1 : 48 ≤ sgC M a → sgC M a ≤ 57 → zB (zu M 2 3 ((rNum (sgC M) 3 a 0).1 : Int)) → κ (some (zi (rNum (sgC M) 3 a 0).2)) (zu M 2 3 ((rNum (sgC M) 3 a 0).1 : Int))) (h2 : ¬ (48 ≤ sgC M a ∧ sgC M a ≤ 57) → κ (some (zi (-1))) M) : T (D + 3) 72 (0, [(0, zr 2), (1, zi 3)], [], M) κ := by
  have hBa : ∀ b : Nat, b ≤ 90 → zB (zu M 2 3 (b : Int)) := fun b hb => zB_u hB (show -1 ≤ (b : Int) ∧ (b : Int) ≤ 100 by omega)
  have key : ∀ (j k b : Nat) (v : Int), k + j = 3 → 1 ≤ k → b ≤ 81 → (0 ≤ v ∧ (k = 1 → v ≤ 9) ∧ (k = 2 → v ≤ 99) ∧ v ≤ 999) → κ (some (zi (rNum (sgC M) j b v).2)) (zu M 2 3 ((rNum (sgC M) j b v).1 : Int)) → T (D + 3) 72 (10, [(0, zr 2), (1, zi 3), (2, zi v), (3, zi (k : Int))], [], zu M 2 3 (b : Int)) κ := by
    intro j
    induction j with
    | zero =>
      intro k b v hk h1k hb hv hκ
      exact zb72_10_3 hT rfl (hBa b (by omega)) (by omega) (by omega) (by rw [zu_sm rfl]; omega) (fun _ => hκ) (fun q => by omega) (fun q => by omega) (fun q => by omega) (fun q => by omega)
    | succ j ih =>
      intro k b v hk h1k hb hv hκ
      rw [rNum] at hκ
      refine zb72_10_3 hT rfl (hBa b (by omega)) (by omega) (by omega) (by rw [zu_sm rfl]; omega) (fun q => by omega) (fun _ q => by omega) (fun _ _ q => ?_) (fun _ _ q1 q2 => ?_) (fun _ _ q1 q2 => ?_)
      · rw [nx_at] at q
        rw [if_neg (by omega)] at hκ
        exact hκ
      · rw [nx_at] at q1 q2 ⊢
        rw [if_pos (by omega)] at hκ
        have hlt := sC_lt hB (a := b) (by omega)
        intro _
        rw [zu_sm rfl, zu_zu, show v * 10 + (sgC M b - 48) = 10 * v + (sgC M b - 48) by omega]
        exact ih (k + 1) (b + 1) _ (by omega) (by omega) (by omega) (by omega) hκ
      · rw [nx_at] at q1 q2
        rw [if_neg (by omega)] at hκ
        exact hκ
  have e0 : zu M 2 3 (a : Int) = M := zu_id h23
  have hn : nxC M = sgC M a := by rw [← nx_at, e0]
  refine zb72_0_3 hT hB (by omega) (fun q => ?_) (fun q1 q2 => ?_) (fun q1 q2 => ?_)
  · rw [hn] at q
    exact zb72_10_3 (k := 1) hT rfl hB (by omega) (by omega) (by omega) (fun q => by omega) (fun _ _ => h2 (by omega)) (fun _ q => absurd rfl q) (fun _ q => absurd rfl q) (fun _ q => absurd rfl q)
  · rw [hn] at q1 q2 ⊢
    intro _
    have hlt := sC_lt hB (a := a) (by omega)
    have e1 : rNum (sgC M) 3 a 0 = rNum (sgC M) 2 (a + 1) (sgC M a - 48) := by
      rw [rNum, if_pos (by omega), show (10 * 0 + (sgC M a - 48) : Int) = sgC M a - 48 by omega]
    have hs : ∀ b, (M 2 2).toNat ≤ b → sgC M b = -1 := fun b hb => by
      unfold sgC
      rw [if_neg (by omega)]
    have hP := rNumP hs 2 (a + 1) (sgC M a - 48) (by omega)
    have hk := h1 (by omega) (by omega) (hBa _ (by rw [e1]; omega))
    rw [e1] at hk
    have := key 2 1 (a + 1) (sgC M a - 48) (by omega) (by omega) (by omega) (by omega) hk
    rw [h23]
    exact this
  · rw [hn] at q1 q2
    exact zb72_10_3 (k := 1) hT rfl hB (by omega) (by omega) (by omega) (fun q => by omega) (fun _ _ => h2 (by omega)) (fun _ q => absurd rfl q) (fun _ q => absurd rfl q) (fun _ q => absurd rfl q)
end ZNum
