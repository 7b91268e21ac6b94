/-! What the reference remembers. -/
noncomputable def remW (c j : Nat) : Bool := Nat.beq c 87 || (Nat.beq c 74 && Nat.beq j 35)
/-- one more is remembered (the first is lost, if there are 12) -/
noncomputable def Rem (m m1 : zM) (r : Nat → Int) : Prop := ∃ u s : Nat, m 74 35 = (u : Int) ∧ ((u = 12 ∧ s = 1) ∨ (u < 12 ∧ s = 0)) ∧ m1 74 35 = (u : Int) + 1 - s ∧ (∀ i j, j < 59 → i + s < u → m1 87 (59 * i + j) = m 87 (59 * (i + s) + j)) ∧ ∀ j, j < 59 → m1 87 (59 * (u - s) + j) = r j
section ZRem
variable {T : Nat → Nat → zG → (Option zA → zM → Prop) → Prop} {D : Nat} {κ : Option zA → zM → Prop} {m : zM}
theorem z_remR_75 (hT : zRules T) (hB : zB m) (h : ∀ m1, zB m1 → zFr remW m m1 → Rem m m1 (m 75) → κ none m1) : T (D + 2) 229 (0, [(0, zr 74), (1, zr 75)], [], m) κ := by
  have hU : 0 ≤ m 74 35 ∧ m 74 35 ≤ 12 := hB 74 35
  obtain ⟨u, hu⟩ : ∃ u : Nat, m 74 35 = (u : Int) := ⟨(m 74 35).toNat, by omega⟩
  -- behind the shift: M, of which v are left
  have fin : ∀ (M : zM) (v s : Nat) (lo : zL), zB M → zFr remW m M → M 74 35 = (v : Int) → ((u = 12 ∧ s = 1) ∨ (u < 12 ∧ s = 0)) → v = u - s → (∀ i j, j < 59 → i + s < u → M 87 (59 * i + j) = m 87 (59 * (i + s) + j)) → M 75 = m 75 → z_keep [0] lo = [(0, zr 74)] → T (D + 1) 228 (0, [(0, zr 75), (1, zr 87), (2, zi (59 * (M 74 35)))], [], M) (fun r m1 => T (D + 2) 229 (64, lo, r.toList ++ [], m1) κ) := by
    intro M v s lo hBM hF hv hs hvs hsh ha hlo
    have e : 59 * M 74 35 = ((59 * v : Nat) : Int) := by omega
    rw [e]
    refine z_lay_75_87 hT (by omega) ?_
    have hB1 : zB (z_cp M 75 87 0 (59 * v) 59) := by
      refine zB_cp hBM (fun j h1 h2 => ?_)
      have h9 : zbd 75 (j - 59 * v) (M 75 (j - 59 * v)) := hBM 75 (j - 59 * v)
      have := zbd8775 (u := v) (j := j - 59 * v) (by omega) h9
      rw [show 59 * v + (j - 59 * v) = j by omega] at this
      rw [Nat.zero_add]
      exact this
    refine zb229_64_75 hT hlo hB1 ?_
    have e2 : z_cp M 75 87 0 (59 * v) 59 74 35 = (v : Int) := by rw [z_cp_dn (by omega)]; exact hv
    rw [e2]
    refine h _ (zB_u hB1 (show 0 ≤ (v : Int) + 1 ∧ (v : Int) + 1 ≤ 12 by omega)) ?_ ⟨u, s, hu, hs, ?_, fun i j hj hi => ?_, fun j hj => ?_⟩
    · exact (zFr.cp hF (fun _ => rfl)).set rfl
    · rw [zu_sm rfl]
      omega
    · rw [zu_dn (by omega), z_cp_of (by omega)]
      exact hsh i j hj hi
    · rw [zu_dn (by omega), z_cp_in (by omega), ← ha]
      congr 1
      omega
  refine zb229_0_75 hT hB (fun hne => ?_) (fun he => ?_)
  · exact fin m u 0 _ hB zFr.refl hu (Or.inr ⟨by omega, rfl⟩) rfl (fun i j hj hi => rfl) rfl rfl
  · have key : ∀ (j k : Nat) (M : zM), k + j = 649 → zB M → (∀ i, i < k → M 87 i = m 87 (i + 59)) → (∀ i, k ≤ i → M 87 i = m 87 i) → (∀ c, c ≠ 87 → M c = m c) → T (D + 2) 229 (11, [(0, zr 74), (1, zr 75), (2, zi (k : Int))], [], M) κ := by
      intro j
      induction j with
      | zero =>
        intro k M hk hBM h1 h2 h3
        refine zb229_11_75 hT rfl hBM (by omega) (fun _ => ?_) (fun q => by omega)
        have e74 : M 74 35 = 12 := by rw [h3 74 (by omega)]; exact he
        have hx := fin (zu M 74 35 (M 74 35 - 1)) 11 1 [(0, zr 74), (1, zr 75), (2, zi (k : Int))] (zB_u hBM (show 0 ≤ M 74 35 - 1 ∧ M 74 35 - 1 ≤ 12 by omega)) ?_ ?_ (Or.inl ⟨by omega, rfl⟩) (by omega) ?_ ?_ rfl
        · rw [zu_sm rfl] at hx
          exact hx
        · refine zFr.set (fun c j hc => ?_) rfl
          have hc2 : c ≠ 87 := fun q => by subst q; cases hc
          rw [h3 c hc2]
        · rw [zu_sm rfl]
          omega
        · intro i j hj hi
          rw [zu_dn (by omega), h1 _ (by omega)]
          congr 1
          omega
        · rw [zu_dnR (by omega), h3 _ (by omega)]
      | succ j ih =>
        intro k M hk hBM h1 h2 h3
        refine zb229_11_75 hT rfl hBM (by omega) (fun q => by omega) (fun _ => ?_)
        refine ih (k + 1) _ (by omega) ?_ (fun i hi => ?_) (fun i hi => ?_) (fun c hc => ?_)
        · exact zB_u hBM (zbd87 (by omega) (hBM 87 (k + 59)))
        · by_cases e : i = k
          · subst e
            rw [zu_sm rfl]
            exact h2 _ (by omega)
          · rw [zu_off e]
            exact h1 i (by omega)
        · rw [zu_off (by omega)]
          exact h2 i (by omega)
        · rw [zu_dnR hc]
          exact h3 c hc
    exact key 649 0 m (by omega) hB (fun i hi => by omega) (fun i hi => rfl) (fun c hc => rfl)
theorem z_remR_88 (hT : zRules T) (hB : zB m) (h : ∀ m1, zB m1 → zFr remW m m1 → Rem m m1 (m 88) → κ none m1) : T (D + 2) 229 (0, [(0, zr 74), (1, zr 88)], [], m) κ := by
  have hU : 0 ≤ m 74 35 ∧ m 74 35 ≤ 12 := hB 74 35
  obtain ⟨u, hu⟩ : ∃ u : Nat, m 74 35 = (u : Int) := ⟨(m 74 35).toNat, by omega⟩
  -- behind the shift: M, of which v are left
  have fin : ∀ (M : zM) (v s : Nat) (lo : zL), zB M → zFr remW m M → M 74 35 = (v : Int) → ((u = 12 ∧ s = 1) ∨ (u < 12 ∧ s = 0)) → v = u - s → (∀ i j, j < 59 → i + s < u → M 87 (59 * i + j) = m 87 (59 * (i + s) + j)) → M 88 = m 88 → z_keep [0] lo = [(0, zr 74)] → T (D + 1) 228 (0, [(0, zr 88), (1, zr 87), (2, zi (59 * (M 74 35)))], [], M) (fun r m1 => T (D + 2) 229 (64, lo, r.toList ++ [], m1) κ) := by
    intro M v s lo hBM hF hv hs hvs hsh ha hlo
    have e : 59 * M 74 35 = ((59 * v : Nat) : Int) := by omega
    rw [e]
    refine z_lay_88_87 hT (by omega) ?_
    have hB1 : zB (z_cp M 88 87 0 (59 * v) 59) := by
      refine zB_cp hBM (fun j h1 h2 => ?_)
      have h9 : zbd 75 (j - 59 * v) (M 88 (j - 59 * v)) := hBM 88 (j - 59 * v)
      have := zbd8775 (u := v) (j := j - 59 * v) (by omega) h9
      rw [show 59 * v + (j - 59 * v) = j by omega] at this
      rw [Nat.zero_add]
      exact this
    refine zb229_64_88 hT hlo hB1 ?_
    have e2 : z_cp M 88 87 0 (59 * v) 59 74 35 = (v : Int) := by rw [z_cp_dn (by omega)]; exact hv
    rw [e2]
    refine h _ (zB_u hB1 (show 0 ≤ (v : Int) + 1 ∧ (v : Int) + 1 ≤ 12 by omega)) ?_ ⟨u, s, hu, hs, ?_, fun i j hj hi => ?_, fun j hj => ?_⟩
    · exact (zFr.cp hF (fun _ => rfl)).set rfl
    · rw [zu_sm rfl]
      omega
    · rw [zu_dn (by omega), z_cp_of (by omega)]
      exact hsh i j hj hi
    · rw [zu_dn (by omega), z_cp_in (by omega), ← ha]
      congr 1
      omega
  refine zb229_0_88 hT hB (fun hne => ?_) (fun he => ?_)
  · exact fin m u 0 _ hB zFr.refl hu (Or.inr ⟨by omega, rfl⟩) rfl (fun i j hj hi => rfl) rfl rfl
  · have key : ∀ (j k : Nat) (M : zM), k + j = 649 → zB M → (∀ i, i < k → M 87 i = m 87 (i + 59)) → (∀ i, k ≤ i → M 87 i = m 87 i) → (∀ c, c ≠ 87 → M c = m c) → T (D + 2) 229 (11, [(0, zr 74), (1, zr 88), (2, zi (k : Int))], [], M) κ := by
      intro j
      induction j with
      | zero =>
        intro k M hk hBM h1 h2 h3
        refine zb229_11_88 hT rfl hBM (by omega) (fun _ => ?_) (fun q => by omega)
        have e74 : M 74 35 = 12 := by rw [h3 74 (by omega)]; exact he
        have hx := fin (zu M 74 35 (M 74 35 - 1)) 11 1 [(0, zr 74), (1, zr 88), (2, zi (k : Int))] (zB_u hBM (show 0 ≤ M 74 35 - 1 ∧ M 74 35 - 1 ≤ 12 by omega)) ?_ ?_ (Or.inl ⟨by omega, rfl⟩) (by omega) ?_ ?_ rfl
        · rw [zu_sm rfl] at hx
          exact hx
        · refine zFr.set (fun c j hc => ?_) rfl
          have hc2 : c ≠ 87 := fun q => by subst q; cases hc
          rw [h3 c hc2]
        · rw [zu_sm rfl]
          omega
        · intro i j hj hi
          rw [zu_dn (by omega), h1 _ (by omega)]
          congr 1
          omega
        · rw [zu_dnR (by omega), h3 _ (by omega)]
      | succ j ih =>
        intro k M hk hBM h1 h2 h3
        refine zb229_11_88 hT rfl hBM (by omega) (fun q => by omega) (fun _ => ?_)
        refine ih (k + 1) _ (by omega) ?_ (fun i hi => ?_) (fun i hi => ?_) (fun c hc => ?_)
        · exact zB_u hBM (zbd87 (by omega) (hBM 87 (k + 59)))
        · by_cases e : i = k
          · subst e
            rw [zu_sm rfl]
            exact h2 _ (by omega)
          · rw [zu_off e]
            exact h1 i (by omega)
        · rw [zu_off (by omega)]
          exact h2 i (by omega)
        · rw [zu_dnR hc]
          exact h3 c hc
    exact key 649 0 m (by omega) hB (fun i hi => by omega) (fun i hi => rfl) (fun c hc => rfl)
end ZRem
