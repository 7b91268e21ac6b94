/-! lags(). -/
section ZLags
variable {T : Nat → Nat → zG → (Option zA → zM → Prop) → Prop} {B : Int}
/-- so many weeks away, THE LAW asks for the skirt seen -/
noncomputable def lgB (m : zM) (l : Int) (i : Nat) : Bool := decide (0 ≤ m 62 i + l ∧ seL m i l = m 63 i)
theorem z_lagC (hT : zRules T) {D : Nat} {κ : Option zA → zM → Prop} {m M : zM} {sc : zSc} {n k N : Nat} {l : Int} (hI : Inv B sc n k m) (hBM : zB M) (hF : zFr (inL [(13, none)]) m M) (hN : m 59 4 = (N : Int)) (hl : -13 ≤ l ∧ l ≤ 13)
    (hk : ∀ M1, zB M1 → zFr (inL [(13, none)]) m M1 → κ (some (zi (if allB (lgB m l) N then 1 else 0))) M1) : T (D + 7) 183 (0, [(0, zr 1), (1, zi l)], [], M) κ := by
  have i1 := hI.1
  have b59 : 0 ≤ m 59 4 ∧ m 59 4 ≤ 12 := i1 59 4
  have key : ∀ (j t : Nat) (M : zM), t + j = N → zB M → zFr (inL [(13, none)]) m M → allB (lgB m l) t = true → T (D + 7) 183 (2, [(0, zr 1), (1, zi l), (2, zi (t : Int))], [], M) κ := by
    intro j
    induction j with
    | zero =>
      intro t M ht hBM hF ha
      have et : t = N := by omega
      subst et
      have e59 : M 59 4 = m 59 4 := hF 59 4 rfl
      have hk2 := hk M hBM hF
      rw [ha, if_pos rfl] at hk2
      exact zb183_2 hT rfl hBM hl (by omega) (fun _ => hk2) (fun q => by omega) (fun q => by omega)
    | succ j ih =>
      intro t M ht hBM hF ha
      have e59 : M 59 4 = m 59 4 := hF 59 4 rfl
      have e62 : M 62 t = m 62 t := hF 62 t rfl
      have no : ∀ M1, zB M1 → zFr (inL [(13, none)]) m M1 → ¬ (0 ≤ m 62 t + l ∧ seL m t l = m 63 t) → κ (some (zi 0)) M1 := fun M1 hB1 hF1 q => by
        have hk2 := hk M1 hB1 hF1
        rw [allB_no (i := t) (c := lgB m l) (decide_eq_false q) N (by omega), if_neg (by simp)] at hk2
        exact hk2
      refine zb183_2 hT rfl hBM hl (by omega) (fun q => by omega) (fun _ q => no M hBM hF (by omega)) (fun _ q => ?_)
      have e61 : M 62 t + l = m 62 t + l := by omega
      refine zb182_0 hT hBM (by omega) (by omega) ?_
      refine z_seenC (D := D + 1) hT hI hBM hF (by omega) (by omega) (by omega) (fun M1 hB2 hF1 => ?_)
      refine zb182_33 hT rfl seLB ?_
      refine zb183_33 hT rfl hB2 hl (by omega) seLB (fun q2 => ?_) (fun q2 => ?_)
      · rw [hF1 63 t rfl] at q2
        exact ih (t + 1) M1 (by omega) hB2 hF1 (by rw [allB, ha, lgB, decide_eq_true ⟨by omega, q2⟩, Bool.and_self])
      · rw [hF1 63 t rfl] at q2
        exact no M1 hB2 hF1 (fun x => q2 x.2)
  exact zb183_0 hT hBM hl (key N 0 M (by omega) hBM hF rfl)
theorem w_lags (hT : zRules T) : Way T 151 276 [(0, zr 1)] [(0, zr 74)] 8 171 B B True := by
  rintro D m sc ⟨n, k, hI⟩ κ hκ
  have hI0 := hI
  obtain ⟨i1, i2, i3, i4, i5, i6, i7, i8, i9, i10, i11⟩ := hI
  have b59 : 0 ≤ m 59 4 ∧ m 59 4 ≤ 12 := i1 59 4
  obtain ⟨N, hN⟩ : ∃ N : Nat, m 59 4 = (N : Int) := ⟨(m 59 4).toNat, by omega⟩
  have oB : ∀ t, t ≤ 27 → bset (fun x => allB (lgB m ((x : Int) - 13)) N) t ≤ 134217727 := fun t ht => by
    have h1 := bset_lt (c := fun x : Nat => allB (lgB m ((x : Int) - 13)) N) t
    have h2 : 2 ^ t ≤ 2 ^ 27 := Nat.pow_le_pow_right (by omega) (by omega)
    omega
  -- the reference's inner loop, from a state with s = what is so far
  have inner : ∀ (x D2 : Nat) (κ2 : Option zA → zM → Prop), x ≤ 26 → (∀ M1, zB M1 → Agree coreK m M1 → T (D2 + 171) 276 (10, [(0, zr 74), (1, zi (bset (fun x => allB (lgB m ((x : Int) - 13)) N) (x + 1) : Int)), (2, zi ((x : Int) - 13 + 1))], [], M1) κ2) →
      ∀ (j t : Nat) (M : zM), t + j = N → zB M → Agree coreK m M → T (D2 + 171) 276 (21, [(0, zr 74), (1, zi (bset (fun x => allB (lgB m ((x : Int) - 13)) N) x : Int)), (2, zi ((x : Int) - 13)), (3, zi (if allB (lgB m ((x : Int) - 13)) t then 1 else 0)), (4, zi (t : Int))], [], M) κ2 := by
    intro x D2 κ2 hx hk j
    have := oB x (by omega)
    have stop : ∀ M1, zB M1 → Agree coreK m M1 → allB (lgB m ((x : Int) - 13)) N = false → T (D2 + 171) 276 (10, [(0, zr 74), (1, zi (z_or (bset (fun x => allB (lgB m ((x : Int) - 13)) N) x : Int) 0)), (2, zi ((x : Int) - 13 + 1))], [], M1) κ2 := fun M1 hB1 hA1 q => by
      rw [bset_skip0 (c := fun x : Nat => allB (lgB m ((x : Int) - 13)) N) (by omega) (by rw [q]; simp)]
      exact hk M1 hB1 hA1
    induction j with
    | zero =>
      intro t M ht hBM hA
      have et : t = N := by omega
      subst et
      have e52 : M 74 52 = (t : Int) := by rw [hA 74 52 rfl, i8.1, hN]
      by_cases ha : allB (lgB m ((x : Int) - 13)) t = true
      · rw [if_pos ha]
        refine zb276_21 (D := D2 + 167) hT rfl hBM (by omega) (by omega) (by omega) (by omega) (fun _ q => by omega) (fun _ _ => ?_) (fun q => by omega) (fun q => by omega) (fun q => by omega)
        rw [show (13 : Int) + ((x : Int) - 13) = (x : Int) by omega, bset_step (c := fun x : Nat => allB (lgB m ((x : Int) - 13)) t) (by omega) ha]
        exact hk M hBM hA
      · rw [if_neg ha]
        refine zb276_21 (D := D2 + 167) hT rfl hBM (by omega) (by omega) (by omega) (by omega) (fun _ _ => stop M hBM hA (by simpa using ha)) (fun _ q => absurd rfl q) (fun q => by omega) (fun q => by omega) (fun q => by omega)
    | succ j ih =>
      intro t M ht hBM hA
      have e52 : M 74 52 = (N : Int) := by rw [hA 74 52 rfl, i8.1, hN]
      by_cases ha : allB (lgB m ((x : Int) - 13)) t = true
      · rw [if_pos ha]
        have e992 : M 99 (4 * t + 2) = m 62 t := by rw [hA 99 (4 * t + 2) rfl, (i8.2 t (by omega)).2.2.1]
        have step : allB (lgB m ((x : Int) - 13)) (t + 1) = lgB m ((x : Int) - 13) t := by rw [allB, ha, Bool.true_and]
        refine zb276_21 (D := D2 + 167) hT rfl hBM (by omega) (by omega) (by omega) (by omega) (fun q => by omega) (fun q => by omega) (fun _ q => by omega) (fun _ _ q => ?_) (fun _ _ q => ?_)
        · have h1 := ih (t + 1) M (by omega) hBM hA
          rw [step, lgB, decide_eq_false (by omega), if_neg (by simp)] at h1
          exact h1
        · refine z_seenR (l := (x : Int) - 13) hT hI0 hBM hA.w0 (by omega) (by omega) (by omega) (by omega) (fun M1 hB2 hX => ?_)
          have hA1 : Agree coreK m M1 := hA.trans hX
          have h1 := ih (t + 1) M1 (by omega) hB2 hA1
          have e99 : M1 99 (4 * t + 3) = m 63 t := by rw [hA1 99 (4 * t + 3) rfl, (i8.2 t (by omega)).2.2.2.1]
          refine zb276_80 (D := D2 + 167) hT rfl hB2 (by omega) (by omega) (by omega) seLB (fun q2 => ?_) (fun q2 => ?_)
          · rw [step, lgB, decide_eq_false (fun y => q2 (by rw [e99]; exact y.2)), if_neg (by simp)] at h1
            exact h1
          · rw [step, lgB, decide_eq_true ⟨by omega, by rw [← e99]; exact q2⟩, if_pos rfl] at h1
            exact h1
      · rw [if_neg ha]
        have hN2 : allB (lgB m ((x : Int) - 13)) N = false := by
          have : ∀ j t, allB (lgB m ((x : Int) - 13)) t = false → allB (lgB m ((x : Int) - 13)) (t + j) = false := by
            intro j
            induction j with
            | zero => exact fun t h => h
            | succ j ih2 =>
              intro t h
              show (allB (lgB m ((x : Int) - 13)) (t + j) && lgB m ((x : Int) - 13) (t + j)) = false
              rw [ih2 t h, Bool.false_and]
          have h1 := this (j + 1) t (by simpa using ha)
          rw [show t + (j + 1) = N by omega] at h1
          exact h1
        exact zb276_21 (D := D2 + 167) hT rfl hBM (by omega) (by omega) (by omega) (by omega) (fun q => by omega) (fun q => by omega) (fun _ _ => stop M hBM hA hN2) (fun _ q => absurd rfl q) (fun _ q => absurd rfl q)
  have ref : ∀ (j x : Nat) (M : zM) (D2 : Nat) (κ2 : Option zA → zM → Prop), x + j = 27 → zB M → Agree coreK m M → (∀ M1, zB M1 → Agree coreK m M1 → κ2 (some (zi (bset (fun x => allB (lgB m ((x : Int) - 13)) N) 27 : Int))) M1) → T (D2 + 171) 276 (10, [(0, zr 74), (1, zi (bset (fun x => allB (lgB m ((x : Int) - 13)) N) x : Int)), (2, zi ((x : Int) - 13))], [], M) κ2 := by
    intro j
    induction j with
    | zero =>
      intro x M D2 κ2 hx hBM hA hk
      have ex : x = 27 := by omega
      subst ex
      have := oB 27 (by omega)
      exact zb276_10 (D := D2 + 167) hT rfl hBM (by omega) (by omega) (fun _ => hk M hBM hA) (fun q => by omega)
    | succ j ih =>
      intro x M D2 κ2 hx hBM hA hk
      have := oB x (by omega)
      refine zb276_10 (D := D2 + 167) hT rfl hBM (by omega) (by omega) (fun q => by omega) (fun _ => ?_)
      refine inner x D2 κ2 (by omega) (fun M1 hB1 hA1 => ?_) N 0 M (by omega) hBM hA
      have h1 := ih (x + 1) M1 D2 κ2 (by omega) hB1 hA1 hk
      rw [show ((x + 1 : Nat) : Int) - 13 = (x : Int) - 13 + 1 by omega] at h1
      exact h1
  have cls : ∀ (j x : Nat) (M : zM), x + j = 27 → zB M → zFr (inL [(13, none)]) m M → T (D + 8) 151 (5, [(0, zr 1), (1, zi (bset (fun x => allB (lgB m ((x : Int) - 13)) N) x : Int)), (2, zi ((x : Int) - 13))], [], M) κ := by
    intro j
    induction j with
    | zero =>
      intro x M hx hBM hF
      have ex : x = 27 := by omega
      subst ex
      have := oB 27 (by omega)
      have hA : Agree coreK m M := .of hF rfl
      refine zb151_5 hT rfl hBM (by omega) (by omega) (fun _ => hκ _ _ (fun D2 κ2 h2 => ?_)) (fun q => by omega)
      refine zb276_0 (D := D2 + 167) hT hBM (fun hz => ?_)
      exact ref 27 0 _ D2 κ2 (by omega) hz (hA.trans (.of (L := [(74, some 12)]) (zFr.refl.set rfl) rfl)) (fun M1 hB3 hA3 => h2 _ _ (fun _ => rfl) ⟨n, k, Inv_fr hA3 hB3 hI0⟩)
    | succ j ih =>
      intro x M hx hBM hF
      have := oB x (by omega)
      refine zb151_5 hT rfl hBM (by omega) (by omega) (fun q => by omega) (fun _ => ?_)
      refine z_lagC hT hI0 hBM hF hN (by omega) (fun M1 hB1 hF1 => ?_)
      have h1 := ih (x + 1) M1 (by omega) hB1 hF1
      rw [show ((x + 1 : Nat) : Int) - 13 = (x : Int) - 13 + 1 by omega] at h1
      by_cases ha : allB (lgB m ((x : Int) - 13)) N = true
      · rw [if_pos ha]
        refine zb151_16 hT rfl hB1 (by omega) (by omega) (by omega) (fun q => by omega) (fun _ => ?_)
        rw [show (x : Int) - 13 + 13 = (x : Int) by omega, bset_step (c := fun x : Nat => allB (lgB m ((x : Int) - 13)) N) (by omega) ha]
        exact h1
      · rw [if_neg ha]
        refine zb151_16 hT rfl hB1 (by omega) (by omega) (by omega) (fun _ => ?_) (fun q => absurd rfl q)
        rw [bset_skip (c := fun x : Nat => allB (lgB m ((x : Int) - 13)) N) ha]
        exact h1
  exact zb151_0 hT i1 (cls 27 0 m (by omega) i1 zFr.refl)
end ZLags
