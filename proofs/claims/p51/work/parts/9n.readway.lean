/-! way()'s and trunk()'s reading of THE TEXT: it ends, and THE TEXT is empty then. -/
section ZReadWay
variable {T : Nat → Nat → zG → (Option zA → zM → Prop) → Prop} {B : Int}
theorem z_readWayC0 (hT : zRules T) {D : Nat} {κ : Option zA → zM → Prop} {m : zM} {sc : zSc} {n k : Nat} {v : Int} (hI : Inv B sc n k m) (hv : isI v) (hk : ∀ r M, isI r → zB M → zFr (inL [(2, some 1), (2, some 2), (2, some 3), (13, none), (52, some 1), (53, none)]) m M → M 2 1 = 0 → (r = 0 → M 52 1 ≤ 26) → κ (some (zi r)) M) : T (D + 6) 181 (0, [(0, zr 1), (1, zi v)], [], m) κ := by
  have i1 := hI.1
  have h4 := hI.2.2.2.1
  have b17 : 0 ≤ m 17 0 ∧ m 17 0 ≤ 6 := i1 17 0
  have n1 := h4.1.1
  refine zb181_0 (D := D) hT i1 hv (fun _ hz => hk _ _ (by unfold isI; omega) hz (((zFr.refl.set rfl).set rfl).set rfl) (by rw [zu_sm rfl]) (fun q => absurd q (by decide))) (fun _ _ hz => hk _ _ (by unfold isI; omega) hz (((zFr.refl.set rfl).set rfl).set rfl) (by rw [zu_sm rfl]) (fun q => absurd q (by decide))) (fun q1 q2 hz => ?_)
  obtain ⟨p, rfl⟩ : ∃ p : Nat, v = (p : Int) := ⟨v.toNat, by omega⟩
  have loop : ∀ (j i : Nat) (M : zM), i + j = 26 → zB M → zFr (inL [(2, some 1), (2, some 2), (2, some 3), (13, none), (52, some 1), (53, none)]) m M → M 2 3 = (i : Int) → M 52 1 ≤ i → T (D + 6) 181 (40, [(0, zr 1), (1, zi (p : Int)), (2, zi (i : Int))], [], M) κ := by
    intro j
    induction j with
    | zero =>
      intro i M hi hBM hF h23 h521
      exact zb181_40 (D := D) hT rfl hBM (by omega) (by omega) (fun _ _ hz => hk _ _ (by unfold isI; omega) hz (hF.set rfl) (by rw [zu_sm rfl]) (fun _ => by rw [zu_dn (by omega)]; omega)) (fun _ _ _ hz => hk _ _ (by unfold isI; omega) hz (hF.set rfl) (by rw [zu_sm rfl]) (fun _ => by rw [zu_dn (by omega)]; omega)) (fun _ _ _ hz => hk _ _ (by unfold isI; omega) hz (hF.set rfl) (by rw [zu_sm rfl]) (fun _ => by rw [zu_dn (by omega)]; omega)) (fun q => by omega) (fun q => by omega) (fun q => by omega) (fun q => by omega) (fun q => by omega) (fun q => by omega) (fun q => by omega) (fun q => by omega)
    | succ j ih =>
      intro i M hi hBM hF h23 h521
      have fin : ∀ x : Int, isI x → zB (zu M 2 1 0) → κ (some (zi x)) (zu M 2 1 0) := fun x hx hz => hk _ _ hx hz (hF.set rfl) (by rw [zu_sm rfl]) (fun _ => by rw [zu_dn (by omega)]; omega)
      have r1 : isI ((-1) - M 2 3) := by unfold isI; omega
      have r0 : isI 0 := by unfold isI; omega
      refine zb181_40 (D := D) hT rfl hBM (by omega) (by omega) (fun q => by omega) (fun q => by omega) (fun q => by omega) (fun _ => by omega) (fun _ _ _ hz => fin _ r1 hz) (fun _ _ _ _ hz => fin _ r1 hz) (fun _ _ _ _ hz => fin _ r0 hz) (fun _ c1 c2 => ?_) (fun _ _ _ _ hz => fin _ r1 hz) (fun _ _ _ _ _ hz => fin _ r1 hz) (fun _ _ _ _ _ hz => fin _ r0 hz)
      generalize nxC M = c at c1 c2 ⊢
      obtain ⟨pl, hpl⟩ : ∃ pl : Nat, c - 48 = (pl : Int) := ⟨(c - 48).toNat, by omega⟩
      rw [hpl]
      have hz2 : zB (zu M 2 3 (M 2 3 + 1)) := zB_u hBM (by show -1 ≤ M 2 3 + 1 ∧ M 2 3 + 1 ≤ 100; omega)
      have hF2 : zFr (inL [(2, some 1), (2, some 2), (2, some 3), (13, none), (52, some 1), (53, none)]) m (zu M 2 3 (M 2 3 + 1)) := hF.set rfl
      have x23 : (zu M 2 3 (M 2 3 + 1)) 2 3 = ((i + 1 : Nat) : Int) := by rw [zu_sm rfl, h23]; omega
      have x52 : (zu M 2 3 (M 2 3 + 1)) 52 1 ≤ (i : Int) := by rw [zu_dn (by omega)]; exact h521
      have e17 : M 17 11 = (zu M 2 3 (M 2 3 + 1)) 17 11 := by rw [zu_dn (by omega)]
      rw [e17]
      generalize zu M 2 3 (M 2 3 + 1) = M2 at hz2 hF2 x23 x52 ⊢
      have b11 : 0 ≤ M2 17 11 ∧ M2 17 11 ≤ 400000 := hz2 17 11
      have h18 := (h4.2.2.1 p (by omega)).2
      have hA : Agree KL m M2 := .of hF2 rfl
      refine z_lawAt (D := D + 1) hT hz2 (by omega) (by rw [hF2 18 p rfl]; omega) (by omega) (by omega) (hA.law.1 hI.2.2.1).1 (fun M3 hB3 hF3 => ?_)
      have hF3b : zFr (inL [(13, none)]) M2 M3 := hF3.sub rowL13
      have hFa : zFr (inL [(2, some 1), (2, some 2), (2, some 3), (13, none), (52, some 1), (53, none)]) m M3 := hF2.trans (hF3b.sub (inL_sub (by decide)))
      have y52 : M3 52 1 ≤ (i : Int) := by rw [hF3b 52 1 rfl]; exact x52
      have y23 : M3 2 3 = ((i + 1 : Nat) : Int) := (hF3b 2 3 rfl).trans x23
      refine zb181_83 (D := D) hT rfl hB3 (by omega) (by omega) LWB (fun _ => ih (i + 1) M3 (by omega) hB3 hFa y23 (by omega)) (fun _ hz4 => ?_)
      exact ih (i + 1) _ (by omega) hz4 ((hFa.set rfl).set rfl) (by rw [zu_dn (by omega), zu_dn (by omega)]; exact y23) (by rw [zu_sm rfl]; omega)
  exact loop 26 0 _ (by omega) hz (((zFr.refl.set rfl).set rfl).set rfl) (by rw [zu_dn (by omega), zu_off (by omega), zu_sm rfl]; rfl) (by rw [zu_sm rfl]; exact Int.le_refl _)
end ZReadWay
