/-! The reference's findTaken(): it ends. -/
section ZTaken
variable {T : Nat → Nat → zG → (Option zA → zM → Prop) → Prop} {B : Int}
theorem z_findTaken0 (hT : zRules T) {D : Nat} {κ : Option zA → zM → Prop} {m : zM} {N : Nat} (hB : zB m) (hN : m 74 49 = (N : Int)) (hN2 : N ≤ 26) (hk : ∀ (c : Nat) M, c ≤ N → zB M → zFr (inL [(98, none)]) m M → y_want (m 97) (tkT M) (m 79 0) (N : Int) (c : Int) ≤ 0 → κ (some (zi (c : Int))) M) : T (D + 5) 270 (0, [(0, zr 74)], [], m) κ := by
  have b79 : 0 ≤ m 79 0 ∧ m 79 0 ≤ 9 := hB 79 0
  have hL : ∀ k : Nat, (k : Int) < (N : Int) → 0 ≤ m 97 k ∧ m 97 k ≤ 99 := fun k _ => hB 97 k
  have wB := y_wantB (m 97) (tkT m) (m 79 0) (N : Int) ((0 : Nat) : Int)
  have wN := y_wantN (m 97) (tkT m) (m 79 0) ((0 : Nat) : Int) (n := (N : Int)) (by omega)
  refine zb270_0 (D := D) hT hB ?_
  refine z_wanting (q := 0) hT hB (by omega) hN (by omega) ?_
  generalize hmany : y_want (m 97) (tkT m) (m 79 0) (N : Int) ((0 : Nat) : Int) = many at wB wN ⊢
  obtain ⟨n, rfl⟩ : ∃ n : Nat, many = (n : Int) := ⟨many.toNat, by omega⟩
  refine zb270_5 (D := D) hT rfl hB (by omega) ?_
  have head : ∀ (j i : Nat) (a : Int) (M : zM), i + j = n → (0 ≤ a ∧ a ≤ 108 + i) → zB M → zFr (inL [(98, none)]) m M → y_want (m 97) (tkT M) (m 79 0) (N : Int) (i : Int) ≤ (n : Int) - i → (∀ v, y_A (m 97) (tkT M) (m 79 0) (N : Int) (i : Int) v → a ≤ v + m 79 0) → T (D + 5) 270 (10, [(0, zr 74), (1, zi (n : Int)), (2, zi a), (3, zi (i : Int))], [], M) κ := by
    intro j
    induction j with
    | zero =>
      intro i a M hi ha hBM hF hw hu
      exact zb270_10 (D := D) hT rfl hBM (by omega) (by omega) (by omega) (fun _ => hk n M (by omega) hBM hF (by
        have e : i = n := by omega
        rw [e] at hw
        omega)) (fun x => by omega) (fun x => by omega)
    | succ j ih =>
      intro i a M hi ha hBM hF hw hu
      refine zb270_10 (D := D) hT rfl hBM (by omega) (by omega) (by omega) (fun x => by omega) (fun _ => by omega) (fun _ hz => ?_)
      have inner : ∀ (r : Nat) (M : zM), (108 - M 98 i).toNat = r → (0 ≤ M 98 i ∧ M 98 i ≤ 108 + i) → zB M → zFr (inL [(98, none)]) m M → y_want (m 97) (tkT M) (m 79 0) (N : Int) (i : Int) ≤ (n : Int) - i → (∀ v, y_A (m 97) (tkT M) (m 79 0) (N : Int) (i : Int) v → M 98 i ≤ v + m 79 0) → T (D + 5) 270 (22, [(0, zr 74), (1, zi (n : Int)), (3, zi (i : Int))], [], M) κ := by
        intro r
        induction r using Nat.strongRecOn with
        | ind r ihr =>
          intro M hr hTi hBM hF hw hu
          have eT : tkT M i = M 98 i := wr_id (by omega) (by omega)
          have e97 : M 97 = m 97 := funext fun j => hF 97 j rfl
          have e79 : M 79 0 = m 79 0 := hF 79 0 rfl
          refine zb270_22 (D := D) hT rfl hBM (by omega) (by omega) ?_
          rw [show (i : Int) + 1 = ((i + 1 : Nat) : Int) by omega]
          refine z_wanting (q := i + 1) hT hBM (by omega) ((hF 74 49 rfl).trans hN) (by omega) ?_
          rw [e97, e79]
          have w1 := y_wantB (m 97) (tkT M) (m 79 0) (N : Int) ((i + 1 : Nat) : Int)
          generalize hw1 : y_want (m 97) (tkT M) (m 79 0) (N : Int) ((i + 1 : Nat) : Int) = w at w1 ⊢
          obtain ⟨w', rfl⟩ : ∃ w' : Nat, w = (w' : Int) := ⟨w.toNat, by omega⟩
          rw [show ((i + 1 : Nat) : Int) = (i : Int) + 1 by omega] at hw1
          refine zb270_29 (D := D) hT rfl hBM (by omega) (by omega) (by omega) (by omega) (fun x => ?_) (fun x hz2 => ?_)
          · refine ih (i + 1) _ M (by omega) (by omega) hBM hF ?_ (fun v hv => ?_)
            · rw [show ((i + 1 : Nat) : Int) = (i : Int) + 1 by omega, hw1]
              omega
            · rw [show ((i + 1 : Nat) : Int) = (i : Int) + 1 by omega] at hv
              have h1 := y_next (fun v hv => by rw [eT]; exact hu v hv) b79.1 v hv
              rw [eT] at h1
              exact h1
          · obtain ⟨s1, s2⟩ := y_stop (many := (n : Int)) b79 hL (by omega) hw (fun v hv => by rw [eT]; exact hu v hv) (by rw [hw1]; omega)
            rw [eT] at s1 s2
            have hsame : ∀ j : Nat, (j : Int) < (i : Int) → tkT (zu M 98 i (M 98 i + 1)) j = tkT M j := fun j hj => by
              show wr ((zu M 98 i (M 98 i + 1)) 98 j) = wr (M 98 j)
              rw [zu_off (by omega)]
            refine ihr (108 - (M 98 i + 1)).toNat (by omega) (zu M 98 i (M 98 i + 1)) (by rw [zu_sm rfl]) (by rw [zu_sm rfl]; omega) hz2 (hF.set rfl) ?_ (fun v hv => ?_)
            · rw [y_wantE (fun _ _ => rfl) hsame]
              exact hw
            · rw [zu_sm rfl]
              exact s2 v ((y_AE (fun _ _ => rfl) hsame v).mp hv)
      have hsame : ∀ j : Nat, (j : Int) < (i : Int) → tkT (zu M 98 i a) j = tkT M j := fun j hj => by
        show wr ((zu M 98 i a) 98 j) = wr (M 98 j)
        rw [zu_off (by omega)]
      refine inner _ (zu M 98 i a) rfl (by rw [zu_sm rfl]; omega) hz (hF.set rfl) ?_ (fun v hv => ?_)
      · rw [y_wantE (fun _ _ => rfl) hsame]
        exact hw
      · rw [zu_sm rfl]
        exact hu v ((y_AE (fun _ _ => rfl) hsame v).mp hv)
  refine head n 0 0 m (by omega) (by omega) hB zFr.refl (by rw [hmany]; omega) (fun v hv => ?_)
  obtain ⟨⟨k, k1, k2⟩, _⟩ := hv
  have := hL k k1
  omega
end ZTaken
