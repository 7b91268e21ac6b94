/-! timely(): it ends, and leaves what matters. -/
noncomputable def popc7 (x : Nat) : Nat := (List.range 7).countP (fun i => x.testBit i)
theorem popc7_7 : ∀ x : Nat, x < 128 → popc7 x ≤ 7 := by decide +kernel
theorem popc7_no : ∀ x : Nat, x < 128 → popc7 x = 0 → x = 0 := by decide +kernel
theorem clr_v : ∀ f : Nat, f < 7 → ∀ x : Nat, x < 128 → z_and (x : Int) (z_xor (z_shl 1 (f : Int)) (-1)) = ((x &&& (127 - 2 ^ f) : Nat) : Int) := by decide +kernel
theorem clr_p : ∀ f : Nat, f < 7 → ∀ x : Nat, x < 128 → x.testBit f = true → popc7 (x &&& (127 - 2 ^ f)) < popc7 x := by decide +kernel
section ZTimely
variable {T : Nat → Nat → zG → (Option zA → zM → Prop) → Prop} {B : Int}
theorem z_hoursOf0 (hT : zRules T) {D : Nat} {κ : Option zA → zM → Prop} {m : zM} {x N : Nat} (hB : zB m) (hN : m 64 2 = (N : Int)) (hx : x ≤ 127) (hk : ∀ h : Int, (0 ≤ h ∧ h ≤ 140) → κ (some (zi h)) m) : T (D + 2) 98 (0, [(0, zr 64), (1, zi (x : Int))], [], m) κ := by
  have b64 : 0 ≤ m 64 2 ∧ m 64 2 ≤ 7 := hB 64 2
  have key : ∀ (j t : Nat) (h : Int), t + j = N → (0 ≤ h ∧ h ≤ 20 * t) → T (D + 2) 98 (4, [(0, zr 64), (1, zi (x : Int)), (2, zi h), (3, zi (t : Int))], [], m) κ := by
    intro j
    induction j with
    | zero =>
      intro t h ht hh
      exact zb98_4 hT rfl hB hx (by omega) (by omega) (fun _ => hk h (by omega)) (fun q => by omega)
    | succ j ih =>
      intro t h ht hh
      have b65 : 0 ≤ m 65 t ∧ m 65 t ≤ 20 := hB 65 t
      refine zb98_4 hT rfl hB hx (by omega) (by omega) (fun q => by omega) (fun _ => ?_)
      rw [z_bit (by omega) (by omega)]
      by_cases e : x.testBit t = true
      · rw [if_pos e, Int.one_mul]
        exact ih (t + 1) _ (by omega) (by omega)
      · rw [if_neg e, Int.zero_mul, Int.add_zero]
        exact ih (t + 1) _ (by omega) (by omega)
  exact zb98_0 hT hB hx (key N 0 0 (by omega) (by omega))
theorem z_canBe0 (hT : zRules T) {D : Nat} {κ : Option zA → zM → Prop} {m : zM} {x N : Nat} (hB : zB m) (hN : m 64 2 = (N : Int)) (hx : x ≤ 127) (hk : ∀ v : Int, (0 ≤ v ∧ v ≤ 1) → κ (some (zi v)) m) : T (D + 3) 103 (0, [(0, zr 64), (1, zi (x : Int))], [], m) κ := by
  have b64 : 0 ≤ m 64 2 ∧ m 64 2 ≤ 7 := hB 64 2
  refine zb103_0 hT hB hx ?_
  refine z_hoursOf0 hT hB hN hx (fun h hh => ?_)
  refine zb103_5 hT rfl hB hx (by omega) ?_
  have key : ∀ (j t : Nat), t + j = N → T (D + 3) 103 (8, [(0, zr 64), (1, zi (x : Int)), (2, zi h), (3, zi (t : Int))], [], m) κ := by
    intro j
    induction j with
    | zero =>
      intro t ht
      exact zb103_8 hT rfl hB hx (by omega) (by omega) (fun _ => hk 0 (by omega)) (fun q => by omega) (fun q => by omega) (fun q => by omega) (fun q => by omega) (fun q => by omega)
    | succ j ih =>
      intro t ht
      refine zb103_8 hT rfl hB hx (by omega) (by omega) (fun q => by omega) (fun _ _ => ih (t + 1) (by omega)) (fun _ _ _ => ih (t + 1) (by omega)) (fun _ _ _ => ?_) (fun _ _ _ _ => ih (t + 1) (by omega)) (fun _ _ _ _ => hk 1 (by omega))
      have hl : x &&& (127 - 2 ^ t) ≤ x := Nat.and_le_left
      rw [clr_v t (by omega) x (by omega)]
      omega
  exact key N 0 (by omega)
theorem z_isTimely0 (hT : zRules T) {N : Nat} : ∀ (j : Nat) (D : Nat) (κ : Option zA → zM → Prop) (m : zM) (y : Nat) (s : Int), zB m → m 74 54 = (N : Int) → N ≤ 7 → y < 2 ^ N → popc7 y ≤ j → (0 ≤ s ∧ s + 99 * j ≤ 693) → (∀ v : Int, (0 ≤ v ∧ v ≤ 1) → κ (some (zi v)) m) →
    T (D + 2) 282 (4, [(0, zr 74), (2, zi s), (3, zi (y : Int))], [], m) κ := by
  intro j
  induction j with
  | zero =>
    intro D κ m y s hB hN hN7 hy hp hs hk
    have p7 : 2 ^ N ≤ 2 ^ 7 := Nat.pow_le_pow_right (by omega) hN7
    have y0 := popc7_no y (by omega) (by omega)
    exact zb282_4 hT rfl hB (by omega) (by omega) (fun _ => hk 1 (by omega)) (fun q => by omega)
  | succ j ih =>
    intro D κ m y s hB hN hN7 hy hp hs hk
    have p7 : 2 ^ N ≤ 2 ^ 7 := Nat.pow_le_pow_right (by omega) hN7
    refine zb282_4 hT rfl hB (by omega) (by omega) (fun _ => hk 1 (by omega)) (fun y0 => ?_)
    have loop : ∀ (i t : Nat) (f : Int), t + i = N → ((f = -1 ∧ ∀ q, q < t → y.testBit q = false) ∨ ∃ g : Nat, f = (g : Int) ∧ g < 7 ∧ y.testBit g = true) → T (D + 2) 282 (14, [(0, zr 74), (2, zi s), (3, zi (y : Int)), (4, zi f), (5, zi (t : Int))], [], m) κ := by
      intro i
      induction i with
      | zero =>
        intro t f ht hf
        have hg : ∃ g : Nat, f = (g : Int) ∧ g < 7 ∧ y.testBit g = true := by
          rcases hf with ⟨_, h0⟩ | h0
          · exfalso
            obtain ⟨q, hq⟩ := Nat.exists_testBit_of_ne_zero (show y ≠ 0 by omega)
            have h1 := Nat.ge_two_pow_of_testBit hq
            have h2 : q < N := (Nat.pow_lt_pow_iff_right (a := 2) (by omega)).mp (by omega)
            rw [h0 q (by omega)] at hq
            cases hq
          · exact h0
        obtain ⟨g, rfl, g7, gb⟩ := hg
        have e2 : (2 * (g : Int)).toNat = 2 * g := by omega
        have b100 : 0 ≤ m 100 (2 * g) ∧ m 100 (2 * g) ≤ 99 := hB 100 (2 * g)
        have hc := clr_p g g7 y (by omega) gb
        have hl : y &&& (127 - 2 ^ g) ≤ y := Nat.and_le_left
        refine zb282_14 hT rfl hB (by omega) (by omega) (by omega) (by omega) (fun _ => by omega) (fun _ => by omega) (fun _ _ => ?_) (fun _ _ => hk 0 (by omega)) (fun q => by omega) (fun q => by omega) (fun q => by omega) (fun q => by omega)
        rw [e2, clr_v g g7 y (by omega)]
        exact ih D κ m _ _ hB hN hN7 (by omega) (by omega) (by omega) hk
      | succ i ih2 =>
        intro t f ht hf
        have f6 : -1 ≤ f ∧ f ≤ 6 := by
          rcases hf with ⟨h0, _⟩ | ⟨g, h0, h1, _⟩
          · omega
          · omega
        have hbit := z_bit (n := y) (i := t) (by omega) (by omega)
        have yes : z_and (z_shr (y : Int) (t : Int)) 1 = 1 → y.testBit t = true := fun q => by
          rw [hbit] at q
          cases hb : y.testBit t with
          | true => rfl
          | false =>
            rw [hb, if_neg (by simp)] at q
            cases q
        have nb : ¬ z_and (z_shr (y : Int) (t : Int)) 1 = 1 → y.testBit t = false := fun q => by
          rw [hbit] at q
          cases hb : y.testBit t with
          | false => rfl
          | true =>
            rw [hb, if_pos rfl] at q
            exact absurd rfl q
        refine zb282_14 hT rfl hB (by omega) (by omega) f6 (by omega) (fun q => by omega) (fun q => by omega) (fun q => by omega) (fun q => by omega) (fun _ q => ?_) (fun _ q _ => ?_) (fun _ q q2 _ => ?_) (fun _ q _ _ => ?_)
        · refine ih2 (t + 1) f (by omega) ?_
          rcases hf with ⟨h0, h1⟩ | h0
          · refine Or.inl ⟨h0, fun r hr => ?_⟩
            by_cases e : r = t
            · rw [e]
              exact nb q
            · exact h1 r (by omega)
          · exact Or.inr h0
        · exact ih2 (t + 1) _ (by omega) (Or.inr ⟨t, rfl, by omega, yes q⟩)
        · refine ih2 (t + 1) f (by omega) ?_
          rcases hf with ⟨h0, _⟩ | h0
          · exact absurd h0 q2
          · exact Or.inr h0
        · exact ih2 (t + 1) _ (by omega) (Or.inr ⟨t, rfl, by omega, yes q⟩)
    exact loop N 0 (-1) (by omega) (Or.inl ⟨rfl, fun q hq => by omega⟩)
end ZTimely
