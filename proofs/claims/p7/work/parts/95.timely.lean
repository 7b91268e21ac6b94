/-! timely(): it ends, and leaves what matters. -/
noncomputable def popc7 (x : Nat) : Nat := (List.range 7).countP (fun i => x.testBit i)
theorem popc7_7 : ∀ x : Nat, x < 128 → popc7 x ≤ 7 := by decide +kernel
theorem popc7_no : ∀ x : Nat, x < 128 → popc7 x = 0 → x = 0 := by decide +kernel
theorem clr_v : ∀ f : Nat, f < 7 → ∀ x : Nat, x < 128 → z_and (x : Int) (z_xor (z_shl 1 (f : Int)) (-1)) = ((x &&& (127 - 2 ^ f) : Nat) : Int) := by decide +kernel
theorem clr_p : ∀ f : Nat, f < 7 → ∀ x : Nat, x < 128 → x.testBit f = true → popc7 (x &&& (127 - 2 ^ f)) < popc7 x := by decide +kernel
section ZTimely
variable {T : Nat → Nat → zG → (Option zA → zM → Prop) → Prop} {B : Int}
theorem z_hoursOf0 (hT : zRules T) {D : Nat} {κ : Option zA → zM → Prop} {m : zM} {x N : Nat} (hB : zB m) (hN : m 64 2 = (N : Int)) (hx : x ≤ 127) (hk : ∀ h : Int, (0 ≤ h ∧ h ≤ 140) → κ (some (zi h)) m) : T (D + 2) 98 (0, [(0, zr 64), (1, zi (x : Int))], [], m) κ := by
  have b64 : 0 ≤ m 64 2 ∧ m 64 2 ≤ 7 := hB 64 2
  have key : ∀ (j t : Nat) (h : Int), t + j = N → (0 ≤ h ∧ h ≤ 20 * t) → T (D + 2) 98 (4, [(0, zr 64), (1, zi (x : Int)), (2, zi h), (3, zi (t : Int))], [], m) κ := by
    intro j
    induction j with
    | zero =>
      intro t h ht hh
      exact zb98_4 hT rfl hB hx (by omega) (by omega) (fun _ => hk h (by omega)) (fun q => by omega)
    | succ j ih =>
      intro t h ht hh
      have b65 : 0 ≤ m 65 t ∧ m 65 t ≤ 20 := hB 65 t
      refine zb98_4 hT rfl hB hx (by omega) (by omega) (fun q => by omega) (fun _ => ?_)
      rw [z_bit (by omega) (by omega)]
      by_cases e : x.testBit t = true
      · rw [if_pos e, Int.one_mul]
        exact ih (t + 1) _ (by omega) (by omega)
      · rw [if_neg e, Int.zero_mul, Int.add_zero]
        exact ih (t + 1) _ (by omega) (by omega)
  exact zb98_0 hT hB hx (key N 0 0 (by omega) (by omega))
theorem z_canBe0 (hT : zRules T) {D : Nat} {κ : Option zA → zM → Prop} {m : zM} {x N : Nat} (hB : zB m) (hN : m 64 2 = (N : Int)) (hx : x ≤ 127) (hk : ∀ v : Int, (0 ≤ v ∧ v ≤ 1) → κ (some (zi v)) m) : T (D + 3) 103 (0, [(0, zr 64), (1, zi (x : Int))], [], m) κ := by
  have b64 : 0 ≤ m 64 2 ∧ m 64 2 ≤ 7 := hB 64 2
  refine zb103_0 hT hB hx ?_
  refine z_hoursOf0 hT hB hN hx (fun h hh => ?_)
  refine zb103_5 hT rfl hB hx (by omega) ?_
  have key : ∀ (j t : Nat), t + j = N → T (D + 3) 103 (8, [(0, zr 64), (1, zi (x : Int)), (2, zi h), (3, zi (t : Int))], [], m) κ := by
    intro j
    induction j with
    | zero =>
      intro t ht
      exact zb103_8 hT rfl hB hx (by omega) (by omega) (fun _ => hk 0 (by omega)) (fun q => by omega) (fun q => by omega) (fun q => by omega) (fun q => by omega) (fun q => by omega)
    | succ j ih =>
      intro t ht
      refine zb103_8 hT rfl hB hx (by omega) (by omega) (fun q => by omega) (fun _ _ => ih (t + 1) (by omega)) (fun _ _ _ => ih (t + 1) (by omega)) (fun _ _ _ => ?_) (fun _ _ _ _ => ih (t + 1) (by omega)) (fun _ _ _ _ => hk 1 (by omega))
      have hl : x &&& (127 - 2 ^ t) ≤ x := Nat.and_le_left
      rw [clr_v t (by omega) x (by omega)]
      omega
  exact key N 0 (by omega)
theorem z_isTimely0 (hT : zRules T) {N : Nat} : ∀ (j : Nat) (D : Nat) (κ : Option zA → zM → Prop) (m : zM) (y : Nat) (s : Int), zB m → m 74 54 = (N : Int) → N ≤ 7 → y < 2 ^ N → popc7 y ≤ j → (0 ≤ s ∧ s + 99 * j ≤ 693) → (∀ v : Int, (0 ≤ v ∧ v ≤ 1) → κ (some (zi v)) m) →
    T (D + 2) 282 (4, [(0, zr 74), (2, zi s), (3, zi (y : Int))], [], m) κ := by
  intro j
  induction j with
  | zero =>
    intro D κ m y s hB hN hN7 hy hp hs hk
    have p7 : 2 ^ N ≤ 2 ^ 7 := Nat.pow_le_pow_right (by omega) hN7
    have y0 := popc7_no y (by omega) (by omega)
    exact zb282_4 hT rfl hB (by omega) (by omega) (fun _ => hk 1 (by omega)) (fun q => by omega)
  | succ j ih =>
    intro D κ m y s hB hN hN7 hy hp hs hk
    have p7 : 2 ^ N ≤ 2 ^ 7 := Nat.pow_le_pow_right (by omega) hN7
    refine zb282_4 hT rfl hB (by omega) (by omega) (fun _ => hk 1 (by omega)) (fun y0 => ?_)
    have loop : ∀ (i t : Nat) (f : Int), t + i = N → ((f = -1 ∧ ∀ q, q < t → y.testBit q = false) ∨ ∃ g : Nat, f = (g : Int) ∧ g < 7 ∧ y.testBit g = true) → T (D + 2) 282 (14, [(0, zr 74), (2, zi s), (3, zi (y : Int)), (4, zi f), (5, zi (t : Int))], [], m) κ := by
      intro i
      induction i with
      | zero =>
        intro t f ht hf
        have hg : ∃ g : Nat, f = (g : Int) ∧ g < 7 ∧ y.testBit g = true := by
          rcases hf with ⟨_, h0⟩ | h0
          · exfalso
            obtain ⟨q, hq⟩ := Nat.exists_testBit_of_ne_zero (show y ≠ 0 by omega)
            have h1 := Nat.ge_two_pow_of_testBit hq
            have h2 : q < N := (Nat.pow_lt_pow_iff_right (a := 2) (by omega)).mp (by omega)
            rw [h0 q (by omega)] at hq
            cases hq
          · exact h0
        obtain ⟨g, rfl, g7, gb⟩ := hg
        have e2 : (2 * (g : Int)).toNat = 2 * g := by omega
        have b100 : 0 ≤ m 100 (2 * g) ∧ m 100 (2 * g) ≤ 99 := hB 100 (2 * g)
        have hc := clr_p g g7 y (by omega) gb
        have hl : y &&& (127 - 2 ^ g) ≤ y := Nat.and_le_left
        refine zb282_14 hT rfl hB (by omega) (by omega) (by omega) (by omega) (fun _ => by omega) (fun _ => by omega) (fun _ _ => ?_) (fun _ _ => hk 0 (by omega)) (fun q => by omega) (fun q => by omega) (fun q => by omega) (fun q => by omega)
        rw [e2, clr_v g g7 y (by omega)]
        exact ih D κ m _ _ hB hN hN7 (by omega) (by omega) (by omega) hk
      | succ i ih2 =>
        intro t f ht hf
        have f6 : -1 ≤ f ∧ f ≤ 6 := by
          rcases hf with ⟨h0, _⟩ | ⟨g, h0, h1, _⟩
          · omega
          · omega
        have hbit := z_bit (n := y) (i := t) (by omega) (by omega)
        have yes : z_and (z_shr (y : Int) (t : Int)) 1 = 1 → y.testBit t = true := fun q => by
          rw [hbit] at q
          cases hb : y.testBit t with
          | true => rfl
          | false =>
            rw [hb, if_neg (by simp)] at q
            cases q
        have nb : ¬ z_and (z_shr (y : Int) (t : Int)) 1 = 1 → y.testBit t = false := fun q => by
          rw [hbit] at q
          cases hb : y.testBit t with
          | false => rfl
          | true =>
            rw [hb, if_pos rfl] at q
            exact absurd rfl q
        refine zb282_14 hT rfl hB (by omega) (by omega) f6 (by omega) (fun q => by omega) (fun q => by omega) (fun q => by omega) (fun q => by omega) (fun _ q => ?_) (fun _ q _ => ?_) (fun _ q q2 _ => ?_) (fun _ q _ _ => ?_)
        · refine ih2 (t + 1) f (by omega) ?_
          rcases hf with ⟨h0, h1⟩ | h0
          · refine Or.inl ⟨h0, fun r hr => ?_⟩
            by_cases e : r = t
            · rw [e]
              exact nb q
            · exact h1 r (by omega)
          · exact Or.inr h0
        · exact ih2 (t + 1) _ (by omega) (Or.inr ⟨t, rfl, by omega, yes q⟩)
        · refine ih2 (t + 1) f (by omega) ?_
          rcases hf with ⟨h0, _⟩ | h0
          · exact absurd h0 q2
          · exact Or.inr h0
        · exact ih2 (t + 1) _ (by omega) (Or.inr ⟨t, rfl, by omega, yes q⟩)
    exact loop N 0 (-1) (by omega) (Or.inl ⟨rfl, fun q hq => by omega⟩)
theorem w_timely0 (hT : zRules T) : Way T 156 283 [(0, zr 1)] [(0, zr 74)] 5 3 B B False := by
  rintro D m sc ⟨n, k, hI⟩ κ hκ
  have hI0 := hI
  obtain ⟨i1, i2, i3, i4, i5, i6, i7, i8, i9, i10, i11⟩ := hI
  have b64 : 0 ≤ m 64 2 ∧ m 64 2 ≤ 7 := i1 64 2
  obtain ⟨N, hN⟩ : ∃ N : Nat, m 64 2 = (N : Int) := ⟨(m 64 2).toNat, by omega⟩
  have p7 : 2 ^ N ≤ 2 ^ 7 := Nat.pow_le_pow_right (by omega) (by omega)
  have p1 : 1 ≤ 2 ^ N := Nat.one_le_two_pow
  have ref : ∀ (r : Option zA) (M0 : zM), zB M0 → Agree coreK m M0 → κ r M0 := by
    intro r M0 hB0 hA0
    refine hκ _ _ (fun D2 κ2 h2 => ?_)
    have fin : ∀ r2 M1, zB M1 → Agree coreK m M1 → κ2 r2 M1 := fun r2 M1 hB1 hA1 => h2 _ _ (fun x => x.elim) ⟨n, k, Inv_fr hA1 hB1 hI0⟩
    refine zb283_0 hT hB0 (fun hz => ?_)
    have hA : Agree coreK m (zu M0 74 12 0) := hA0.trans (.of (L := [(74, some 12)]) (zFr.refl.set rfl) rfl)
    generalize zu M0 74 12 0 = M at hz hA ⊢
    have e54 : M 74 54 = (N : Int) := by rw [hA 74 54 rfl, i9.1, hN]
    have e4 : z_shl 1 (M 74 54) = ((2 ^ N : Nat) : Int) := by rw [e54, z_shl1T N (by omega)]
    have loop : ∀ (j x b : Nat), x + j = 2 ^ N → b ≤ 127 → T (D2 + 3) 283 (9, [(0, zr 74), (1, zi (b : Int)), (2, zi (x : Int))], [], M) κ2 := by
      intro j
      induction j with
      | zero =>
        intro x b hx hb
        generalize 2 ^ N = P at p7 hx e4
        refine zb283_9 hT rfl hz hb (by omega) (fun _ hz2 => ?_) (fun q => by omega)
        refine zb293_0 (D := D2 + 1) hT (by omega) ?_
        exact zb283_60 hT rfl (z_andB _ _) (fin _ _ hz2 (hA.trans (.of (L := [(74, some 11), (81, none)]) (((zFr.refl.set rfl).set rfl).set rfl) rfl)))
      | succ j ih =>
        intro x b hx hb
        have hxn : x < 2 ^ N := by omega
        have hx63 : x ≤ 127 := by omega
        have hlt : (x : Int) < z_shl 1 (M 74 54) := by
          rw [e4]
          exact Int.ofNat_lt.mpr hxn
        have nx := fun b hb => ih (x + 1) b (by omega) hb
        refine zb283_9 hT rfl hz hb (by omega) (fun q => absurd hlt q) (fun _ => ?_)
        refine zb293_0 (D := D2 + 1) hT (by omega) ?_
        refine zb283_23 hT rfl hz hb hx63 (z_andB _ _) ?_
        refine zb293_0 (D := D2 + 1) hT (by omega) ?_
        refine zb283_27 hT rfl hz hb hx63 (z_andB _ _) (z_andB _ _) (fun _ => nx b hb) (fun _ => ?_)
        refine zb282_0 hT hz hx63 ?_
        refine z_isTimely0 hT 7 D2 _ M x 0 hz e54 (by omega) hxn (popc7_7 x (by omega)) (by omega) (fun v hv => ?_)
        exact zb283_35 hT rfl hz hb hx63 hv (fun _ => nx b hb) (fun _ => nx x hx63)
    exact loop (2 ^ N - 1) 1 0 (by omega) (by omega)
  have loop : ∀ (j x b : Nat) (M : zM), x + j = 2 ^ N → b ≤ 127 → zB M → zFr (inL [(71, none)]) m M → T (D + 4) 102 (11, [(0, zr 64), (1, zi (b : Int)), (2, zi (x : Int))], [], M) (fun r m1 => T (D + 5) 156 (7, [(0, zr 1)], r.toList ++ [], m1) κ) := by
    intro j
    induction j with
    | zero =>
      intro x b M hx hb hBM hF
      have e4 : z_shl 1 (M 64 2) = ((2 ^ N : Nat) : Int) := by rw [hF 64 2 rfl, hN, z_shl1T N (by omega)]
      generalize 2 ^ N = P at p7 hx e4
      refine zb102_11 hT rfl hBM hb (by omega) (fun _ => ?_) (fun q => by omega)
      refine zb156_7 hT rfl hBM hb (fun hz => ?_)
      refine zb293_0 (D := D + 3) hT (by omega) ?_
      exact zb156_20 hT rfl (z_andB _ _) (ref _ _ hz ((Agree.of hF rfl).trans (.of (L := [(72, some 1), (73, none)]) ((zFr.refl.set rfl).set rfl) rfl)))
    | succ j ih =>
      intro x b M hx hb hBM hF
      have hxn : x < 2 ^ N := by omega
      have hx63 : x ≤ 127 := by omega
      have e64 : M 64 2 = (N : Int) := (hF 64 2 rfl).trans hN
      have hlt : (x : Int) < z_shl 1 (M 64 2) := by
        rw [e64, z_shl1T N (by omega)]
        exact Int.ofNat_lt.mpr hxn
      refine zb102_11 hT rfl hBM hb (by omega) (fun q => absurd hlt q) (fun _ => ?_)
      refine z_canBe0 (D := D) hT hBM e64 hx63 (fun v hv => ?_)
      refine zb102_31 hT rfl hBM hb hx63 hv ?_ ?_
      · exact fun _ hz => ih (x + 1) b _ (by omega) hb hz (hF.set rfl)
      · intro _ hz
        refine zb293_0 (D := D + 2) hT (by omega) ?_
        refine zb102_45 hT rfl hz hb hx63 (z_andB _ _) ?_
        refine zb293_0 (D := D + 2) hT (by omega) ?_
        exact zb102_49 hT rfl hz hb hx63 (z_andB _ _) (z_andB _ _) (fun _ => ih (x + 1) b _ (by omega) hb hz (hF.set rfl)) (fun _ => ih (x + 1) x _ (by omega) hx63 hz (hF.set rfl))
  refine zb156_0 hT i1 ?_
  exact zb102_0 hT i1 (fun hz => loop (2 ^ N - 1) 1 0 _ (by omega) (by omega) hz (zFr.refl.set rfl))
end ZTimely
