/-! ready(): it ends, and leaves what matters. -/
noncomputable def popc (x : Nat) : Nat := (List.range 6).countP (fun i => x.testBit i)
theorem popc_low : ∀ x : Nat, x < 64 → ¬ x = 0 → popc (x &&& (x - 1)) < popc x := by decide +kernel
theorem popc_6 : ∀ x : Nat, x < 64 → popc x ≤ 6 := by decide +kernel
theorem ntz_n : ∀ x : Nat, x < 64 → ¬ x = 0 → z_and (z_xor (x : Int) (-1)) ((x : Int) - 1) = 0 ∨ z_and (z_xor (x : Int) (-1)) ((x : Int) - 1) = 1 ∨ z_and (z_xor (x : Int) (-1)) ((x : Int) - 1) = 3 ∨ z_and (z_xor (x : Int) (-1)) ((x : Int) - 1) = 7 ∨ z_and (z_xor (x : Int) (-1)) ((x : Int) - 1) = 15 ∨ z_and (z_xor (x : Int) (-1)) ((x : Int) - 1) = 31 := by decide +kernel
theorem ntz_b0 : ∀ n : Nat, n < 7 → ∀ x : Nat, x < 2 ^ n → ¬ x = 0 → z_and (z_xor (x : Int) (-1)) ((x : Int) - 1) = 0 → 1 ≤ n := by decide +kernel
theorem ntz_b1 : ∀ n : Nat, n < 7 → ∀ x : Nat, x < 2 ^ n → ¬ x = 0 → z_and (z_xor (x : Int) (-1)) ((x : Int) - 1) = 1 → 2 ≤ n := by decide +kernel
theorem ntz_b2 : ∀ n : Nat, n < 7 → ∀ x : Nat, x < 2 ^ n → ¬ x = 0 → z_and (z_xor (x : Int) (-1)) ((x : Int) - 1) = 3 → 3 ≤ n := by decide +kernel
theorem ntz_b3 : ∀ n : Nat, n < 7 → ∀ x : Nat, x < 2 ^ n → ¬ x = 0 → z_and (z_xor (x : Int) (-1)) ((x : Int) - 1) = 7 → 4 ≤ n := by decide +kernel
theorem ntz_b4 : ∀ n : Nat, n < 7 → ∀ x : Nat, x < 2 ^ n → ¬ x = 0 → z_and (z_xor (x : Int) (-1)) ((x : Int) - 1) = 15 → 5 ≤ n := by decide +kernel
theorem ntz_b5 : ∀ n : Nat, n < 7 → ∀ x : Nat, x < 2 ^ n → ¬ x = 0 → z_and (z_xor (x : Int) (-1)) ((x : Int) - 1) = 31 → 6 ≤ n := by decide +kernel
section ZReady
variable {T : Nat → Nat → zG → (Option zA → zM → Prop) → Prop} {B : Int}
theorem z_ntzP (hT : zRules T) {D : Nat} {κ : Option zA → zM → Prop} {m : zM} {x n : Nat} (hn : n ≤ 6) (hx : x < 2 ^ n) (h0 : ¬ x = 0) (hk : ∀ t : Nat, t < n → κ (some (zi (t : Int))) m) : T (D + 1) 292 (0, [(0, zi (x : Int))], [], m) κ := by
  have p6 : 2 ^ n ≤ 2 ^ 6 := Nat.pow_le_pow_right (by omega) (by omega)
  have h := zb292_0 (D := D) (κ := κ) (m := m) (x := x) hT (by omega)
  have e1 : z_ush 31 4 = 1 := by decide +kernel
  have go : ∀ L : Int, L < n → ∀ v : Int, 0 ≤ v → v ≤ L → κ (some (zi v)) m := fun L hL v h1 h2 => by
    have := hk v.toNat (by omega)
    rwa [Int.toNat_of_nonneg h1] at this
  rcases ntz_n x (by omega) h0 with e | e | e | e | e | e
  · have hh := ntz_b0 n (by omega) x hx h0 e
    rw [e] at h
    apply h
    all_goals (intros; first | omega | exact go 0 (by omega) _ (by decide +kernel) (by decide +kernel))
  · have hh := ntz_b1 n (by omega) x hx h0 e
    rw [e] at h
    apply h
    all_goals (intros; first | omega | exact go 1 (by omega) _ (by decide +kernel) (by decide +kernel))
  · have hh := ntz_b2 n (by omega) x hx h0 e
    rw [e] at h
    apply h
    all_goals (intros; first | omega | exact go 2 (by omega) _ (by decide +kernel) (by decide +kernel))
  · have hh := ntz_b3 n (by omega) x hx h0 e
    rw [e] at h
    apply h
    all_goals (intros; first | omega | exact go 3 (by omega) _ (by decide +kernel) (by decide +kernel))
  · have hh := ntz_b4 n (by omega) x hx h0 e
    rw [e] at h
    apply h
    all_goals (intros; first | omega | exact go 4 (by omega) _ (by decide +kernel) (by decide +kernel))
  · have hh := ntz_b5 n (by omega) x hx h0 e
    rw [e, e1] at h
    apply h
    all_goals (intros; first | omega | exact go 5 (by omega) _ (by decide +kernel) (by decide +kernel))
theorem z_canReady (hT : zRules T) {m : zM} {sc : zSc} {n k : Nat} (hI : Inv B sc n k m) : ∀ (j : Nat) (D : Nat) (κ : Option zA → zM → Prop) (M : zM) (x u : Nat), popc x ≤ j → x < 2 ^ n → u ≤ 255 → zB M → Agree coreK m M →
    (∀ v M1, (0 ≤ v ∧ v ≤ 1) → zB M1 → Agree coreK m M1 → κ (some (zi v)) M1) → T (D + j + 172) 265 (0, [(0, zr 74), (1, zi (x : Int)), (2, zi (u : Int))], [], M) κ := by
  have i1 := hI.1
  have h4 := hI.2.2.2.1
  have b17 : 0 ≤ m 17 0 ∧ m 17 0 ≤ 6 := i1 17 0
  have b171 : 0 ≤ m 17 1 ∧ m 17 1 ≤ 8 := i1 17 1
  have n1 := h4.1.1
  have k1 := h4.2.1.1
  have k2 := h4.2.1.2
  have p6 : 2 ^ n ≤ 2 ^ 6 := Nat.pow_le_pow_right (by omega) (by omega)
  intro j
  induction j with
  | zero =>
    intro D κ M x u hx hxn hu hBM hA hk
    have x0 : x = 0 := by
      by_cases e : x = 0
      · exact e
      · have := popc_low x (by omega) e
        omega
    subst x0
    exact zb265_0 (D := D + 170) hT hBM (by omega) hu (fun q => absurd rfl q) (fun _ => hk 1 M (by omega) hBM hA)
  | succ j ih =>
    intro D κ M x u hx hxn hu hBM hA hk
    by_cases x0 : x = 0
    · subst x0
      exact zb265_0 (D := D + j + 171) hT hBM (by omega) hu (fun q => absurd rfl q) (fun _ => hk 1 M (by omega) hBM hA)
    refine zb265_0 (D := D + j + 171) hT hBM (by omega) hu (fun _ => ?_) (fun q => by omega)
    refine z_ntzP (D := D + j + 171) (n := n) hT (by omega) hxn x0 (fun t ht => ?_)
    refine zb265_10 (D := D + j + 171) hT rfl hBM (by omega) hu (by omega) ?_
    have loop : ∀ (i c : Nat) (M : zM), c + i = k → zB M → Agree coreK m M → T (D + j + 173) 265 (14, [(0, zr 74), (1, zi (x : Int)), (2, zi (u : Int)), (3, zi (t : Int)), (4, zi (c : Int))], [], M) κ := by
      intro i
      induction i with
      | zero =>
        intro c M hc hBM hA
        have e6 : M 74 6 = (k : Int) := (hA 74 6 rfl).trans k2
        exact zb265_14 (D := D + j + 171) hT rfl hBM (by omega) hu (by omega) (by omega) (fun _ => hk 0 M (by omega) hBM hA) (fun q => by omega) (fun q => by omega)
      | succ i ih2 =>
        intro c M hc hBM hA
        have e6 : M 74 6 = (k : Int) := (hA 74 6 rfl).trans k2
        have b12 : -1 ≤ M 75 (c + 12) ∧ M 75 (c + 12) ≤ 99 := zSg hBM 75 12 20 (-1) 99 rfl (c + 12) (by omega) (by omega)
        have bpl := (h4.2.2.2.2.1 t (by omega)).1
        obtain ⟨pl, hpl⟩ : ∃ pl : Nat, m 75 t = (pl : Int) := ⟨(m 75 t).toNat, by omega⟩
        refine zb265_14 (D := D + j + 171) hT rfl hBM (by omega) hu (by omega) (by omega) (fun q => by omega) (fun _ _ => ?_) (fun _ _ => ih2 (c + 1) M (by omega) hBM hA)
        refine z_lawInF (d := 0) (pl := pl) (D := D + j + 1) hT hI hBM (hA.sub (fun q hq => List.mem_append.mpr (Or.inr (List.mem_append.mpr (Or.inl hq))))) (funext fun j => hA 78 j rfl) (hA 75 57 rfl) (by omega) ((hA 75 t rfl).trans hpl) (by omega) (fun M1 hB1 hF1 => ?_)
        have hA1 : Agree coreK m M1 := hA.trans (.of hF1 rfl)
        refine zb265_48 (D := D + j + 171) hT rfl hB1 (by omega) hu (by omega) (by omega) b12 laFB (fun _ => ih2 (c + 1) M1 (by omega) hB1 hA1) (fun _ => ?_)
        have en : z_and (x : Int) ((x : Int) - 1) = ((x &&& (x - 1) : Nat) : Int) := by
          rw [show (x : Int) - 1 = ((x - 1 : Nat) : Int) by omega, z_andN (by omega) (by omega)]
        have eo : z_or (u : Int) (z_shl 1 (c : Int)) = ((u ||| 2 ^ c : Nat) : Int) := by
          have p8 : 2 ^ c ≤ 2 ^ 8 := Nat.pow_le_pow_right (by omega) (by omega)
          rw [z_shl1T c (by omega), z_orN (by omega) (by omega)]
        have ho : u ||| 2 ^ c < 2 ^ 8 := Nat.or_lt_two_pow (by omega) (Nat.pow_lt_pow_right (by omega) (by omega))
        have hl : x &&& (x - 1) ≤ x := Nat.and_le_left
        have hp := popc_low x (by omega) x0
        rw [en, eo]
        refine ih D _ M1 (x &&& (x - 1)) (u ||| 2 ^ c) (by omega) (by omega) (by omega) hB1 hA1 (fun v M2 hv hB2 hA2 => ?_)
        exact zb265_66 (D := D + j + 171) hT rfl hB2 (by omega) hu (by omega) (by omega) hv (fun _ => ih2 (c + 1) M2 (by omega) hB2 hA2) (fun _ => hk 1 M2 (by omega) hB2 hA2)
    exact loop k 0 M (by omega) hBM hA
end ZReady
