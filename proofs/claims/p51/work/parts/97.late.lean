/-! late(): it ends, and leaves what matters. -/
theorem set_p : ∀ f : Nat, f < 7 → ∀ x : Nat, x < 128 → x.testBit f = false → popc7 (x ||| 2 ^ f) = popc7 x + 1 := by decide +kernel
theorem full_p : ∀ N : Nat, N < 8 → ∀ x : Nat, x < 128 → (∀ q, q < N → x.testBit q = true) → N ≤ popc7 x := by decide +kernel
theorem bit_no {x t : Nat} (hx : x < 128) (ht : t ≤ 7) (q : z_and (z_shr (x : Int) (t : Int)) 1 = 0) : x.testBit t = false := by
  rw [z_bit (by omega) (by omega)] at q
  cases hb : x.testBit t with
  | false => rfl
  | true =>
    rw [hb, if_pos rfl] at q
    cases q
theorem bit_yes {x t : Nat} (hx : x < 128) (ht : t ≤ 7) (q : ¬ z_and (z_shr (x : Int) (t : Int)) 1 = 0) : x.testBit t = true := by
  rw [z_bit (by omega) (by omega)] at q
  cases hb : x.testBit t with
  | true => rfl
  | false =>
    rw [hb, if_neg (by simp)] at q
    exact absurd rfl q
section ZLate
variable {T : Nat → Nat → zG → (Option zA → zM → Prop) → Prop} {B : Int}
theorem orB {x f : Nat} (hx : x < 128) (hf : f < 7) : z_or (x : Int) (z_shl 1 (f : Int)) = ((x ||| 2 ^ f : Nat) : Int) ∧ x ||| 2 ^ f < 128 := by
  have p : 2 ^ f ≤ 2 ^ 6 := Nat.pow_le_pow_right (by omega) (by omega)
  refine ⟨?_, Nat.or_lt_two_pow (n := 7) hx (by omega)⟩
  rw [z_shl1T f (by omega), z_orN (by omega) (by omega)]
theorem z_lateWith0 (hT : zRules T) {D : Nat} {κ : Option zA → zM → Prop} {m : zM} {x : Nat} {h f : Int} (hB : zB m) (hx : x ≤ 127) (hh : 0 ≤ h ∧ h ≤ 140) (hf : -1 ≤ f ∧ f ≤ 6) (hk : ∀ v : Int, isI v → κ (some (zi v)) m) : T (D + 2) 100 (0, [(0, zr 64), (1, zi (x : Int)), (2, zi h), (3, zi f)], [], m) κ := by
  have bd : ¬ f < 0 → 0 ≤ z_or (x : Int) (z_shl 1 f) ∧ z_or (x : Int) (z_shl 1 f) < 128 := fun q => by
    obtain ⟨g, rfl⟩ : ∃ g : Nat, f = (g : Int) := ⟨f.toNat, by omega⟩
    obtain ⟨e1, e2⟩ := orB (x := x) (f := g) (by omega) (by omega)
    rw [e1]
    omega
  exact zb100_0 hT hB hx hh hf (fun _ => hk 0 (by unfold isI; omega)) (fun q _ _ => bd q) (fun _ _ _ => hk _ (wrB _)) (fun q _ _ => bd q) (fun _ _ _ => hk _ (wrB _)) (fun _ _ => hk 0 (by unfold isI; omega))
theorem z_firstLL0 (hT : zRules T) {D : Nat} {κ : Option zA → zM → Prop} {m : zM} {x N : Nat} {h : Int} (hB : zB m) (hN : m 64 2 = (N : Int)) (hx : x ≤ 127) (hh : 0 ≤ h ∧ h ≤ 140)
    (hk : ∀ f : Int, ((f = -1 ∧ ∀ q, q < N → x.testBit q = true) ∨ ∃ g : Nat, f = (g : Int) ∧ g < N ∧ x.testBit g = false) → κ (some (zi f)) m) : T (D + 3) 101 (0, [(0, zr 64), (1, zi (x : Int)), (2, zi h)], [], m) κ := by
  have b64 : 0 ≤ m 64 2 ∧ m 64 2 ≤ 7 := hB 64 2
  have key : ∀ (j t : Nat) (f b : Int), t + j = N → isI b → ((f = -1 ∧ ∀ q, q < t → x.testBit q = true) ∨ ∃ g : Nat, f = (g : Int) ∧ g < N ∧ x.testBit g = false) → T (D + 3) 101 (8, [(0, zr 64), (1, zi (x : Int)), (2, zi h), (3, zi f), (4, zi b), (5, zi (t : Int))], [], m) κ := by
    intro j
    induction j with
    | zero =>
      intro t f b ht hb hf
      have et : t = N := by omega
      subst et
      have f6 : -1 ≤ f ∧ f ≤ 6 := by
        rcases hf with ⟨h0, _⟩ | ⟨g, h0, h1, _⟩
        · omega
        · omega
      exact zb101_8 hT rfl hB hx hh f6 hb (by omega) (fun _ => hk f hf) (fun q => by omega) (fun q => by omega)
    | succ j ih =>
      intro t f b ht hb hf
      have f6 : -1 ≤ f ∧ f ≤ 6 := by
        rcases hf with ⟨h0, _⟩ | ⟨g, h0, h1, _⟩
        · omega
        · omega
      refine zb101_8 hT rfl hB hx hh f6 hb (by omega) (fun q => by omega) (fun _ q => ?_) (fun _ q => ?_)
      · refine ih (t + 1) f b (by omega) hb ?_
        rcases hf with ⟨h0, h1⟩ | h0
        · refine Or.inl ⟨h0, fun r hr => ?_⟩
          by_cases e : r = t
          · rw [e]
            exact bit_yes (by omega) (by omega) q
          · exact h1 r (by omega)
        · exact Or.inr h0
      · refine z_lateWith0 hT hB hx hh (by omega) (fun v hv => ?_)
        have nx : ∀ b2 : Int, isI b2 → T (D + 3) 101 (8, [(0, zr 64), (1, zi (x : Int)), (2, zi h), (3, zi (t : Int)), (4, zi b2), (5, zi ((t : Int) + 1))], [], m) κ := fun b2 hb2 => ih (t + 1) (t : Int) b2 (by omega) hb2 (Or.inr ⟨t, rfl, by omega, bit_no (by omega) (by omega) q⟩)
        refine zb101_34 hT rfl hB hx hh f6 hb (by omega) hv (fun _ => nx v hv) (fun q2 _ => ?_) (fun _ _ => nx v hv)
        refine ih (t + 1) f b (by omega) hb ?_
        rcases hf with ⟨h0, _⟩ | h0
        · exact absurd h0 q2
        · exact Or.inr h0
  exact zb101_0 hT hB hx hh (key N 0 (-1) 0 (by omega) (by unfold isI; omega) (Or.inl ⟨rfl, fun q hq => by omega⟩))
theorem z_orderLL0 (hT : zRules T) {D : Nat} {κ : Option zA → zM → Prop} {m : zM} (hB : zB m) (hk : ∀ v M, isI v → zB M → zFr (inL [(67, none), (70, none)]) m M → κ (some (zi v)) M) : T (D + 4) 99 (0, [(0, zr 64)], [], m) κ := by
  have b64 : 0 ≤ m 64 2 ∧ m 64 2 ≤ 7 := hB 64 2
  obtain ⟨N, hN⟩ : ∃ N : Nat, m 64 2 = (N : Int) := ⟨(m 64 2).toNat, by omega⟩
  have p7 : 2 ^ N ≤ 2 ^ 7 := Nat.pow_le_pow_right (by omega) (by omega)
  have p1 : 1 ≤ 2 ^ N := Nat.one_le_two_pow
  have second : ∀ (j t x : Nat) (M : zM), t + j = N → x < 128 → popc7 x = t → zB M → zFr (inL [(67, none), (70, none)]) m M → T (D + 4) 99 (58, [(0, zr 64), (2, zi (x : Int)), (3, zi (t : Int))], [], M) κ := by
    intro j
    induction j with
    | zero =>
      intro t x M ht hx hp hBM hF
      have e64 : M 64 2 = (N : Int) := (hF 64 2 rfl).trans hN
      exact zb99_58 hT rfl hBM (by omega) (by omega) (fun _ => hk _ M (wrB _) hBM hF) (fun q => by omega)
    | succ j ih =>
      intro t x M ht hx hp hBM hF
      have e64 : M 64 2 = (N : Int) := (hF 64 2 rfl).trans hN
      refine zb99_58 hT rfl hBM (by omega) (by omega) (fun q => by omega) (fun _ => ?_)
      refine z_hoursOf0 (D := D + 1) hT hBM e64 (by omega) (fun h hh => ?_)
      refine zb99_78 hT rfl hBM (by omega) (by omega) hh ?_
      refine z_firstLL0 (D := D) hT hBM e64 (by omega) hh (fun f hf => ?_)
      have hg : ∃ g : Nat, f = (g : Int) ∧ g < N ∧ x.testBit g = false := by
        rcases hf with ⟨_, h1⟩ | h0
        · have := full_p N (by omega) x hx h1
          omega
        · exact h0
      obtain ⟨g, rfl, g7, gb⟩ := hg
      refine zb99_81 hT rfl hBM (by omega) (by omega) (by omega) (fun hz => ?_)
      obtain ⟨e1, e2⟩ := orB (x := x) (f := g) (by omega) (by omega)
      rw [e1]
      exact ih (t + 1) _ _ (by omega) e2 (by rw [set_p g (by omega) x hx gb, hp]) hz (hF.set rfl)
  have first : ∀ (j : Nat) (M : zM), j < 2 ^ N → zB M → zFr (inL [(67, none), (70, none)]) m M → T (D + 4) 99 (20, [(0, zr 64), (2, zi ((j : Int) - 1))], [], M) κ := by
    intro j
    induction j with
    | zero =>
      intro M hj hBM hF
      exact zb99_20 hT rfl hBM (by omega) (fun _ => second N 0 0 M (by omega) (by omega) (by decide) hBM hF) (fun q => by omega)
    | succ j ih =>
      intro M hj hBM hF
      have e64 : M 64 2 = (N : Int) := (hF 64 2 rfl).trans hN
      rw [show ((j + 1 : Nat) : Int) - 1 = (j : Int) by omega]
      refine zb99_20 hT rfl hBM (by omega) (fun q => by omega) (fun _ => ?_)
      refine z_hoursOf0 (D := D + 1) hT hBM e64 (by omega) (fun h hh => ?_)
      refine zb99_29 hT rfl hBM (by omega) hh ?_
      refine z_firstLL0 (D := D) hT hBM e64 (by omega) hh (fun f hf => ?_)
      have f6 : -1 ≤ f ∧ f ≤ 6 := by
        rcases hf with ⟨h0, _⟩ | ⟨g, h0, h1, _⟩
        · omega
        · omega
      refine zb99_44 hT rfl hBM (by omega) hh f6 ?_
      refine z_lateWith0 (D := D + 1) hT hBM (by omega) hh f6 (fun v hv => ?_)
      refine zb99_47 hT rfl hBM (by omega) hh hv (fun hz => ?_)
      exact ih _ (by omega) hz (hF.set rfl)
  have es : z_shl 1 (m 64 2) = ((2 ^ N : Nat) : Int) := by rw [hN, z_shl1T N (by omega)]
  have ew : wr (((2 ^ N : Nat) : Int) - 1) = ((2 ^ N : Nat) : Int) - 1 := by
    generalize 2 ^ N = P at p7 p1
    exact wr_id (by omega) (by omega)
  refine zb99_0 hT hB ?_ ?_
  · rw [es, ew]
    generalize 2 ^ N = P at p7 p1
    omega
  · intro hz
    rw [es] at hz ⊢
    have h1 := first (2 ^ N - 1) _ (by omega) hz (zFr.refl.set rfl)
    rw [show ((2 ^ N - 1 : Nat) : Int) - 1 = ((2 ^ N : Nat) : Int) - 1 - 1 by
      generalize 2 ^ N = P at p7 p1
      omega] at h1
    exact h1
noncomputable def goL : zLs := [(74, some 57), (101, none), (102, none)]
theorem z_goOrder0 (hT : zRules T) {N : Nat} (hN7 : N ≤ 7) : ∀ (j : Nat) (D : Nat) (κ : Option zA → zM → Prop) (m : zM) (k x : Nat) (s t : Int), zB m → m 74 54 = (N : Int) → k + j = N → x < 128 → (0 ≤ s ∧ s ≤ 99 * k) → (0 ≤ t ∧ t ≤ 693 * k) → (∀ M, zB M → zFr (inL goL) m M → κ none M) →
    T (D + j + 1) 280 (0, [(0, zr 74), (1, zi (k : Int)), (2, zi (x : Int)), (3, zi s), (4, zi t)], [], m) κ := by
  intro j
  induction j with
  | zero =>
    intro D κ m k x s t hB hN hkj hx hs ht hk
    refine zb280_0 (D := D) hT hB (by omega) (by omega) (by omega) (by omega) (fun _ q => by omega) (fun _ _ hz => ?_) (fun _ => hk m hB zFr.refl)
    have key : ∀ (i c : Nat) (M : zM), c + i = k → zB M → zFr (inL goL) m M → T (D + 1) 280 (27, [(0, zr 74), (1, zi (k : Int)), (5, zi (c : Int))], [], M) κ := by
      intro i
      induction i with
      | zero =>
        intro c M hc hBM hF
        exact zb280_27 (D := D) hT rfl hBM (by omega) (by omega) (fun _ => hk M hBM hF) (fun q => by omega)
      | succ i ih =>
        intro c M hc hBM hF
        exact zb280_27 (D := D) hT rfl hBM (by omega) (by omega) (fun q => by omega) (fun _ hz2 => ih (c + 1) _ (by omega) hz2 (hF.set rfl))
    exact key k 0 _ (by omega) hz (zFr.refl.set rfl)
  | succ j ih =>
    intro D κ m k x s t hB hN hkj hx hs ht hk
    have loop : ∀ (i c : Nat) (M : zM), c + i = N → zB M → zFr (inL goL) m M → T (D + (j + 1) + 1) 280 (57, [(0, zr 74), (1, zi (k : Int)), (2, zi (x : Int)), (3, zi s), (4, zi t), (5, zi (c : Int))], [], M) κ := by
      intro i
      induction i with
      | zero =>
        intro c M hc hBM hF
        have e54 : M 74 54 = (N : Int) := (hF 74 54 rfl).trans hN
        exact zb280_57 (D := D + j + 1) hT rfl hBM (by omega) (by omega) (by omega) (by omega) (by omega) (fun _ => hk M hBM hF) (fun q => by omega) (fun q => by omega) (fun q => by omega)
      | succ i ih2 =>
        intro c M hc hBM hF
        have e54 : M 74 54 = (N : Int) := (hF 74 54 rfl).trans hN
        have b0 : 0 ≤ M 100 (2 * c) ∧ M 100 (2 * c) ≤ 99 := hBM 100 (2 * c)
        have b1 : 0 ≤ M 100 (2 * c + 1) ∧ M 100 (2 * c + 1) ≤ 99 := hBM 100 (2 * c + 1)
        obtain ⟨e1, e2⟩ := orB (x := x) (f := c) hx (by omega)
        have go : ∀ t2 : Int, (0 ≤ t2 ∧ t2 ≤ 693 * ((k + 1 : Nat) : Int)) → zB (zu M 101 k (c : Int)) → T (D + j + 1) 280 (0, [(0, zr 74), (1, zi ((k : Int) + 1)), (2, zi (z_or (x : Int) (z_shl 1 (c : Int)))), (3, zi (s + (M 100 (2 * c)))), (4, zi t2)], [], (zu M 101 k (c : Int))) (fun r m1 => T (D + (j + 1) + 1) 280 (135, [(0, zr 74), (1, zi (k : Int)), (2, zi (x : Int)), (3, zi s), (4, zi t), (5, zi (c : Int)), (6, zi (s + (M 100 (2 * c))))], r.toList ++ [], m1) κ) := by
          intro t2 ht2 hz
          rw [e1]
          refine ih D _ _ (k + 1) (x ||| 2 ^ c) _ t2 hz (by rw [zu_dn (by omega), e54]) (by omega) e2 (by omega) ht2 (fun M2 hB2 hF2 => ?_)
          exact zb280_135 (D := D + j + 1) hT rfl hB2 (by omega) (by omega) (by omega) (by omega) (by omega) (ih2 (c + 1) M2 (by omega) hB2 ((hF.set rfl).trans hF2))
        exact zb280_57 (D := D + j + 1) hT rfl hBM (by omega) (by omega) (by omega) (by omega) (by omega) (fun q => by omega) (fun _ _ _ hz => go _ (by omega) hz) (fun _ _ _ hz => go _ (by omega) hz) (fun _ _ => ih2 (c + 1) M (by omega) hBM hF)
    exact zb280_0 (D := D + j + 1) hT hB (by omega) (by omega) (by omega) (by omega) (fun _ _ => loop N 0 m (by omega) hB zFr.refl) (fun _ q => by omega) (fun _ => hk m hB zFr.refl)
end ZLate
