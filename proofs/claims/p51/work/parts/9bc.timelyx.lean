/-! timely(): how many, by both: what can be in time is so by the order of when they are wanted. -/
/-- i is wanted before j, or is as soon and told before it, or is j -/
noncomputable def eb (U : Nat → Int) (i j : Nat) : Bool := decide (U i < U j ∨ (U i = U j ∧ i ≤ j))
theorem eb_iff {U : Nat → Int} {i j : Nat} : eb U i j = true ↔ (U i < U j ∨ (U i = U j ∧ i ≤ j)) := decide_eq_true_iff
theorem eb_no {U : Nat → Int} {i j : Nat} : eb U i j = false ↔ ¬ (U i < U j ∨ (U i = U j ∧ i ≤ j)) := decide_eq_false_iff_not
/-- the hours of those of the first t of x that are not behind i -/
noncomputable def psum (H U : Nat → Int) (x i : Nat) : Nat → Int
  | 0 => 0
  | t + 1 => psum H U x i t + (if x.testBit t = true ∧ eb U t i = true then H t else 0)
noncomputable def clr (g x : Nat) : Nat := x &&& (127 - 2 ^ g)
theorem clr_bit : ∀ g : Nat, g < 7 → ∀ x : Nat, x < 128 → ∀ t : Nat, t < 7 → (clr g x).testBit t = (x.testBit t && !(Nat.beq t g)) := by decide +kernel
theorem clr_bit1 {g x t : Nat} (hg : g < 7) (hx : x < 128) (ht : t < 7) (e : t ≠ g) : (clr g x).testBit t = x.testBit t := by
  rw [clr_bit g hg x hx t ht]
  have : Nat.beq t g = false := by
    cases h : Nat.beq t g with
    | false => rfl
    | true => exact absurd (Nat.eq_of_beq_eq_true h) e
  rw [this]
  simp
theorem clr_bit0 {g x : Nat} (hg : g < 7) (hx : x < 128) : (clr g x).testBit g = false := by
  rw [clr_bit g hg x hx g hg, Nat.beq_refl]
  simp
theorem clr_lt : ∀ g : Nat, g < 7 → ∀ x : Nat, x < 128 → x.testBit g = true → clr g x < x := by decide +kernel
theorem clr_pop8 : ∀ g : Nat, g < 7 → ∀ x : Nat, x < 128 → x.testBit g = true → popc7 (clr g x) + 1 = popc7 x := by decide +kernel
theorem psum_rng {H U : Nat → Int} {x i : Nat} : ∀ t : Nat, (∀ j, j < t → 0 ≤ H j) → 0 ≤ psum H U x i t ∧ psum H U x i t ≤ hsum H x t
  | 0, _ => ⟨Int.le_refl 0, Int.le_refl 0⟩
  | t + 1, h => by
    have ih := psum_rng (H := H) (U := U) (x := x) (i := i) t (fun j hj => h j (by omega))
    have h1 := h t (by omega)
    rw [psum, hsum]
    by_cases q : x.testBit t = true
    · rw [if_pos q]
      split <;> omega
    · rw [if_neg q, if_neg (fun y => q y.1)]
      omega
theorem psum_all {H U : Nat → Int} {x i : Nat} : ∀ t : Nat, (∀ j, j < t → x.testBit j = true → eb U j i = true) → psum H U x i t = hsum H x t
  | 0, _ => rfl
  | t + 1, h => by
    rw [psum, hsum, psum_all t (fun j hj => h j (by omega))]
    by_cases q : x.testBit t = true
    · rw [if_pos q, if_pos ⟨q, h t (by omega) q⟩]
    · rw [if_neg q, if_neg (fun y => q y.1)]
theorem psum_zero {H U : Nat → Int} {x i : Nat} : ∀ t : Nat, (∀ j, j < t → x.testBit j = true → eb U j i = false) → psum H U x i t = 0
  | 0, _ => rfl
  | t + 1, h => by
    rw [psum, psum_zero t (fun j hj => h j (by omega)), if_neg (fun y => by rw [h t (by omega) y.1] at y; cases y.2)]
    rfl
theorem psum_clr {H U : Nat → Int} {x i g : Nat} (hg : g < 7) (hx : x < 128) (hb : x.testBit g = true) : ∀ t : Nat, t ≤ 7 → psum H U x i t = psum H U (clr g x) i t + (if g < t ∧ eb U g i = true then H g else 0)
  | 0, _ => by rw [psum, psum, if_neg (fun y => Nat.not_lt_zero g y.1)]; rfl
  | t + 1, ht => by
    rw [psum, psum, psum_clr hg hx hb t (by omega)]
    by_cases e : t = g
    · subst e
      have a : (if t < t ∧ eb U t i = true then H t else 0) = 0 := if_neg (fun y => Nat.lt_irrefl t y.1)
      have c : (if (clr t x).testBit t = true ∧ eb U t i = true then H t else 0) = 0 := if_neg (fun y => by
        have y1 := y.1
        rw [clr_bit0 hg hx] at y1
        exact absurd y1 (by decide))
      have bd : (if x.testBit t = true ∧ eb U t i = true then H t else 0) = (if t < t + 1 ∧ eb U t i = true then H t else 0) := by
        by_cases q : eb U t i = true
        · exact (if_pos ⟨hb, q⟩ : (if x.testBit t = true ∧ eb U t i = true then H t else 0) = H t).trans (if_pos ⟨Nat.lt_succ_self t, q⟩ : (if t < t + 1 ∧ eb U t i = true then H t else 0) = H t).symm
        · exact (if_neg (fun y => q y.2) : (if x.testBit t = true ∧ eb U t i = true then H t else 0) = 0).trans (if_neg (fun y => q y.2) : (if t < t + 1 ∧ eb U t i = true then H t else 0) = 0).symm
      rw [a, bd, c]
    · have ad : (if g < t ∧ eb U g i = true then H g else 0) = (if g < t + 1 ∧ eb U g i = true then H g else 0) := by
        by_cases q : g < t ∧ eb U g i = true
        · exact (if_pos q).trans (if_pos ⟨by have := q.1; omega, q.2⟩ : (if g < t + 1 ∧ eb U g i = true then H g else 0) = H g).symm
        · exact (if_neg q).trans (if_neg (fun y => q ⟨by have := y.1; omega, y.2⟩) : (if g < t + 1 ∧ eb U g i = true then H g else 0) = 0).symm
      rw [clr_bit1 hg hx (by omega) e, ad]
      exact Int.add_right_comm _ _ _
/-- from the hour s on, all of x can be in time, one behind the other in their order -/
noncomputable def Gd (H U : Nat → Int) (N x : Nat) (s : Int) : Prop := ∀ i, i < N → x.testBit i = true → s + psum H U x i N ≤ U i
theorem Gd_first {H U : Nat → Int} {N x f : Nat} {s : Int} (hN : N ≤ 7) (hx : x < 128) (hf : f < N) (hb : x.testBit f = true) (hm : ∀ j, j < N → x.testBit j = true → eb U f j = true) : Gd H U N x s ↔ (s + H f ≤ U f ∧ Gd H U N (clr f x) (s + H f)) := by
  have e0 : psum H U x f N = H f := by
    rw [psum_clr (by omega) hx hb N hN, if_pos ⟨hf, eb_iff.mpr (Or.inr ⟨rfl, Nat.le_refl f⟩)⟩, psum_zero N (fun j hj q => ?_)]
    · omega
    · by_cases e : j = f
      · rw [e, clr_bit0 (by omega) hx] at q
        cases q
      · rw [clr_bit1 (by omega) hx (by omega) e] at q
        have := eb_iff.mp (hm j hj q)
        exact eb_no.mpr (by omega)
  have e1 : ∀ i, i < N → x.testBit i = true → i ≠ f → psum H U x i N = psum H U (clr f x) i N + H f := fun i hi hb2 _ => by
    rw [psum_clr (by omega) hx hb N hN, if_pos ⟨hf, hm i hi hb2⟩]
  constructor
  · intro h
    have h1 := h f hf hb
    rw [e0] at h1
    refine ⟨h1, fun i hi q => ?_⟩
    have ne : i ≠ f := fun e => by
      rw [e, clr_bit0 (by omega) hx] at q
      cases q
    rw [clr_bit1 (by omega) hx (by omega) ne] at q
    have := h i hi q
    rw [e1 i hi q ne] at this
    omega
  · rintro ⟨h1, h2⟩ i hi q
    by_cases e : i = f
    · rw [e, e0]
      exact h1
    · have := h2 i hi (by rw [clr_bit1 (by omega) hx (by omega) e]; exact q)
      rw [e1 i hi q e]
      omega
theorem eb_last {U : Nat → Int} {x : Nat} : ∀ t : Nat, (∃ k, k < t ∧ x.testBit k = true) → ∃ j, j < t ∧ x.testBit j = true ∧ ∀ k, k < t → x.testBit k = true → eb U k j = true
  | 0, ⟨k, hk, _⟩ => absurd hk (Nat.not_lt_zero k)
  | t + 1, ⟨k, hk, hb⟩ => by
    by_cases h : ∃ k, k < t ∧ x.testBit k = true
    · obtain ⟨j, j1, j2, j3⟩ := eb_last (U := U) t h
      by_cases q : x.testBit t = true
      · by_cases q2 : eb U t j = true
        · refine ⟨j, by omega, j2, fun k hk hb => ?_⟩
          by_cases e : k = t
          · rw [e]; exact q2
          · exact j3 k (by omega) hb
        · have q3 : eb U t j = false := by
            cases h : eb U t j with
            | false => rfl
            | true => exact absurd h q2
          have q4 := eb_no.mp q3
          refine ⟨t, by omega, q, fun k hk hb => ?_⟩
          by_cases e : k = t
          · rw [e]; exact eb_iff.mpr (Or.inr ⟨rfl, Nat.le_refl t⟩)
          · have := eb_iff.mp (j3 k (by omega) hb)
            exact eb_iff.mpr (by omega)
      · refine ⟨j, by omega, j2, fun k hk hb => ?_⟩
        by_cases e : k = t
        · rw [e] at hb; exact absurd hb q
        · exact j3 k (by omega) hb
    · have e : k = t := by
        by_cases e : k = t
        · exact e
        · exact absurd ⟨k, by omega, hb⟩ h
      subst e
      refine ⟨k, by omega, hb, fun q hq hb2 => ?_⟩
      by_cases e : q = k
      · rw [e]; exact eb_iff.mpr (Or.inr ⟨rfl, Nat.le_refl k⟩)
      · exact absurd ⟨q, by omega, hb2⟩ h
theorem Gd_last {H U : Nat → Int} {N x : Nat} (hN : N ≤ 7) (hx : x < 128) (hH : ∀ j, j < N → 0 ≤ H j) (h0 : ∃ k, k < N ∧ x.testBit k = true) : Gd H U N x 0 ↔ ∃ j, j < N ∧ x.testBit j = true ∧ hsum H x N ≤ U j ∧ Gd H U N (clr j x) 0 := by
  constructor
  · intro h
    obtain ⟨j, j1, j2, j3⟩ := eb_last (U := U) N h0
    have h1 := h j j1 j2
    rw [psum_all N j3] at h1
    refine ⟨j, j1, j2, by omega, fun i hi q => ?_⟩
    have ne : i ≠ j := fun e => by
      rw [e, clr_bit0 (by omega) hx] at q
      cases q
    rw [clr_bit1 (by omega) hx (by omega) ne] at q
    have h2 := h i hi q
    rw [psum_clr (i := i) (by omega) hx j2 N hN] at h2
    have := hH j j1
    split at h2 <;> omega
  · rintro ⟨j, j1, j2, j3, j4⟩ i hi q
    by_cases e : eb U j i = true
    · have h1 := eb_iff.mp e
      have := (psum_rng (U := U) (x := x) (i := i) N hH).2
      omega
    · have ne : i ≠ j := fun e2 => e (eb_iff.mpr (Or.inr ⟨by rw [e2], by omega⟩))
      have h1 := j4 i hi (by rw [clr_bit1 (by omega) hx (by omega) ne]; exact q)
      rw [psum_clr (i := i) (by omega) hx j2 N hN, if_neg (fun y => e y.2), Int.add_zero]
      exact h1
/-- the first of those that are the most -/
noncomputable def bst (P : Nat → Prop) : Nat → Nat → Nat → Nat
  | 0, _, b => b
  | j + 1, x, b => @ite _ (P x ∧ popc8 b < popc8 x) (Classical.propDecidable _) (bst P j (x + 1) x) (bst P j (x + 1) b)
theorem bst_yes {P : Nat → Prop} {j x b : Nat} (h : P x) (h2 : popc8 b < popc8 x) : bst P (j + 1) x b = bst P j (x + 1) x := by
  rw [bst]
  exact if_pos ⟨h, h2⟩
theorem bst_no {P : Nat → Prop} {j x b : Nat} (h : ¬ P x ∨ ¬ popc8 b < popc8 x) : bst P (j + 1) x b = bst P j (x + 1) b := by
  rw [bst]
  exact if_neg (fun q => h.elim (fun y => y q.1) (fun y => y q.2))
theorem pop7_8 : ∀ x : Nat, x < 128 → popc7 x = popc8 x := by decide +kernel
theorem bit_ex {N x : Nat} (hx : x < 2 ^ N) (h0 : x ≠ 0) : ∃ k, k < N ∧ x.testBit k = true := by
  obtain ⟨q, hq⟩ := Nat.exists_testBit_of_ne_zero h0
  have h1 := Nat.ge_two_pow_of_testBit hq
  exact ⟨q, (Nat.pow_lt_pow_iff_right (a := 2) (by omega)).mp (by omega), hq⟩
section ZTimelyX
variable {T : Nat → Nat → zG → (Option zA → zM → Prop) → Prop} {B : Int}
theorem z_canBe (hT : zRules T) {D : Nat} {κ : Option zA → zM → Prop} {m : zM} {x N : Nat} {P : Nat → Prop} (hB : zB m) (hN : m 64 2 = (N : Int)) (hx : x ≤ 127)
    (h71 : ∀ j, j < N → x.testBit j = true → (m 71 (clr j x) = 1 ∧ P (clr j x)) ∨ (m 71 (clr j x) = 0 ∧ ¬ P (clr j x)))
    (hk : ∀ v : Int, ((v = 1 ∧ ∃ j, j < N ∧ x.testBit j = true ∧ hsum (m 65) x N ≤ m 66 j ∧ P (clr j x)) ∨ (v = 0 ∧ ¬ ∃ j, j < N ∧ x.testBit j = true ∧ hsum (m 65) x N ≤ m 66 j ∧ P (clr j x))) → κ (some (zi v)) m) : T (D + 3) 103 (0, [(0, zr 64), (1, zi (x : Int))], [], m) κ := by
  have b64 : 0 ≤ m 64 2 ∧ m 64 2 ≤ 7 := hB 64 2
  refine zb103_0 hT hB hx ?_
  refine z_hoursOf hT hB hN hx (fun hh => ?_)
  refine zb103_5 hT rfl hB hx (by omega) ?_
  have key : ∀ (j t : Nat), t + j = N → (¬ ∃ j, j < t ∧ x.testBit j = true ∧ hsum (m 65) x N ≤ m 66 j ∧ P (clr j x)) → T (D + 3) 103 (8, [(0, zr 64), (1, zi (x : Int)), (2, zi (hsum (m 65) x N)), (3, zi (t : Int))], [], m) κ := by
    intro j
    induction j with
    | zero =>
      intro t ht hn
      have et : t = N := by omega
      subst et
      exact zb103_8 hT rfl hB hx (by omega) (by omega) (fun _ => hk 0 (Or.inr ⟨rfl, hn⟩)) (fun q => by omega) (fun q => by omega) (fun q => by omega) (fun q => by omega) (fun q => by omega)
    | succ j ih =>
      intro t ht hn
      have nx : ¬ (x.testBit t = true ∧ hsum (m 65) x N ≤ m 66 t ∧ P (clr t x)) → T (D + 3) 103 (8, [(0, zr 64), (1, zi (x : Int)), (2, zi (hsum (m 65) x N)), (3, zi ((t : Int) + 1))], [], m) κ := fun h => ih (t + 1) (by omega) (fun ⟨q, q1, q2⟩ => by
        by_cases e : q = t
        · rw [e] at q2; exact h q2
        · exact hn ⟨q, by omega, q2⟩)
      have e9 := clr_v t (by omega) x (by omega)
      have hl : x &&& (127 - 2 ^ t) ≤ x := Nat.and_le_left
      refine zb103_8 hT rfl hB hx (by omega) (by omega) (fun q => by omega) (fun _ q => nx (fun y => ?_)) (fun _ _ q => nx (fun y => by omega)) (fun _ _ _ => by rw [e9]; omega) (fun _ q q2 q3 => nx (fun y => ?_)) (fun _ q q2 q3 => ?_)
      · rw [zbt1 (x := x) (c := t) (by omega) (by omega) q] at y
        cases y.1
      · rw [e9, Int.toNat_natCast] at q3
        rcases h71 t (by omega) y.1 with ⟨z1, _⟩ | ⟨_, z2⟩
        · have z1 : m 71 (x &&& (127 - 2 ^ t)) = 1 := z1
          omega
        · exact z2 y.2.2
      · have hb := zbt2 (x := x) (c := t) (by omega) (by omega) q
        rw [e9, Int.toNat_natCast] at q3
        rcases h71 t (by omega) hb with ⟨_, z2⟩ | ⟨z1, _⟩
        · exact hk 1 (Or.inl ⟨rfl, t, by omega, hb, by omega, z2⟩)
        · exact absurd z1 q3
  exact key N 0 (by omega) (fun ⟨q, q1, _⟩ => absurd q1 (Nat.not_lt_zero q))
theorem z_isTimely (hT : zRules T) {N : Nat} {H U : Nat → Int} (hN7 : N ≤ 7) (hH : ∀ j, j < N → 0 ≤ H j ∧ H j ≤ 99) : ∀ (j : Nat) (D : Nat) (κ : Option zA → zM → Prop) (m : zM) (y : Nat) (s : Int), zB m → m 74 54 = (N : Int) → (∀ c, c < N → m 100 (2 * c) = H c ∧ m 100 (2 * c + 1) = U c) → y < 2 ^ N → popc7 y ≤ j → (0 ≤ s ∧ s + 99 * j ≤ 693) → (∀ v : Int, ((v = 1 ∧ Gd H U N y s) ∨ (v = 0 ∧ ¬ Gd H U N y s)) → κ (some (zi v)) m) →
    T (D + 2) 282 (4, [(0, zr 74), (2, zi s), (3, zi (y : Int))], [], m) κ := by
  have p7 : 2 ^ N ≤ 2 ^ 7 := Nat.pow_le_pow_right (by omega) hN7
  intro j
  induction j with
  | zero =>
    intro D κ m y s hB hN hJ hy hp hs hk
    have y0 := popc7_no y (by omega) (by omega)
    refine zb282_4 hT rfl hB (by omega) (by omega) (fun _ => hk 1 (Or.inl ⟨rfl, fun i _ q => ?_⟩)) (fun q => by omega)
    rw [y0, Nat.zero_testBit] at q
    cases q
  | succ j ih =>
    intro D κ m y s hB hN hJ hy hp hs hk
    refine zb282_4 hT rfl hB (by omega) (by omega) (fun q => hk 1 (Or.inl ⟨rfl, fun i _ q2 => ?_⟩)) (fun y0 => ?_)
    · rw [show y = 0 by omega, Nat.zero_testBit] at q2
      cases q2
    have loop : ∀ (i t : Nat) (f : Int), t + i = N → ((f = -1 ∧ ∀ q, q < t → y.testBit q = false) ∨ ∃ g : Nat, f = (g : Int) ∧ g < t ∧ y.testBit g = true ∧ ∀ q, q < t → y.testBit q = true → eb U g q = true) → T (D + 2) 282 (14, [(0, zr 74), (2, zi s), (3, zi (y : Int)), (4, zi f), (5, zi (t : Int))], [], m) κ := by
      intro i
      induction i with
      | zero =>
        intro t f ht hf
        have et : t = N := by omega
        subst et
        have hg : ∃ g : Nat, f = (g : Int) ∧ g < t ∧ y.testBit g = true ∧ ∀ q, q < t → y.testBit q = true → eb U g q = true := by
          rcases hf with ⟨_, h0⟩ | h0
          · exfalso
            obtain ⟨q, q1, q2⟩ := bit_ex hy (show y ≠ 0 by omega)
            rw [h0 q q1] at q2
            cases q2
          · exact h0
        obtain ⟨g, rfl, g7, gb, gm⟩ := hg
        have e2 : (2 * (g : Int)).toNat = 2 * g := by omega
        have e3 : (2 * (g : Int) + 1).toNat = 2 * g + 1 := by omega
        obtain ⟨j1, j2⟩ := hJ g g7
        have hHg := hH g g7
        have hc := clr_pop8 g (by omega) y (by omega) gb
        have hl : y &&& (127 - 2 ^ g) ≤ y := Nat.and_le_left
        have hG := Gd_first (H := H) (U := U) (s := s) hN7 (by omega) g7 gb gm
        refine zb282_14 hT rfl hB (by omega) (by omega) (by omega) (by omega) (fun _ => by omega) (fun _ => by omega) (fun _ q => ?_) (fun _ q => ?_) (fun q => by omega) (fun q => by omega) (fun q => by omega) (fun q => by omega)
        · rw [e2, e3, j1, j2] at q
          rw [e2, j1, clr_v g (by omega) y (by omega)]
          refine ih D κ m (clr g y) (s + H g) hB hN hJ (by show y &&& (127 - 2 ^ g) < _; omega) (by omega) (by omega) (fun v hv => hk v (hv.imp (fun z => ⟨z.1, hG.mpr ⟨by omega, z.2⟩⟩) (fun z => ⟨z.1, fun w => z.2 (hG.mp w).2⟩)))
        · rw [e2, e3, j1, j2] at q
          exact hk 0 (Or.inr ⟨rfl, fun w => by have := (hG.mp w).1; omega⟩)
      | succ i ih2 =>
        intro t f ht hf
        have f6 : -1 ≤ f ∧ f ≤ 6 := by
          rcases hf with ⟨h0, _⟩ | ⟨g, h0, h1, _⟩ <;> omega
        obtain ⟨j1, j2⟩ := hJ t (by omega)
        have e3 : ∀ g : Nat, f = (g : Int) → ((2 * f) + 1).toNat = 2 * g + 1 := fun g e => by omega
        have new : y.testBit t = true → (∀ g : Nat, f = (g : Int) → U t < U g) → T (D + 2) 282 (14, [(0, zr 74), (2, zi s), (3, zi (y : Int)), (4, zi (t : Int)), (5, zi ((t : Int) + 1))], [], m) κ := fun hb hlt => by
          refine ih2 (t + 1) (t : Int) (by omega) (Or.inr ⟨t, rfl, by omega, hb, fun q hq hqb => ?_⟩)
          by_cases e : q = t
          · rw [e]; exact eb_iff.mpr (Or.inr ⟨rfl, Nat.le_refl t⟩)
          · rcases hf with ⟨_, h1⟩ | ⟨g, h0, h1, h2, h3⟩
            · rw [h1 q (by omega)] at hqb
              cases hqb
            · have w1 := eb_iff.mp (h3 q (by omega) hqb)
              have w2 := hlt g h0
              exact eb_iff.mpr (by omega)
        refine zb282_14 hT rfl hB (by omega) (by omega) f6 (by omega) (fun q => by omega) (fun q => by omega) (fun q => by omega) (fun q => by omega) (fun _ q => ?_) (fun _ q q2 => ?_) (fun _ q q2 q3 => ?_) (fun _ q q2 q3 => ?_)
        · have hb := zbt1 (x := y) (c := t) (by omega) (by omega) q
          refine ih2 (t + 1) f (by omega) ?_
          rcases hf with ⟨h0, h1⟩ | ⟨g, h0, h1, h2, h3⟩
          · refine Or.inl ⟨h0, fun r hr => ?_⟩
            by_cases e : r = t
            · rw [e]; exact hb
            · exact h1 r (by omega)
          · refine Or.inr ⟨g, h0, by omega, h2, fun r hr hrb => ?_⟩
            by_cases e : r = t
            · rw [e, hb] at hrb
              cases hrb
            · exact h3 r (by omega) hrb
        · exact new (zbt2 (x := y) (c := t) (by omega) (by omega) q) (fun g e => by omega)
        · have hb := zbt2 (x := y) (c := t) (by omega) (by omega) q
          rcases hf with ⟨h0, _⟩ | ⟨g, h0, h1, h2, h3⟩
          · exact absurd h0 q2
          · rw [e3 g h0, j2, (hJ g (by omega)).2] at q3
            refine ih2 (t + 1) f (by omega) (Or.inr ⟨g, h0, by omega, h2, fun r hr hrb => ?_⟩)
            by_cases e : r = t
            · rw [e]; exact eb_iff.mpr (by omega)
            · exact h3 r (by omega) hrb
        · refine new (zbt2 (x := y) (c := t) (by omega) (by omega) q) (fun g e => ?_)
          rcases hf with ⟨h0, _⟩ | ⟨g2, h0, h1, _⟩
          · exact absurd h0 q2
          · have eg : g2 = g := by omega
            subst eg
            rw [e3 g2 h0, j2, (hJ g2 (by omega)).2] at q3
            exact q3
    exact loop N 0 (-1) (by omega) (Or.inl ⟨rfl, fun q hq => by omega⟩)
theorem w_timely (hT : zRules T) : Way T 156 283 [(0, zr 1)] [(0, zr 74)] 5 3 B B True := by
  rintro D m sc ⟨n, k, hI⟩ κ hκ
  have hI0 := hI
  obtain ⟨i1, i2, i3, i4, i5, i6, i7, i8, i9, i10, i11⟩ := hI
  have b64 : 0 ≤ m 64 2 ∧ m 64 2 ≤ 7 := i1 64 2
  obtain ⟨N, hN⟩ : ∃ N : Nat, m 64 2 = (N : Int) := ⟨(m 64 2).toNat, by omega⟩
  have p7 : 2 ^ N ≤ 2 ^ 7 := Nat.pow_le_pow_right (by omega) (by omega)
  have p1 : 1 ≤ 2 ^ N := Nat.one_le_two_pow
  have hH : ∀ j, j < N → 0 ≤ m 65 j ∧ m 65 j ≤ 99 := fun j _ => by
    have : 0 ≤ m 65 j ∧ m 65 j ≤ 20 := i1 65 j
    omega
  have hG0 : Gd (m 65) (m 66) N 0 0 := fun i _ q => by
    rw [Nat.zero_testBit] at q
    cases q
  have ref : ∀ (r : Nat) (M0 : zM), r = popc8 (bst (fun x => Gd (m 65) (m 66) N x 0) (2 ^ N - 1) 1 0) → zB M0 → Agree coreK0 m M0 → M0 72 1 = 1 → κ (some (zi (r : Int))) M0 := by
    intro r M0 hr hB0 hA0 h72
    refine hκ _ _ (fun D2 κ2 h2 => ?_)
    have fin : ∀ (x : Nat) M1, x = r → zB M1 → Agree coreK0 m M1 → RowP M1 → κ2 (some (zi (x : Int))) M1 := fun x M1 e hB1 hA1 hr => h2 _ _ (fun _ => by rw [e]) ⟨n, k, Inv_row hA1 hB1 hr hI0⟩
    refine zb283_0 hT hB0 (fun hz => ?_)
    have hA : Agree coreK0 m (zu M0 74 12 0) := hA0.trans (.of (L := [(74, some 12)]) (zFr.refl.set rfl) rfl)
    have x72 : (zu M0 74 12 0) 72 1 = 1 := (zu_dn (by decide)).trans h72
    generalize zu M0 74 12 0 = M at hz hA x72 ⊢
    have e54 : M 74 54 = (N : Int) := by rw [hA 74 54 rfl, i9.1, hN]
    have e4 : z_shl 1 (M 74 54) = ((2 ^ N : Nat) : Int) := by rw [e54, z_shl1T N (by omega)]
    have hJ : ∀ c, c < N → M 100 (2 * c) = m 65 c ∧ M 100 (2 * c + 1) = m 66 c := fun c hc => by
      have := i9.2 c (by omega)
      rw [hA 100 _ rfl, hA 100 _ rfl]
      exact ⟨this.1, this.2.1⟩
    have loop : ∀ (j x b : Nat), x + j = 2 ^ N → b ≤ 127 → bst (fun x => Gd (m 65) (m 66) N x 0) j x b = bst (fun x => Gd (m 65) (m 66) N x 0) (2 ^ N - 1) 1 0 → T (D2 + 3) 283 (9, [(0, zr 74), (1, zi (b : Int)), (2, zi (x : Int))], [], M) κ2 := by
      intro j
      induction j with
      | zero =>
        intro x b hx hb he
        rw [bst] at he
        have eb9 : popc8 b = r := by rw [hr, he]
        generalize 2 ^ N = P at p7 hx e4
        refine zb283_9 hT rfl hz hb (by omega) (fun _ hz2 => ?_) (fun q => by omega)
        refine z_bitCount (D := D2 + 1) hT (by omega) ?_
        have := popc8_8 b (by omega)
        exact zb283_60 hT rfl (by omega) (fin _ _ eb9 hz2 (hA.trans (.of (L := [(74, some 11), (81, none)]) (((zFr.refl.set rfl).set rfl).set rfl) rfl)) (RowP.len (by simp (disch := decide) only [zu_sm, zu_off, zu_dn, x72] <;> rfl)))
      | succ j ih =>
        intro x b hx hb he
        have hxn : x < 2 ^ N := by omega
        have hx63 : x ≤ 127 := by omega
        have hlt : (x : Int) < z_shl 1 (M 74 54) := by
          rw [e4]
          exact Int.ofNat_lt.mpr hxn
        have q1 := popc8_8 b (by omega)
        have q2 := popc8_8 x (by omega)
        refine zb283_9 hT rfl hz hb (by omega) (fun q => absurd hlt q) (fun _ => ?_)
        refine z_bitCount (D := D2 + 1) hT (by omega) ?_
        refine zb283_23 hT rfl hz hb hx63 (by omega) ?_
        refine z_bitCount (D := D2 + 1) hT (by omega) ?_
        refine zb283_27 hT rfl hz hb hx63 (by omega) (by omega) (fun q => ih (x + 1) b (by omega) hb (by rw [← he, bst_no (Or.inr (by omega))])) (fun q => ?_)
        refine zb282_0 hT hz hx63 ?_
        refine z_isTimely hT (by omega) hH 7 D2 _ M x 0 hz e54 hJ hxn (popc7_7 x (by omega)) (by omega) (fun v hv => ?_)
        have hv1 : 0 ≤ v ∧ v ≤ 1 := by
          rcases hv with h | h <;> omega
        refine zb283_35 hT rfl hz hb hx63 hv1 (fun q3 => ?_) (fun q3 => ?_)
        · rcases hv with h | h
          · omega
          · exact ih (x + 1) b (by omega) hb (by rw [← he, bst_no (Or.inl h.2)])
        · rcases hv with h | h
          · exact ih (x + 1) x (by omega) hx63 (by rw [← he, bst_yes h.2 (by omega)])
          · omega
    exact loop (2 ^ N - 1) 1 0 (by omega) (by omega) rfl
  have loop : ∀ (j x b : Nat) (M : zM), x + j = 2 ^ N → 1 ≤ x → b ≤ 127 → zB M → zFr (inL [(71, none)]) m M → (∀ y, y < x → (M 71 y = 1 ∧ Gd (m 65) (m 66) N y 0) ∨ (M 71 y = 0 ∧ ¬ Gd (m 65) (m 66) N y 0)) → bst (fun x => Gd (m 65) (m 66) N x 0) j x b = bst (fun x => Gd (m 65) (m 66) N x 0) (2 ^ N - 1) 1 0 → T (D + 4) 102 (11, [(0, zr 64), (1, zi (b : Int)), (2, zi (x : Int))], [], M) (fun r m1 => T (D + 5) 156 (7, [(0, zr 1)], r.toList ++ [], m1) κ) := by
    intro j
    induction j with
    | zero =>
      intro x b M hx hx1 hb hBM hF hD he
      rw [bst] at he
      have e4 : z_shl 1 (M 64 2) = ((2 ^ N : Nat) : Int) := by rw [hF 64 2 rfl, hN, z_shl1T N (by omega)]
      have eb9 : popc8 b = popc8 (bst (fun x => Gd (m 65) (m 66) N x 0) (2 ^ N - 1) 1 0) := by rw [he]
      have := popc8_8 b (by omega)
      have hx' : x ≤ 128 := by omega
      have hlt : ¬ (x : Int) < ((2 ^ N : Nat) : Int) := by
        rw [← hx]
        omega
      refine zb102_11 hT rfl hBM hb hx' (fun _ => ?_) (fun q => absurd (by rw [← e4]; exact q) hlt)
      refine zb156_7 hT rfl hBM hb (fun hz => ?_)
      refine z_bitCount (D := D + 3) hT (by omega) ?_
      exact zb156_20 hT rfl (by omega) (ref _ _ eb9 hz ((Agree.of hF rfl).trans (.of (L := [(72, some 1), (73, none)]) ((zFr.refl.set rfl).set rfl) rfl)) (by simp (disch := decide) only [zu_sm, zu_off, zu_dn] <;> rfl))
    | succ j ih =>
      intro x b M hx hx1 hb hBM hF hD he
      have hxn : x < 2 ^ N := by omega
      have hx63 : x ≤ 127 := by omega
      have e64 : M 64 2 = (N : Int) := (hF 64 2 rfl).trans hN
      have e65 : M 65 = m 65 := funext fun q => hF 65 q rfl
      have e66 : M 66 = m 66 := funext fun q => hF 66 q rfl
      have hlt : (x : Int) < z_shl 1 (M 64 2) := by
        rw [e64, z_shl1T N (by omega)]
        exact Int.ofNat_lt.mpr hxn
      have q1 := popc8_8 b (by omega)
      have q2 := popc8_8 x (by omega)
      refine zb102_11 hT rfl hBM hb (by omega) (fun q => absurd hlt q) (fun _ => ?_)
      refine z_canBe (D := D) (P := fun y => Gd (m 65) (m 66) N y 0) hT hBM e64 hx63 (fun c hc hcb => ?_) (fun v hv => ?_)
      · have hp := clr_lt c (by omega) x (by omega) hcb
        exact hD (clr c x) hp
      rw [e65, e66, ← Gd_last (by omega) (by omega) (fun j hj => (hH j hj).1) (bit_ex hxn (by omega))] at hv
      have hv1 : 0 ≤ v ∧ v ≤ 1 := by
        rcases hv with h | h <;> omega
      have hD2 : ∀ (M2 : zM), (∀ y, M2 71 y = if y = x then v else M 71 y) → ∀ y, y < x + 1 → (M2 71 y = 1 ∧ Gd (m 65) (m 66) N y 0) ∨ (M2 71 y = 0 ∧ ¬ Gd (m 65) (m 66) N y 0) := fun M2 h2 y hy => by
        rw [h2]
        by_cases e : y = x
        · rw [if_pos e, e]
          exact hv
        · rw [if_neg e]
          exact hD y (by omega)
      have e71 : ∀ y, (zu M 71 x v) 71 y = if y = x then v else M 71 y := fun y => by
        by_cases e : y = x
        · rw [e, if_pos rfl, zu_sm rfl]
        · rw [if_neg e, zu_off (by omega)]
      refine zb102_31 hT rfl hBM hb hx63 hv1 (fun q3 hz => ?_) (fun q3 hz => ?_)
      · rcases hv with h | h
        · omega
        · exact ih (x + 1) b _ (by omega) (by omega) hb hz (hF.set rfl) (hD2 _ e71) (by rw [← he, bst_no (Or.inl h.2)])
      · have hG : Gd (m 65) (m 66) N x 0 := by
          rcases hv with h | h
          · exact h.2
          · omega
        refine z_bitCount (D := D + 2) hT (by omega) ?_
        refine zb102_45 hT rfl hz hb hx63 (by omega) ?_
        refine z_bitCount (D := D + 2) hT (by omega) ?_
        refine zb102_49 hT rfl hz hb hx63 (by omega) (by omega) (fun q4 => ih (x + 1) b _ (by omega) (by omega) hb hz (hF.set rfl) (hD2 _ e71) (by rw [← he, bst_no (Or.inr (by omega))])) (fun q4 => ih (x + 1) x _ (by omega) (by omega) hx63 hz (hF.set rfl) (hD2 _ e71) (by rw [← he, bst_yes hG (by omega)]))
  refine zb156_0 hT i1 ?_
  exact zb102_0 hT i1 (fun hz => loop (2 ^ N - 1) 1 0 _ (by omega) (by omega) (by omega) hz (zFr.refl.set rfl) (fun y hy => by
    have ey : y = 0 := by omega
    subst ey
    rw [zu_sm rfl]
    exact Or.inl ⟨rfl, hG0⟩) rfl)
end ZTimelyX
