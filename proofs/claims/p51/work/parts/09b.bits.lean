/-! Shifts and masks that are exact: a form whose rest lies below the bit. -/
noncomputable def s_spl (m : Int) : sT → sT × sT
  | [] => ([], [])
  | (k, c) :: r => bif s_ie (c % m) 0 then ((k, c / m) :: (s_spl m r).1, (s_spl m r).2) else ((s_spl m r).1, (k, c) :: (s_spl m r).2)
theorem s_splS {rs : List Int} {m : Int} : ∀ {t : sT} {v : Int}, s_ev rs t = some v → ∃ d e, s_ev rs (s_spl m t).1 = some d ∧ s_ev rs (s_spl m t).2 = some e ∧ v = m * d + e
  | [], v, h => by
    cases h
    exact ⟨0, 0, rfl, rfl, by omega⟩
  | (k, c) :: r, v, h => by
    obtain ⟨a, u, h1, h2, rfl⟩ := s_ev_cons.mp h
    obtain ⟨d, e, h3, h4, rfl⟩ := s_splS (m := m) h2
    unfold s_spl
    cases hc : s_ie (c % m) 0 with
    | true =>
      have e0 := s_ie_iff.mp hc
      have e1 : m * (c / m) = c := Int.mul_ediv_cancel' (Int.dvd_of_emod_eq_zero e0)
      refine ⟨c / m * a + d, e, s_ev_cons.mpr ⟨a, d, h1, h3, rfl⟩, h4, ?_⟩
      rw [Int.mul_add, ← Int.mul_assoc, e1]
      omega
    | false =>
      exact ⟨d, c * a + e, h3, s_ev_cons.mpr ⟨a, e, h1, h4, rfl⟩, by omega⟩
noncomputable def s_p2 (n : Nat) : Int := Int.ofNat (2 ^ n)
theorem s_p2E (n : Nat) : s_p2 n = 2 ^ n := by
  show ((2 ^ n : Nat) : Int) = 2 ^ n
  rw [Int.natCast_pow]
  rfl
theorem s_p2P (n : Nat) : 1 ≤ s_p2 n := by
  show (1 : Int) ≤ ((2 ^ n : Nat) : Int)
  have := Nat.one_le_two_pow (n := n)
  omega
noncomputable def s_inJ (E : sE) (x : sF) (j : pI) : Bool := match s_bnd E x with
  | none => false
  | some i => s_le j.1 i.1 && s_le i.2 j.2
section Bits
variable {rs : List Int} {E : sE} {a b : sF} {x y : Int32}
theorem s_inJS {f : sF} {j : pI} {v : Int} (hE : q_E rs E) (hx : s_val rs f = some v) (h : s_inJ E f j = true) : j.1 ≤ v ∧ v ≤ j.2 := by
  unfold s_inJ at h
  split at h
  · cases h
  · rename_i i hi
    have b := s_bndS hE hi hx
    simp only [Bool.and_eq_true] at h
    have := s_le_iff.mp h.1
    have := s_le_iff.mp h.2
    omega
/-- what is above a bit, what is below -/
noncomputable def s_top (n : Nat) (a : sF) : sF := ((s_spl (s_p2 n) a.1).1, a.2 / s_p2 n)
noncomputable def s_bot (n : Nat) (a : sF) : sF := ((s_spl (s_p2 n) a.1).2, a.2 % s_p2 n)
theorem s_topS {n : Nat} {v : Int} (h : s_val rs a = some v) : ∃ d e, s_val rs (s_top n a) = some d ∧ s_val rs (s_bot n a) = some e ∧ v = s_p2 n * d + e := by
  obtain ⟨w, h1, rfl⟩ := s_val_iff.mp h
  obtain ⟨d, e, h2, h3, rfl⟩ := s_splS (m := s_p2 n) h1
  refine ⟨d + a.2 / s_p2 n, e + a.2 % s_p2 n, s_val_iff.mpr ⟨d, h2, rfl⟩, s_val_iff.mpr ⟨e, h3, rfl⟩, ?_⟩
  have := Int.emod_add_mul_ediv a.2 (s_p2 n)
  rw [Int.mul_add]
  omega
theorem s_topD {n : Nat} {v : Int} (hE : q_E rs E) (h : s_val rs a = some v) (hb : s_inJ E (s_bot n a) (0, s_p2 n - 1) = true) : s_val rs (s_top n a) = some (v / s_p2 n) ∧ s_val rs (s_bot n a) = some (v % s_p2 n) := by
  obtain ⟨d, e, h1, h2, rfl⟩ := s_topS (n := n) h
  have b := s_inJS hE h2 hb
  have p := s_p2P n
  have b1 : 0 ≤ e := b.1
  have b2 : e ≤ s_p2 n - 1 := b.2
  rw [h1, h2]
  have e1 : (s_p2 n * d + e) / s_p2 n = d := by
    rw [Int.add_comm, Int.add_mul_ediv_left _ _ (by omega), Int.ediv_eq_zero_of_lt b1 (by omega), Int.zero_add]
  have e2 : (s_p2 n * d + e) % s_p2 n = e := by
    rw [Int.add_comm, Int.add_mul_emod_self_left]
    exact Int.emod_eq_of_lt b1 (by omega)
  rw [e1, e2]
  exact ⟨rfl, rfl⟩
noncomputable def s_sshr2 (E : sE) (a b : sF) : sX := match s_lit E b with
  | none => s_sshr E a b
  | some z => bif s_le 0 z && s_le z 31 && s_inJ E (s_bot z.toNat a) (0, s_p2 z.toNat - 1) then (E, s_top z.toNat a) else s_sshr E a b
theorem s_sshr2R (hE : q_E rs E) (ha : s_val rs a = some x.toInt) (hb : s_val rs b = some y.toInt) : q_R rs E (s_sshr2 E a b) (x >>> (y &&& 31)) := by
  unfold s_sshr2
  split
  · exact s_sshrR hE ha hb
  · rename_i z hz
    have e := s_litS hE hb hz
    cases hc : s_le 0 z && s_le z 31 && s_inJ E (s_bot z.toNat a) (0, s_p2 z.toNat - 1) with
    | false => exact s_sshrR hE ha hb
    | true =>
      simp only [Bool.and_eq_true] at hc
      have h0 := s_le_iff.mp hc.1.1
      have h1 := s_le_iff.mp hc.1.2
      obtain ⟨k1, -⟩ := s_topD hE ha hc.2
      refine s_same hE ?_
      rw [s_shrI (by omega) (by omega), e, ← s_p2E]
      exact k1
/-- and with 1; with all but one bit -/
noncomputable def s_sand2 (E : sE) (a b : sF) : sX := match s_lit E b with
  | none => s_sand E a b
  | some z => bif s_ie z 1 && s_inJ E a (0, 2147483647) && s_inJ E (s_bot 1 a) (0, s_p2 1 - 1) then (E, s_bot 1 a) else
    bif s_le z (-2) && s_ie z (-1 - s_p2 (-1 - z).toNat.log2) && Nat.ble (-1 - z).toNat.log2 30 && s_inJ E a (0, 2147483647) && s_inJ E (s_bot ((-1 - z).toNat.log2 + 1) a) (0, s_p2 ((-1 - z).toNat.log2 + 1) - 1) && s_inJ E (s_bot (-1 - z).toNat.log2 a) (0, s_p2 (-1 - z).toNat.log2 - 1) then
      (E, s_add (s_mul (s_p2 ((-1 - z).toNat.log2 + 1)) (s_top ((-1 - z).toNat.log2 + 1) a)) (s_bot (-1 - z).toNat.log2 a)) else s_sand E a b
theorem s_clr {n f : Nat} (hn : n < 2147483648) (hf : f ≤ 30) : n &&& (4294967296 - (2 ^ f + 1)) = 2 ^ (f + 1) * (n / 2 ^ (f + 1)) + n % 2 ^ f := by
  have hlt : n % 2 ^ f < 2 ^ (f + 1) := Nat.lt_of_lt_of_le (Nat.mod_lt _ (Nat.two_pow_pos f)) (Nat.pow_le_pow_right (by decide) (by omega))
  apply Nat.eq_of_testBit_eq
  intro i
  rw [Nat.testBit_and, show (4294967296 : Nat) = 2 ^ 32 from rfl, Nat.testBit_two_pow_sub_succ (Nat.pow_lt_pow_right (by decide) (by omega)), Nat.testBit_two_pow, Nat.testBit_two_pow_mul_add _ hlt]
  by_cases h1 : i < f + 1
  · rw [if_pos h1, Nat.testBit_mod_two_pow]
    by_cases h2 : i = f
    · subst h2
      simp
    · have h3 : i < f := by omega
      have h4 : i < 32 := by omega
      have h5 : ¬ f = i := by omega
      simp [h3, h4, h5]
  · rw [if_neg h1, Nat.testBit_div_two_pow]
    have h5 : ¬ f = i := by omega
    by_cases h4 : i < 32
    · simp [h4, h5, show i - (f + 1) + (f + 1) = i by omega]
    · have : n.testBit i = false := Nat.testBit_lt_two_pow (Nat.lt_of_lt_of_le hn (Nat.le_trans (show 2147483648 ≤ 2 ^ 31 from Nat.le_refl _) (Nat.pow_le_pow_right (by decide) (by omega))))
      simp [this, show i - (f + 1) + (f + 1) = i by omega]
theorem s_sand2R (hE : q_E rs E) (ha : s_val rs a = some x.toInt) (hb : s_val rs b = some y.toInt) : q_R rs E (s_sand2 E a b) (x &&& y) := by
  unfold s_sand2
  split
  · exact s_sandR hE ha hb
  · rename_i z hz
    have e := s_litS hE hb hz
    cases hc : s_ie z 1 && s_inJ E a (0, 2147483647) && s_inJ E (s_bot 1 a) (0, s_p2 1 - 1) with
    | true =>
      simp only [Bool.and_eq_true] at hc
      have e1 := s_ie_iff.mp hc.1.1
      obtain ⟨-, k2⟩ := s_topD hE ha hc.2
      have hx := (s_inJS hE ha hc.1.2).1
      have hx : 0 ≤ x.toInt := hx
      obtain ⟨n1, n2⟩ := s_nat hx
      refine s_same hE ?_
      have hy : y.toBitVec.toNat = 1 := by
        have := (s_nat (z := y) (by omega)).1
        omega
      have e3 : (x &&& y).toBitVec.toNat = x.toBitVec.toNat % 2 := by
        rw [Int32.toBitVec_and, BitVec.toNat_and, hy, Nat.and_one_is_mod]
      rw [k2, s_ofnat (z := x &&& y) (by omega), e3, n1]
      congr 1
    | false =>
      simp only [cond_false]
      generalize hf : (-1 - z).toNat.log2 = f
      cases hc2 : s_le z (-2) && s_ie z (-1 - s_p2 f) && Nat.ble f 30 && s_inJ E a (0, 2147483647) && s_inJ E (s_bot (f + 1) a) (0, s_p2 (f + 1) - 1) && s_inJ E (s_bot f a) (0, s_p2 f - 1) with
      | false => exact s_sandR hE ha hb
      | true =>
        simp only [Bool.and_eq_true] at hc2
        obtain ⟨⟨⟨⟨⟨c1, c2⟩, c3⟩, c4⟩, c5⟩, c6⟩ := hc2
        have e2 := s_ie_iff.mp c2
        have hf30 := Nat.le_of_ble_eq_true c3
        have hx : 0 ≤ x.toInt := (s_inJS hE ha c4).1
        obtain ⟨n1, n2⟩ := s_nat hx
        obtain ⟨k1, -⟩ := s_topD hE ha c5
        obtain ⟨-, k4⟩ := s_topD hE ha c6
        refine s_same hE ?_
        have hp : (2 : Nat) ^ f ≤ 2 ^ 30 := Nat.pow_le_pow_right (by decide) hf30
        have hp2 : s_p2 f = ((2 ^ f : Nat) : Int) := rfl
        have hp1 : s_p2 (f + 1) = ((2 ^ (f + 1) : Nat) : Int) := rfl
        have hy : y.toBitVec.toNat = 4294967296 - (2 ^ f + 1) := by
          have h1 : y.toInt = y.toBitVec.toInt := rfl
          rw [BitVec.toInt_eq_toNat_cond] at h1
          have hl := y.toBitVec.isLt
          rw [hp2] at e2
          have hp' : (2 : Nat) ^ f ≤ 1073741824 := hp
          generalize (2 : Nat) ^ f = P at e2 hp' ⊢
          split at h1
          · omega
          · have : ((2 ^ 32 : Nat) : Int) = 4294967296 := rfl
            omega
        have e3 : (x &&& y).toBitVec.toNat = 2 ^ (f + 1) * (x.toBitVec.toNat / 2 ^ (f + 1)) + x.toBitVec.toNat % 2 ^ f := by
          rw [Int32.toBitVec_and, BitVec.toNat_and, hy, s_clr n2 hf30]
        have e4 : (x &&& y).toBitVec.toNat ≤ x.toBitVec.toNat := by
          rw [Int32.toBitVec_and, BitVec.toNat_and]
          exact Nat.and_le_left
        rw [s_addS (s_mulS k1) k4, s_ofnat (z := x &&& y) (by omega), e3, n1, hp1, hp2]
        congr 1
end Bits
