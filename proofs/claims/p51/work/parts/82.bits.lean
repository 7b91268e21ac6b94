/-! Sets as bits. -/
theorem zn_nat {n : Nat} (h : n < 4294967296) : (Int32.ofInt (n : Int)).toBitVec.toNat = n := by
  have := z_natS (n : Int)
  omega
theorem z_andN {a b : Nat} (ha : a < 2147483648) (hb : b < 4294967296) : z_and (a : Int) (b : Int) = ((a &&& b : Nat) : Int) := by
  unfold z_and
  have e1 : (Int32.ofInt (a : Int) &&& Int32.ofInt (b : Int)).toBitVec.toNat = a &&& b := by
    rw [Int32.toBitVec_and, BitVec.toNat_and, zn_nat (by omega), zn_nat hb]
  have e3 : a &&& b ≤ a := Nat.and_le_left
  have e2 := s_ofnat (z := (Int32.ofInt (a : Int) &&& Int32.ofInt (b : Int))) (by omega)
  omega
theorem z_orN {a b : Nat} (ha : a < 2147483648) (hb : b < 2147483648) : z_or (a : Int) (b : Int) = ((a ||| b : Nat) : Int) := by
  unfold z_or
  have e1 : (Int32.ofInt (a : Int) ||| Int32.ofInt (b : Int)).toBitVec.toNat = a ||| b := by
    rw [Int32.toBitVec_or, BitVec.toNat_or, zn_nat (by omega), zn_nat (by omega)]
  have e3 : a ||| b < 2 ^ 31 := Nat.or_lt_two_pow (by omega) (by omega)
  have e2 := s_ofnat (z := (Int32.ofInt (a : Int) ||| Int32.ofInt (b : Int))) (by omega)
  omega
theorem z_shl1T : ∀ i : Nat, i < 31 → z_shl 1 (i : Int) = ((2 ^ i : Nat) : Int) := by decide +kernel
theorem z_bit {n i : Nat} (hn : n < 2147483648) (hi : i ≤ 31) : z_and (z_shr (n : Int) (i : Int)) 1 = if n.testBit i then 1 else 0 := by
  have e1 : z_shr (n : Int) (i : Int) = ((n / 2 ^ i : Nat) : Int) := by
    rw [z_shrE _ hi, wr_id (by omega) (by omega)]
    exact (Int.natCast_ediv n (2 ^ i)).symm.trans (by rw [Int.natCast_ediv])
  have e2 : n / 2 ^ i ≤ n := Nat.div_le_self n _
  rw [e1, show (1 : Int) = ((1 : Nat) : Int) from rfl, z_andN (by omega) (by omega), Nat.and_one_is_mod, Nat.testBit_eq_decide_div_mod_eq]
  have h2 : n / 2 ^ i % 2 < 2 := Nat.mod_lt _ (by omega)
  by_cases q : n / 2 ^ i % 2 = 1
  · rw [q]
    rfl
  · have q0 : n / 2 ^ i % 2 = 0 := by omega
    rw [q0]
    rfl
/-- those of the first so many of which c holds -/
noncomputable def bset (c : Nat → Bool) : Nat → Nat
  | 0 => 0
  | p + 1 => if c p then bset c p ||| 2 ^ p else bset c p
theorem bset_lt {c : Nat → Bool} : ∀ p, bset c p < 2 ^ p
  | 0 => (by decide : (0 : Nat) < 2 ^ 0)
  | p + 1 => by
    have h := bset_lt (c := c) p
    have h2 : bset c p < 2 ^ (p + 1) := Nat.lt_of_lt_of_le h (Nat.pow_le_pow_right (by omega) (by omega))
    rw [bset]
    split
    · exact Nat.or_lt_two_pow h2 (Nat.pow_lt_pow_right (by omega) (by omega))
    · exact h2
theorem bset_bit {c : Nat → Bool} : ∀ p i, (bset c p).testBit i = (decide (i < p) && c i)
  | 0, i => by
    rw [bset, Nat.zero_testBit, decide_eq_false (by omega), Bool.false_and]
  | p + 1, i => by
    rw [bset]
    by_cases hc : c p = true
    · rw [if_pos hc, Nat.testBit_or, bset_bit p i, Nat.testBit_two_pow]
      by_cases e : i = p
      · subst e
        rw [hc]
        simp
      · have e2 : decide (p = i) = false := decide_eq_false (fun x => e x.symm)
        have e3 : decide (i < p + 1) = decide (i < p) := by
          by_cases q : i < p
          · rw [decide_eq_true q, decide_eq_true (by omega)]
          · rw [decide_eq_false q, decide_eq_false (by omega)]
        rw [e2, e3, Bool.or_false]
    · rw [if_neg hc, bset_bit p i]
      by_cases e : i = p
      · subst e
        rw [Bool.eq_false_iff.mpr hc, Bool.and_false, Bool.and_false]
      · have e3 : decide (i < p + 1) = decide (i < p) := by
          by_cases q : i < p
          · rw [decide_eq_true q, decide_eq_true (by omega)]
          · rw [decide_eq_false q, decide_eq_false (by omega)]
        rw [e3]
theorem bset_congr {c d : Nat → Bool} : ∀ p, (∀ i, i < p → c i = d i) → bset c p = bset d p
  | 0, _ => rfl
  | p + 1, h => by rw [bset, bset, h p (by omega), bset_congr p (fun i hi => h i (by omega))]
/-- one more, by either program -/
theorem bset_step {c : Nat → Bool} {p : Nat} (hp : p < 31) (h : c p = true) : z_or (bset c p : Int) (z_shl 1 (p : Int)) = (bset c (p + 1) : Int) := by
  have h1 := bset_lt (c := c) p
  have h2 : 2 ^ p ≤ 2 ^ 30 := Nat.pow_le_pow_right (by omega) (by omega)
  rw [z_shl1T p hp, z_orN (by omega) (by omega), bset, if_pos h]
theorem bset_skip {c : Nat → Bool} {p : Nat} (h : ¬ c p = true) : (bset c p : Int) = (bset c (p + 1) : Int) := by
  rw [bset, if_neg h]
theorem bset_skip0 {c : Nat → Bool} {p : Nat} (hp : p < 31) (h : ¬ c p = true) : z_or (bset c p : Int) 0 = (bset c (p + 1) : Int) := by
  have h1 := bset_lt (c := c) p
  have h2 : 2 ^ p ≤ 2 ^ 30 := Nat.pow_le_pow_right (by omega) (by omega)
  rw [show (0 : Int) = ((0 : Nat) : Int) from rfl, z_orN (by omega) (by omega), Nat.or_zero, bset, if_neg h]
section ZBits
variable {T : Nat → Nat → zG → (Option zA → zM → Prop) → Prop} {B : Int}
/-- same LAW by both -/
theorem z_sameR (hT : zRules T) {D : Nat} {κ : Option zA → zM → Prop} {m M0 : zM} {sc : zSc} {n k nn : Nat} {c : Nat → Bool} (hI : Inv B sc n k m) (hA : Agree coreK m M0) (hnn : nn ≤ 99) (hB0 : zB M0) (hc : c = fun p => decide (laF m p (m 75 p).toNat nn = laF m p (m 75 p).toNat 0))
    (hk : ∀ M1, zB M1 → Agree coreK m M1 → κ (some (zi (bset c n : Int))) M1) : T (D + 172) 255 (21, [(0, zr 74), (1, zi (nn : Int)), (2, zi 0), (3, zi 0)], [], M0) κ := by
  have b17 : 0 ≤ m 17 0 ∧ m 17 0 ≤ 6 := hI.1 17 0
  have n1 := hI.2.2.2.1.1.1
  have n2 := hI.2.2.2.1.1.2
  have hok := hI.2.2.2.1.2.2.2.2
  have key : ∀ (j t : Nat) (M : zM), t + j = n → zB M → zFr (inL lbL) M0 M → T (D + 172) 255 (21, [(0, zr 74), (1, zi (nn : Int)), (2, zi (bset c t : Int)), (3, zi (t : Int))], [], M) κ := by
    intro j
    induction j with
    | zero =>
      intro t M ht hBM hF
      have et : t = n := by omega
      subst et
      have hAM : Agree coreK m M := hA.trans (.of hF rfl)
      have h1 := bset_lt (c := c) t
      have h2 : 2 ^ t ≤ 2 ^ 6 := Nat.pow_le_pow_right (by omega) (by omega)
      exact zb255_21 (D := D + 169) hT rfl hBM hnn (by omega) (by omega) (fun _ => hk M hBM hAM) (fun q => by have := hAM 74 4 rfl; omega)
    | succ j ih =>
      intro t M ht hBM hF
      have hAM : Agree coreK m M := hA.trans (.of hF rfl)
      have h1 := bset_lt (c := c) t
      have h2 : 2 ^ t ≤ 2 ^ 6 := Nat.pow_le_pow_right (by omega) (by omega)
      have bpl := (hok.1 t (by omega)).1
      have hpl : m 75 t = ((m 75 t).toNat : Int) := by omega
      have e4 := hAM 74 4 rfl
      refine zb255_21 (D := D + 169) hT rfl hBM hnn (by omega) (by omega) (fun q => by omega) (fun _ => ?_)
      refine z_lawInF (pl := (m 75 t).toNat) hT hI hBM (hAM.sub (fun q hq => List.mem_append.mpr (Or.inr (List.mem_append.mpr (Or.inl hq))))) (funext fun j => hAM 78 j rfl) (hAM 75 57 rfl) (by omega) ((hAM 75 t rfl).trans hpl) (by omega) (fun M1 hB1 hF1 => ?_)
      have hAM1 : Agree coreK m M1 := hAM.trans (.of hF1 rfl)
      refine zb255_36 (D := D + 169) hT rfl hB1 hnn (by omega) (by omega) laFB ?_
      refine z_lawInF (d := 0) (pl := (m 75 t).toNat) hT hI hB1 (hAM1.sub (fun q hq => List.mem_append.mpr (Or.inr (List.mem_append.mpr (Or.inl hq))))) (funext fun j => hAM1 78 j rfl) (hAM1 75 57 rfl) (by omega) ((hAM1 75 t rfl).trans hpl) (by omega) (fun M2 hB2 hF2 => ?_)
      have ih2 := ih (t + 1) M2 (by omega) hB2 ((hF.trans hF1).trans hF2)
      refine zb255_42 (D := D + 169) hT rfl hB2 hnn (by omega) (by omega) laFB laFB (fun q => ?_) (fun q => ?_)
      · rw [bset_skip0 (by omega) (by rw [hc]; simpa using q)]
        exact ih2
      · rw [bset_step (by omega) (by rw [hc]; simpa using q)]
        exact ih2
  exact key n 0 M0 (by omega) hB0 zFr.refl
theorem z_sameC (hT : zRules T) {D : Nat} {κ : Option zA → zM → Prop} {m : zM} {sc : zSc} {n k nn : Nat} {c : Nat → Bool} (hI : Inv B sc n k m) (hnn : nn ≤ 99) (hc : c = fun p => decide (laF m p (m 75 p).toNat nn = laF m p (m 75 p).toNat 0))
    (hk : ∀ M1, zB M1 → Agree coreK m M1 → κ (some (zi (bset c n : Int))) M1) : T (D + 5) 139 (16, [(0, zr 1), (1, zi (nn : Int)), (2, zi 0), (3, zi 0)], [], m) κ := by
  have b17 : 0 ≤ m 17 0 ∧ m 17 0 ≤ 6 := hI.1 17 0
  have h4 := hI.2.2.2.1
  have n1 := h4.1.1
  have hok := h4.2.2.2.2
  have key : ∀ (j t : Nat) (M : zM), t + j = n → zB M → zFr (inL [(13, none)]) m M → T (D + 5) 139 (16, [(0, zr 1), (1, zi (nn : Int)), (2, zi (bset c t : Int)), (3, zi (t : Int))], [], M) κ := by
    intro j
    induction j with
    | zero =>
      intro t M ht hBM hF
      have et : t = n := by omega
      subst et
      have hAM : Agree coreK m M := .of hF rfl
      have h1 := bset_lt (c := c) t
      have h2 : 2 ^ t ≤ 2 ^ 6 := Nat.pow_le_pow_right (by omega) (by omega)
      exact zb139_16 hT rfl hBM hnn (by omega) (by omega) (fun _ => hk M hBM hAM) (fun q => by have := hF 17 0 rfl; omega)
    | succ j ih =>
      intro t M ht hBM hF
      have hA : Agree KL m M := .of hF rfl
      have h1 := bset_lt (c := c) t
      have h2 : 2 ^ t ≤ 2 ^ 6 := Nat.pow_le_pow_right (by omega) (by omega)
      have bpl := (hok.1 t (by omega)).1
      have hpl : m 75 t = ((m 75 t).toNat : Int) := by omega
      obtain ⟨r1, r2⟩ := h4.2.2.2.1.1 t (by omega)
      obtain ⟨h78, h18⟩ := h4.2.2.1 t (by omega)
      have b1711 : 0 ≤ M 17 11 ∧ M 17 11 ≤ 400000 := hBM 17 11
      refine zb139_16 hT rfl hBM hnn (by omega) (by omega) (fun q => by have := hF 17 0 rfl; omega) (fun _ => ?_)
      rw [hF 19 t rfl, r1, hpl]
      refine z_lawAt hT hBM (by omega) (by rw [hF 18 t rfl]; omega) (by omega) (by omega) (hA.law.1 hI.2.2.1).1 (fun m1 hB1 hF1 => ?_)
      have hF1b : zFr (inL [(13, none)]) M m1 := hF1.sub (fun c j q => by
        have := Nat.eq_of_beq_eq_true q
        subst this
        rfl)
      have hA1 : Agree KL m m1 := hA.trans (.of hF1b rfl)
      have ev : LW M (M 18 t) (t : Int) (m 75 t).toNat (M 17 11 + nn) = laF m t (m 75 t).toNat nn := by
        unfold laF
        rw [hA.law.2, hF 18 t rfl, hF 17 11 rfl]
      rw [ev]
      refine zb139_50 hT rfl hB1 hnn (by omega) (by omega) laFB ?_
      refine z_lawNow (pl := (m 75 t).toNat) hT hB1 (by omega) (by rw [hF1b 18 t rfl, hF 18 t rfl]; omega) (by rw [hF1b 19 t rfl, hF 19 t rfl, r1]; exact hpl) (by omega) (hA1.law.1 hI.2.2.1).1 (fun m2 hB2 hF2 => ?_)
      have hF2b : zFr (inL [(13, none)]) m1 m2 := hF2.sub (fun c j q => by
        have := Nat.eq_of_beq_eq_true q
        subst this
        rfl)
      have ev2 : LW m1 (m1 18 t) (t : Int) (m 75 t).toNat (m1 17 11) = laF m t (m 75 t).toNat 0 := by
        unfold laF
        rw [hA1.law.2, hF1b 18 t rfl, hF 18 t rfl, hF1b 17 11 rfl, hF 17 11 rfl]
        rw [show m 17 11 + ((0 : Nat) : Int) = m 17 11 by omega]
      rw [ev2]
      have ih2 := ih (t + 1) m2 (by omega) hB2 ((hF.trans hF1b).trans hF2b)
      refine zb139_55 hT rfl hB2 hnn (by omega) (by omega) laFB laFB (fun q => ?_) (fun q => ?_)
      · rw [bset_skip (by rw [hc]; simpa using q)]
        exact ih2
      · rw [bset_step (by omega) (by rw [hc]; simpa using q)]
        exact ih2
  exact key n 0 m (by omega) hI.1 zFr.refl
theorem w_same (hT : zRules T) {v : Int} (hv : isI v) : Way T 139 255 [(0, zr 1), (1, zi v)] [(0, zr 74), (1, zi v)] 5 172 B B True := by
  rintro D m sc ⟨n, k, hI⟩ κ hκ
  have hI0 := hI
  have i1 := hI.1
  have hB1 : zB (zu m 74 12 0) := zB_u i1 trivial
  have hA12 : Agree coreK m (zu m 74 12 0) := .of (L := [(74, some 12)]) (zFr.refl.set rfl) rfl
  have no : ¬ (0 ≤ v ∧ v ≤ 99) → κ (some (zi (-1))) m := by
    intro hno
    refine hκ _ _ (fun D2 κ2 h2 => ?_)
    have fin : κ2 (some (zi (-1))) (zu m 74 12 0) := h2 _ _ (fun _ => rfl) ⟨n, k, Inv_fr hA12 hB1 hI0⟩
    exact zb255_0 (D := D2 + 169) hT i1 hv (fun _ _ => fin) (fun _ _ _ => fin) (fun q1 q2 => absurd ⟨by omega, by omega⟩ hno)
  refine zb139_0 hT i1 hv (fun _ => no (by omega)) (fun q1 q2 => ?_) (fun _ _ => no (by omega))
  obtain ⟨nn, rfl⟩ : ∃ a : Nat, v = (a : Int) := ⟨v.toNat, by omega⟩
  refine z_sameC hT hI0 (by omega) rfl (fun M hBM hAM => hκ _ _ (fun D2 κ2 h2 => ?_))
  refine zb255_0 (D := D2 + 169) hT hBM hv (fun x => by omega) (fun _ x => by omega) (fun _ _ hz => ?_)
  exact z_sameR hT hI0 (hAM.trans (.of (L := [(74, some 12)]) (zFr.refl.set rfl) rfl)) (by omega) hz rfl (fun M1 hB3 hA3 => h2 _ _ (fun _ => rfl) ⟨n, k, Inv_fr hA3 hB3 hI0⟩)
end ZBits
