/-! Sets of pieces: how many, what they sum to; the least set; the next with as many. -/
noncomputable def b_cnt : Nat → Nat → Nat
  | 0, _ => 0
  | i + 1, x => b_cnt i x + (if x.testBit i then 1 else 0)
noncomputable def b_sum (f : Nat → Int) : Nat → Nat → Int
  | 0, _ => 0
  | i + 1, x => b_sum f i x + (if x.testBit i then f i else 0)
/-- so many of the first i sum to s -/
noncomputable def b_mk (f : Nat → Int) : Nat → Nat → Int → Bool
  | 0, j, s => decide (j = 0) && decide (s = 0)
  | i + 1, 0, s => b_mk f i 0 s
  | i + 1, j + 1, s => b_mk f i (j + 1) s || b_mk f i j (s - f i)
/-- the least set of them -/
noncomputable def b_pick (f : Nat → Int) : Nat → Nat → Int → Nat
  | 0, _, _ => 0
  | i + 1, j, s => if b_mk f i j s = true then b_pick f i j s else 2 ^ i + b_pick f i (j - 1) (s - f i)
theorem b_cnt_congr {x y : Nat} : ∀ i, (∀ q, q < i → x.testBit q = y.testBit q) → b_cnt i x = b_cnt i y
  | 0, _ => rfl
  | i + 1, h => by rw [b_cnt, b_cnt, b_cnt_congr i (fun q hq => h q (by omega)), h i (by omega)]
theorem b_sum_congr {f : Nat → Int} {x y : Nat} : ∀ i, (∀ q, q < i → x.testBit q = y.testBit q) → b_sum f i x = b_sum f i y
  | 0, _ => rfl
  | i + 1, h => by rw [b_sum, b_sum, b_sum_congr i (fun q hq => h q (by omega)), h i (by omega)]
theorem b_sum_fcongr {f g : Nat → Int} {x : Nat} : ∀ i, (∀ q, q < i → f q = g q) → b_sum f i x = b_sum g i x
  | 0, _ => rfl
  | i + 1, h => by rw [b_sum, b_sum, b_sum_fcongr i (fun q hq => h q (by omega)), h i (by omega)]
theorem b_mk_fcongr {f g : Nat → Int} : ∀ i j s, (∀ q, q < i → f q = g q) → b_mk f i j s = b_mk g i j s
  | 0, _, _, _ => rfl
  | i + 1, 0, s, h => by rw [b_mk, b_mk, b_mk_fcongr i 0 s (fun q hq => h q (by omega))]
  | i + 1, j + 1, s, h => by rw [b_mk, b_mk, b_mk_fcongr i (j + 1) s (fun q hq => h q (by omega)), b_mk_fcongr i j _ (fun q hq => h q (by omega)), h i (by omega)]
theorem b_pick_fcongr {f g : Nat → Int} : ∀ i j s, (∀ q, q < i → f q = g q) → b_pick f i j s = b_pick g i j s
  | 0, _, _, _ => rfl
  | i + 1, j, s, h => by rw [b_pick, b_pick, b_mk_fcongr i j s (fun q hq => h q (by omega)), b_pick_fcongr i j s (fun q hq => h q (by omega)), b_pick_fcongr i _ _ (fun q hq => h q (by omega)), h i (by omega)]
theorem b_cnt_le {x : Nat} : ∀ i, b_cnt i x ≤ i
  | 0 => Nat.le_refl 0
  | i + 1 => by
    have := b_cnt_le (x := x) i
    rw [b_cnt]
    split <;> omega
theorem b_cnt_mono {x : Nat} : ∀ i j, i ≤ j → b_cnt i x ≤ b_cnt j x
  | i, 0, h => by
    have : i = 0 := by omega
    subst this
    exact Nat.le_refl _
  | i, j + 1, h => by
    by_cases e : i = j + 1
    · subst e
      exact Nat.le_refl _
    · have := b_cnt_mono (x := x) i j (by omega)
      rw [b_cnt]
      omega
theorem b_cnt_slow {x : Nat} : ∀ i j, i ≤ j → b_cnt j x + i ≤ b_cnt i x + j
  | i, 0, h => by
    have : i = 0 := by omega
    subst this
    exact Nat.le_refl _
  | i, j + 1, h => by
    by_cases e : i = j + 1
    · subst e
      exact Nat.le_refl _
    · have := b_cnt_slow (x := x) i j (by omega)
      rw [b_cnt]
      split <;> omega
theorem b_cnt_ge {x : Nat} : ∀ i j, x < 2 ^ i → i ≤ j → b_cnt j x = b_cnt i x
  | i, 0, _, h => by
    have : i = 0 := by omega
    subst this
    rfl
  | i, j + 1, hx, h => by
    by_cases e : i = j + 1
    · subst e
      rfl
    · rw [b_cnt, b_cnt_ge i j hx (by omega), Nat.testBit_lt_two_pow (Nat.lt_of_lt_of_le hx (Nat.pow_le_pow_right (by omega) (by omega)))]
      rfl
theorem b_sum_ge {f : Nat → Int} {x : Nat} : ∀ i j, x < 2 ^ i → i ≤ j → b_sum f j x = b_sum f i x
  | i, 0, _, h => by
    have : i = 0 := by omega
    subst this
    rfl
  | i, j + 1, hx, h => by
    by_cases e : i = j + 1
    · subst e
      rfl
    · rw [b_sum, b_sum_ge i j hx (by omega), Nat.testBit_lt_two_pow (Nat.lt_of_lt_of_le hx (Nat.pow_le_pow_right (by omega) (by omega)))]
      simp
theorem b_top {i y : Nat} (hy : y < 2 ^ i) : (2 ^ i + y).testBit i = true ∧ ∀ q, q < i → (2 ^ i + y).testBit q = y.testBit q := by
  refine ⟨?_, fun q hq => Nat.testBit_two_pow_add_gt hq y⟩
  rw [Nat.testBit_two_pow_add_eq, Nat.testBit_lt_two_pow hy]
  rfl
theorem b_cnt_top {i y : Nat} (hy : y < 2 ^ i) : b_cnt (i + 1) (2 ^ i + y) = b_cnt i y + 1 := by
  rw [b_cnt, (b_top hy).1, b_cnt_congr i (b_top hy).2, if_pos rfl]
theorem b_sum_top {f : Nat → Int} {i y : Nat} (hy : y < 2 ^ i) : b_sum f (i + 1) (2 ^ i + y) = b_sum f i y + f i := by
  rw [b_sum, (b_top hy).1, b_sum_congr i (b_top hy).2, if_pos rfl]
theorem b_low {i x : Nat} (hx : x < 2 ^ i) : x.testBit i = false := Nat.testBit_lt_two_pow hx
theorem b_cnt_low {i x : Nat} (hx : x < 2 ^ i) : b_cnt (i + 1) x = b_cnt i x := b_cnt_ge i (i + 1) hx (by omega)
theorem b_sum_low {f : Nat → Int} {i x : Nat} (hx : x < 2 ^ i) : b_sum f (i + 1) x = b_sum f i x := b_sum_ge i (i + 1) hx (by omega)
/-- a set says that it can be made -/
theorem b_mk_set {f : Nat → Int} {x : Nat} : ∀ i, b_mk f i (b_cnt i x) (b_sum f i x) = true
  | 0 => rfl
  | i + 1 => by
    have h := b_mk_set (f := f) (x := x) i
    rw [b_cnt, b_sum]
    by_cases e : x.testBit i = true
    · rw [if_pos e, if_pos e, b_mk, show b_sum f i x + f i - f i = b_sum f i x by omega, h, Bool.or_true]
    · rw [if_neg e, if_neg e, Nat.add_zero, Int.add_zero]
      cases hc : b_cnt i x with
      | zero => rw [b_mk, ← hc, h]
      | succ j => rw [b_mk, ← hc, h, Bool.true_or]
theorem b_mk_up {f : Nat → Int} {i j : Nat} {s : Int} (h : b_mk f i j s = true) : b_mk f (i + 1) j s = true := by
  cases j with
  | zero => rw [b_mk, h]
  | succ j => rw [b_mk, h, Bool.true_or]
theorem b_mk_in {f : Nat → Int} {i j : Nat} {s : Int} (h : b_mk f i j (s - f i) = true) : b_mk f (i + 1) (j + 1) s = true := by
  rw [b_mk, h, Bool.or_true]
theorem b_mk_or {f : Nat → Int} {i j : Nat} {s : Int} (h : b_mk f (i + 1) j s = true) : b_mk f i j s = true ∨ ∃ j', j = j' + 1 ∧ b_mk f i j' (s - f i) = true := by
  cases j with
  | zero => exact Or.inl (by rw [b_mk] at h; exact h)
  | succ j =>
    rw [b_mk, Bool.or_eq_true] at h
    rcases h with h | h
    · exact Or.inl h
    · exact Or.inr ⟨j, rfl, h⟩
theorem b_mk_le {f : Nat → Int} : ∀ i j s, b_mk f i j s = true → j ≤ i
  | 0, j, s, h => by
    simp [b_mk] at h
    omega
  | i + 1, j, s, h => by
    rcases b_mk_or h with h9 | ⟨j', rfl, h9⟩
    · have := b_mk_le i j s h9
      omega
    · have := b_mk_le i j' _ h9
      omega
theorem b_mk_0 {f : Nat → Int} : ∀ i s, b_mk f i 0 s = decide (s = 0)
  | 0, s => by simp [b_mk]
  | i + 1, s => by rw [b_mk, b_mk_0 i s]
/-- the sum of all -/
noncomputable def b_tot (f : Nat → Int) : Nat → Int
  | 0 => 0
  | i + 1 => b_tot f i + f i
theorem b_mk_tot {f : Nat → Int} (hf : ∀ q, 0 ≤ f q) : ∀ i j s, b_mk f i j s = true → 0 ≤ s ∧ s ≤ b_tot f i
  | 0, j, s, h => by
    simp [b_mk] at h
    rw [b_tot]
    omega
  | i + 1, j, s, h => by
    have h0 := hf i
    rw [b_tot]
    rcases b_mk_or h with h9 | ⟨j', rfl, h9⟩
    · have := b_mk_tot hf i j s h9
      omega
    · have := b_mk_tot hf i j' _ h9
      omega
theorem b_mk_all {f : Nat → Int} : ∀ i, b_mk f i i (b_tot f i) = true
  | 0 => rfl
  | i + 1 => b_mk_in (by rw [b_tot, show b_tot f i + f i - f i = b_tot f i by omega]; exact b_mk_all i)
/-- one of them can be left out -/
theorem b_mk_drop {f : Nat → Int} : ∀ i j s, b_mk f i (j + 1) s = true → ∃ q, q < i ∧ b_mk f i j (s - f q) = true
  | 0, j, s, h => by simp [b_mk] at h
  | i + 1, j, s, h => by
    rcases b_mk_or h with h9 | ⟨j', e, h9⟩
    · obtain ⟨q, q1, q2⟩ := b_mk_drop i j s h9
      exact ⟨q, by omega, b_mk_up q2⟩
    · have : j' = j := by omega
      subst this
      exact ⟨i, by omega, b_mk_up h9⟩
theorem b_pick_lt {f : Nat → Int} : ∀ i j s, b_pick f i j s < 2 ^ i
  | 0, _, _ => (by decide : (0 : Nat) < 2 ^ 0)
  | i + 1, j, s => by
    have h1 := b_pick_lt (f := f) i j s
    have h2 := b_pick_lt (f := f) i (j - 1) (s - f i)
    have h3 : 2 ^ (i + 1) = 2 ^ i + 2 ^ i := by rw [Nat.pow_succ]; omega
    rw [b_pick]
    split <;> omega
theorem b_pick_ok {f : Nat → Int} : ∀ i j s, b_mk f i j s = true → b_cnt i (b_pick f i j s) = j ∧ b_sum f i (b_pick f i j s) = s
  | 0, j, s, h => by
    simp [b_mk] at h
    simp [b_cnt, b_sum, h]
  | i + 1, j, s, h => by
    rw [b_pick]
    by_cases e : b_mk f i j s = true
    · rw [if_pos e, b_cnt_low (b_pick_lt i j s), b_sum_low (b_pick_lt i j s)]
      exact b_pick_ok i j s e
    · rw [if_neg e, b_cnt_top (b_pick_lt i _ _), b_sum_top (b_pick_lt i _ _)]
      rcases b_mk_or h with h9 | ⟨j', rfl, h9⟩
      · exact absurd h9 e
      · obtain ⟨h1, h2⟩ := b_pick_ok i j' _ h9
        rw [Nat.add_sub_cancel, h1, h2]
        exact ⟨rfl, by omega⟩
theorem b_pick_le {f : Nat → Int} : ∀ i x, x < 2 ^ i → b_pick f i (b_cnt i x) (b_sum f i x) ≤ x
  | 0, x, _ => Nat.zero_le _
  | i + 1, x, hx => by
    have h3 : 2 ^ (i + 1) = 2 ^ i + 2 ^ i := by rw [Nat.pow_succ]; omega
    rw [b_pick]
    by_cases hl : x < 2 ^ i
    · rw [b_cnt_low hl, b_sum_low hl, if_pos (b_mk_set i)]
      exact b_pick_le i x hl
    · obtain ⟨y, rfl⟩ : ∃ y, x = 2 ^ i + y := ⟨x - 2 ^ i, by omega⟩
      have hy : y < 2 ^ i := by omega
      rw [b_cnt_top hy, b_sum_top hy]
      split
      · have := b_pick_lt (f := f) i (b_cnt i y + 1) (b_sum f i y + f i)
        omega
      · rw [Nat.add_sub_cancel, show b_sum f i y + f i - f i = b_sum f i y by omega]
        have := b_pick_le (f := f) i y hy
        omega
/-! Numbers of bits. -/
theorem b_odd : ∀ x : Nat, 0 < x → ∃ k h, x = 2 ^ k * (2 * h + 1) := by
  intro x
  induction x using Nat.strongRecOn with
  | _ x ih =>
    intro hx
    by_cases e : x % 2 = 1
    · exact ⟨0, x / 2, by omega⟩
    · obtain ⟨k, h, hk⟩ := ih (x / 2) (by omega) (by omega)
      refine ⟨k + 1, h, ?_⟩
      rw [Nat.pow_succ, Nat.mul_right_comm, ← hk]
      omega
theorem b_bit {t a b : Nat} (hb : b < 2 ^ t) (i : Nat) : (2 ^ t * a + b).testBit i = if i < t then b.testBit i else a.testBit (i - t) := Nat.testBit_two_pow_mul_add a hb i
theorem b_cnt_split {t a b : Nat} (hb : b < 2 ^ t) : ∀ K, b_cnt (t + K) (2 ^ t * a + b) = b_cnt t b + b_cnt K a
  | 0 => by
    rw [Nat.add_zero, b_cnt_congr (y := b) t (fun q hq => by rw [b_bit hb, if_pos hq])]
    rfl
  | K + 1 => by
    rw [← Nat.add_assoc, b_cnt, b_cnt_split hb K, b_bit hb, if_neg (show ¬ t + K < t by omega), show t + K - t = K by omega, b_cnt]
    omega
theorem b_cnt_ones {m : Nat} : ∀ t, m ≤ t → b_cnt t (2 ^ m - 1) = m
  | 0, h => by
    have : m = 0 := by omega
    subst this
    rfl
  | t + 1, h => by
    by_cases e : m = t + 1
    · subst e
      have h1 : b_cnt t (2 ^ (t + 1) - 1) = b_cnt t (2 ^ t - 1) := b_cnt_congr t (fun q hq => by
        rw [Nat.testBit_two_pow_sub_one, Nat.testBit_two_pow_sub_one, decide_eq_true hq, decide_eq_true (by omega)])
      rw [b_cnt, h1, b_cnt_ones t (Nat.le_refl t), Nat.testBit_two_pow_sub_one, decide_eq_true (by omega), if_pos rfl]
    · rw [b_cnt, b_cnt_ones t (by omega), Nat.testBit_two_pow_sub_one, decide_eq_false (by omega)]
      rfl
theorem b_cnt_compl {t r : Nat} (hr : r < 2 ^ t) : ∀ i, i ≤ t → b_cnt i (2 ^ t - (r + 1)) + b_cnt i r = i
  | 0, _ => rfl
  | i + 1, h => by
    have ih := b_cnt_compl hr i (by omega)
    rw [b_cnt, b_cnt, Nat.testBit_two_pow_sub_succ hr, decide_eq_true (by omega), Bool.true_and]
    cases r.testBit i <;> simp <;> omega
theorem b_cnt_least {x : Nat} : ∀ t, x < 2 ^ t → 2 ^ b_cnt t x ≤ x + 1
  | 0, h => by simp [b_cnt]
  | t + 1, h => by
    have h3 : 2 ^ (t + 1) = 2 ^ t + 2 ^ t := by rw [Nat.pow_succ]; omega
    by_cases hl : x < 2 ^ t
    · rw [b_cnt_low hl]
      exact b_cnt_least t hl
    · obtain ⟨y, rfl⟩ : ∃ y, x = 2 ^ t + y := ⟨x - 2 ^ t, by omega⟩
      have hy : y < 2 ^ t := by omega
      have h1 := b_cnt_least t hy
      have h2 : 2 ^ b_cnt t y ≤ 2 ^ t := Nat.pow_le_pow_right (by omega) (b_cnt_le t)
      rw [b_cnt_top hy, Nat.pow_succ]
      omega
theorem b_2h1 (h : Nat) : ∀ j, (2 * h + 1).testBit (j + 1) = h.testBit j ∧ (2 * h).testBit (j + 1) = h.testBit j := fun j => by
  rw [Nat.testBit_succ, Nat.testBit_succ, show (2 * h + 1) / 2 = h by omega, show 2 * h / 2 = h by omega]
  exact ⟨rfl, rfl⟩
theorem b_2h0 (h : Nat) : (2 * h + 1).testBit 0 = true ∧ (2 * h).testBit 0 = false := by
  rw [Nat.testBit_zero, Nat.testBit_zero, show (2 * h + 1) % 2 = 1 by omega, show 2 * h % 2 = 0 by omega]
  exact ⟨rfl, rfl⟩
theorem b_cnt_odd {h : Nat} : ∀ K, b_cnt (K + 1) (2 * h + 1) = b_cnt (K + 1) (2 * h) + 1
  | 0 => by
    have e1 : b_cnt (0 + 1) (2 * h + 1) = b_cnt 0 (2 * h + 1) + (if (2 * h + 1).testBit 0 then 1 else 0) := rfl
    have e2 : b_cnt (0 + 1) (2 * h) = b_cnt 0 (2 * h) + (if (2 * h).testBit 0 then 1 else 0) := rfl
    rw [e1, e2, (b_2h0 h).1, (b_2h0 h).2]
    rfl
  | K + 1 => by
    have e1 : b_cnt (K + 1 + 1) (2 * h + 1) = b_cnt (K + 1) (2 * h + 1) + (if (2 * h + 1).testBit (K + 1) then 1 else 0) := rfl
    have e2 : b_cnt (K + 1 + 1) (2 * h) = b_cnt (K + 1) (2 * h) + (if (2 * h).testBit (K + 1) then 1 else 0) := rfl
    rw [e1, e2, b_cnt_odd K, (b_2h1 h K).1, (b_2h1 h K).2]
    omega
/-- the numbers of the next set: x is 2 ^ t * (2 * h + 1) less 2 ^ z -/
theorem b_next {t z h K : Nat} (hz : z < t) : b_cnt (t + (K + 1)) (2 ^ t * (2 * h + 1) + (2 ^ (t - 1 - z) - 1)) = b_cnt (t + (K + 1)) (2 ^ t * (2 * h + 1) - 2 ^ z) ∧
    ∀ y, 2 ^ t * (2 * h + 1) - 2 ^ z < y → y < 2 ^ t * (2 * h + 1) + (2 ^ (t - 1 - z) - 1) → b_cnt (t + (K + 1)) y ≠ b_cnt (t + (K + 1)) (2 ^ t * (2 * h + 1) - 2 ^ z) := by
  have p1 : 2 ^ z < 2 ^ t := Nat.pow_lt_pow_right (by omega) hz
  have p2 : 1 ≤ 2 ^ z := Nat.one_le_two_pow
  have p3 : 2 ^ (t - 1 - z) ≤ 2 ^ t := Nat.pow_le_pow_right (by omega) (by omega)
  have p4 : 1 ≤ 2 ^ (t - 1 - z) := Nat.one_le_two_pow
  have eM : 2 ^ t * (2 * h + 1) = 2 ^ t * (2 * h) + 2 ^ t := by rw [Nat.mul_add, Nat.mul_one]
  have eX : 2 ^ t * (2 * h + 1) - 2 ^ z = 2 ^ t * (2 * h) + (2 ^ t - 2 ^ z) := by omega
  have cz : b_cnt t (2 ^ t - 2 ^ z) = t - z := by
    have h1 := b_cnt_compl (t := t) (r := 2 ^ z - 1) (by omega) t (Nat.le_refl t)
    rw [b_cnt_ones t (by omega), show 2 ^ z - 1 + 1 = 2 ^ z by omega] at h1
    omega
  have cX : b_cnt (t + (K + 1)) (2 ^ t * (2 * h + 1) - 2 ^ z) = t - z + b_cnt (K + 1) (2 * h) := by
    rw [eX, b_cnt_split (a := 2 * h) (b := 2 ^ t - 2 ^ z) (by omega) (K + 1), cz]
  rw [cX]
  refine ⟨?_, fun y h1 h2 => ?_⟩
  · rw [b_cnt_split (a := 2 * h + 1) (b := 2 ^ (t - 1 - z) - 1) (by omega) (K + 1), b_cnt_ones t (by omega), b_cnt_odd]
    omega
  · by_cases e : y < 2 ^ t * (2 * h) + 2 ^ t
    · obtain ⟨r, rfl⟩ : ∃ r, y = 2 ^ t * (2 * h) + r := ⟨y - 2 ^ t * (2 * h), by omega⟩
      have hr : r < 2 ^ t := by omega
      have h3 := b_cnt_compl hr t (Nat.le_refl t)
      have h4 := b_cnt_least t (x := 2 ^ t - (r + 1)) (by omega)
      have h5 : b_cnt t (2 ^ t - (r + 1)) < z := (Nat.pow_lt_pow_iff_right (a := 2) (by omega)).mp (by omega)
      rw [b_cnt_split hr (K + 1)]
      omega
    · obtain ⟨r, rfl⟩ : ∃ r, y = 2 ^ t * (2 * h + 1) + r := ⟨y - 2 ^ t * (2 * h + 1), by omega⟩
      have hr : r < 2 ^ (t - 1 - z) - 1 := by omega
      have h4 := b_cnt_least t (x := r) (by omega)
      have h5 : b_cnt t r < t - 1 - z := (Nat.pow_lt_pow_iff_right (a := 2) (by omega)).mp (by omega)
      rw [b_cnt_split (a := 2 * h + 1) (b := r) (by omega) (K + 1), b_cnt_odd]
      omega
/-! The lowest bit, by the machine's words. -/
theorem b_wbit {k h : Nat} (i : Nat) : (2 ^ k * (2 * h + 1)).testBit i = if i < k then false else (2 * h + 1).testBit (i - k) := by
  have := b_bit (t := k) (a := 2 * h + 1) (b := 0) (Nat.two_pow_pos k) i
  rw [Nat.add_zero, Nat.zero_testBit] at this
  exact this
theorem b_vbit {k h : Nat} (i : Nat) : (2 ^ k * (2 * h + 1) - 1).testBit i = if i < k then true else (2 * h).testBit (i - k) := by
  have p2 : 1 ≤ 2 ^ k := Nat.one_le_two_pow
  have e : 2 ^ k * (2 * h + 1) - 1 = 2 ^ k * (2 * h) + (2 ^ k - 1) := by
    rw [Nat.mul_add, Nat.mul_one]
    omega
  rw [e, b_bit (by omega)]
  by_cases q : i < k
  · rw [if_pos q, if_pos q, Nat.testBit_two_pow_sub_one, decide_eq_true q]
  · rw [if_neg q, if_neg q]
theorem b_1bit {k : Nat} (i : Nat) : (2 ^ k).testBit i = decide (k = i) := Nat.testBit_two_pow
theorem b_and1 {k h : Nat} : (2 ^ k * (2 * h + 1)) &&& (2 ^ k * (2 * h + 1) - 1) = 2 ^ k * (2 * h) := by
  refine Nat.eq_of_testBit_eq (fun i => ?_)
  have e0 := b_bit (t := k) (a := 2 * h) (b := 0) (Nat.two_pow_pos k) i
  rw [Nat.add_zero, Nat.zero_testBit] at e0
  rw [Nat.testBit_and, b_wbit, b_vbit, e0]
  by_cases q : i < k
  · rw [if_pos q, if_pos q, if_pos q]
    rfl
  · rw [if_neg q, if_neg q, if_neg q]
    cases hj : i - k with
    | zero => rw [(b_2h0 h).1, (b_2h0 h).2]; rfl
    | succ j => rw [(b_2h1 h j).1, (b_2h1 h j).2, Bool.and_self]
theorem b_andN {k h : Nat} (hw : 2 ^ k * (2 * h + 1) < 4294967296) : (2 ^ k * (2 * h + 1)) &&& (4294967296 - 2 ^ k * (2 * h + 1)) = 2 ^ k := by
  have p2 : 1 ≤ 2 ^ k := Nat.one_le_two_pow
  have p3 : 2 ^ k * 1 ≤ 2 ^ k * (2 * h + 1) := Nat.mul_le_mul_left _ (by omega)
  have hk : k < 32 := (Nat.pow_lt_pow_iff_right (a := 2) (by omega)).mp (by omega)
  refine Nat.eq_of_testBit_eq (fun i => ?_)
  have e1 := Nat.testBit_two_pow_sub_succ (n := 32) (x := 2 ^ k * (2 * h + 1) - 1) (by omega) i
  rw [show 2 ^ 32 - (2 ^ k * (2 * h + 1) - 1 + 1) = 4294967296 - 2 ^ k * (2 * h + 1) by omega] at e1
  rw [Nat.testBit_and, e1, b_wbit, b_vbit, b_1bit]
  by_cases q : i < k
  · rw [if_pos q, decide_eq_false (show ¬ k = i by omega)]
    rfl
  · rw [if_neg q, if_neg q]
    cases hj : i - k with
    | zero =>
      rw [(b_2h0 h).1, (b_2h0 h).2, decide_eq_true (by omega : i < 32), decide_eq_true (by omega : k = i)]
      rfl
    | succ j =>
      rw [(b_2h1 h j).1, (b_2h1 h j).2, decide_eq_false (by omega : ¬ k = i)]
      cases h.testBit j <;> simp
theorem b_andC {k h : Nat} (hk : k < 32) : ((2 ^ k * (2 * h + 1)) ^^^ 4294967295) &&& (2 ^ k * (2 * h + 1) - 1) < 2 ^ 32 → ((2 ^ k * (2 * h + 1)) ^^^ 4294967295) &&& (2 ^ k * (2 * h + 1) - 1) = 2 ^ k - 1 := by
  intro hlt
  refine Nat.eq_of_testBit_eq (fun i => ?_)
  by_cases h32 : i < 32
  · have e1 := Nat.testBit_two_pow_sub_one 32 i
    rw [show 2 ^ 32 - 1 = 4294967295 from rfl, decide_eq_true h32] at e1
    rw [Nat.testBit_and, Nat.testBit_xor, e1, b_wbit, b_vbit, Nat.testBit_two_pow_sub_one]
    by_cases q : i < k
    · rw [if_pos q, if_pos q, decide_eq_true q]
      rfl
    · rw [if_neg q, if_neg q, decide_eq_false q]
      cases hj : i - k with
      | zero => rw [(b_2h0 h).1, (b_2h0 h).2]; rfl
      | succ j =>
        rw [(b_2h1 h j).1, (b_2h1 h j).2]
        cases h.testBit j <;> rfl
  · rw [Nat.testBit_lt_two_pow (Nat.lt_of_lt_of_le hlt (Nat.pow_le_pow_right (by omega) (by omega))), Nat.testBit_two_pow_sub_one, decide_eq_false (by omega)]
theorem z_xorN {a b : Nat} (ha : a < 2147483648) (hb : b < 2147483648) : z_xor (a : Int) (b : Int) = ((a ^^^ b : Nat) : Int) := by
  unfold z_xor
  have e1 : (Int32.ofInt (a : Int) ^^^ Int32.ofInt (b : Int)).toBitVec.toNat = a ^^^ b := by
    rw [Int32.toBitVec_xor, BitVec.toNat_xor, zn_nat (by omega), zn_nat (by omega)]
  have e3 : a ^^^ b < 2 ^ 31 := Nat.xor_lt_two_pow (by omega) (by omega)
  have e2 := s_ofnat (z := (Int32.ofInt (a : Int) ^^^ Int32.ofInt (b : Int))) (by omega)
  omega
theorem z_lowbit {k h : Nat} (hw : 2 ^ k * (2 * h + 1) < 2147483648) : z_and ((2 ^ k * (2 * h + 1) : Nat) : Int) (-((2 ^ k * (2 * h + 1) : Nat) : Int)) = ((2 ^ k : Nat) : Int) := by
  have p2 : 1 ≤ 2 ^ k := Nat.one_le_two_pow
  have p3 : 2 ^ k * 1 ≤ 2 ^ k * (2 * h + 1) := Nat.mul_le_mul_left _ (by omega)
  have key := b_andN (k := k) (h := h) (by omega)
  generalize 2 ^ k * (2 * h + 1) = w at hw p3 key ⊢
  unfold z_and
  have e0 : (Int32.ofInt (-(w : Int))).toBitVec.toNat = 4294967296 - w := by
    have := z_natS (-(w : Int))
    omega
  have e1 : (Int32.ofInt (w : Int) &&& Int32.ofInt (-(w : Int))).toBitVec.toNat = 2 ^ k := by
    rw [Int32.toBitVec_and, BitVec.toNat_and, zn_nat (by omega), e0, key]
  have e2 := s_ofnat (z := (Int32.ofInt (w : Int) &&& Int32.ofInt (-(w : Int)))) (by omega)
  omega
theorem z_ntzv {k h : Nat} (hw : 2 ^ k * (2 * h + 1) < 2147483648) : z_and (z_xor ((2 ^ k * (2 * h + 1) : Nat) : Int) (-1)) (((2 ^ k * (2 * h + 1) : Nat) : Int) - 1) = ((2 ^ k - 1 : Nat) : Int) := by
  have p2 : 1 ≤ 2 ^ k := Nat.one_le_two_pow
  have p3 : 2 ^ k * 1 ≤ 2 ^ k * (2 * h + 1) := Nat.mul_le_mul_left _ (by omega)
  have hk : k < 31 := (Nat.pow_lt_pow_iff_right (a := 2) (by omega)).mp (by omega)
  have key := b_andC (k := k) (h := h) (by omega)
  generalize 2 ^ k * (2 * h + 1) = w at hw p3 key ⊢
  have key2 := key (Nat.lt_of_le_of_lt Nat.and_le_right (by omega))
  unfold z_and z_xor
  rw [z_ofN]
  have e0 : (Int32.ofInt ((w : Int) - 1)).toBitVec.toNat = w - 1 := by
    have := z_natS ((w : Int) - 1)
    omega
  have e9 : (Int32.ofInt (-1)).toBitVec.toNat = 4294967295 := by decide +kernel
  have e1 : ((Int32.ofInt (w : Int) ^^^ Int32.ofInt (-1)) &&& Int32.ofInt ((w : Int) - 1)).toBitVec.toNat = 2 ^ k - 1 := by
    rw [Int32.toBitVec_and, BitVec.toNat_and, Int32.toBitVec_xor, BitVec.toNat_xor, zn_nat (by omega), e0, e9, key2]
  have e2 := s_ofnat (z := ((Int32.ofInt (w : Int) ^^^ Int32.ofInt (-1)) &&& Int32.ofInt ((w : Int) - 1))) (by omega)
  omega
theorem z_clear {k h : Nat} (hw : 2 ^ k * (2 * h + 1) < 2147483648) : z_and ((2 ^ k * (2 * h + 1) : Nat) : Int) (((2 ^ k * (2 * h + 1) : Nat) : Int) - 1) = ((2 ^ k * (2 * h) : Nat) : Int) := by
  have p2 : 1 ≤ 2 ^ k := Nat.one_le_two_pow
  have p3 : 2 ^ k * 1 ≤ 2 ^ k * (2 * h + 1) := Nat.mul_le_mul_left _ (by omega)
  have key := b_and1 (k := k) (h := h)
  generalize 2 ^ k * (2 * h + 1) = w at hw p3 key ⊢
  rw [show (w : Int) - 1 = ((w - 1 : Nat) : Int) by omega, z_andN hw (by omega), key]
/-- without its lowest bit -/
theorem b_clear_sum {f : Nat → Int} {k h : Nat} : ∀ N, b_sum f N (2 ^ k * (2 * h + 1)) = b_sum f N (2 ^ k * (2 * h)) + (if k < N then f k else 0)
  | 0 => rfl
  | N + 1 => by
    have e0 := b_bit (t := k) (a := 2 * h) (b := 0) (Nat.two_pow_pos k) N
    rw [Nat.add_zero, Nat.zero_testBit] at e0
    rw [b_sum, b_sum, b_clear_sum N, b_wbit, e0]
    by_cases q : N < k
    · rw [if_pos q, if_pos q, if_neg (show ¬ k < N by omega), if_neg (show ¬ k < N + 1 by omega)]
      simp
    · rw [if_neg q, if_neg q]
      cases hj : N - k with
      | zero =>
        have : N = k := by omega
        subst this
        rw [(b_2h0 h).1, (b_2h0 h).2, if_neg (show ¬ N < N by omega), if_pos (show N < N + 1 by omega)]
        simp
      | succ j =>
        rw [(b_2h1 h j).1, (b_2h1 h j).2, if_pos (show k < N by omega), if_pos (show k < N + 1 by omega)]
        split <;> omega
theorem b_sum_0 {f : Nat → Int} : ∀ N, b_sum f N 0 = 0
  | 0 => rfl
  | N + 1 => by
    rw [b_sum, b_sum_0 N, Nat.zero_testBit]
    rfl
/-- the next set by the machine's words -/
theorem z_gos {x : Nat} (h0 : 0 < x) (hx : x < 1048576) : ¬ z_and (x : Int) (-(x : Int)) = 0 ∧ ∃ n1 : Nat, z_or ((x : Int) + z_and (x : Int) (-(x : Int))) (z_shr (Int.tdiv (z_xor (x : Int) ((x : Int) + z_and (x : Int) (-(x : Int)))) (z_and (x : Int) (-(x : Int)))) 2) = (n1 : Int) ∧ x < n1 ∧ n1 ≤ 2 * x ∧ b_cnt 22 n1 = b_cnt 22 x ∧ ∀ y, x < y → y < n1 → b_cnt 22 y ≠ b_cnt 22 x := by
  obtain ⟨z, h', hz⟩ := b_odd x h0
  have q1 : 1 ≤ 2 ^ z := Nat.one_le_two_pow
  have q2 : 2 ^ z * 1 ≤ 2 ^ z * (2 * h' + 1) := Nat.mul_le_mul_left _ (by omega)
  have el : z_and (x : Int) (-(x : Int)) = ((2 ^ z : Nat) : Int) := by
    rw [hz]
    exact z_lowbit (by omega)
  rw [el]
  refine ⟨by omega, ?_⟩
  obtain ⟨t, h, ht⟩ := b_odd (x + 2 ^ z) (by omega)
  have p1 : 1 ≤ 2 ^ t := Nat.one_le_two_pow
  have p2 : 2 ^ t * 1 ≤ 2 ^ t * (2 * h + 1) := Nat.mul_le_mul_left _ (by omega)
  have t20 : t < 21 := (Nat.pow_lt_pow_iff_right (a := 2) (by omega)).mp (by omega)
  have hzt : z < t := by
    rcases Nat.lt_or_ge z t with q | q
    · exact q
    · exfalso
      have e1 : x + 2 ^ z = 2 ^ t * (2 ^ (z - t) * (2 * (h' + 1))) := by
        rw [← Nat.mul_assoc, ← Nat.pow_add, show t + (z - t) = z by omega, hz]
        rw [show 2 * (h' + 1) = 2 * h' + 1 + 1 by omega, Nat.mul_add (2 ^ z) (2 * h' + 1) 1, Nat.mul_one]
      have e2 := Nat.eq_of_mul_eq_mul_left (by omega) (ht.symm.trans e1)
      rw [Nat.mul_left_comm] at e2
      omega
  obtain ⟨w, hw⟩ : ∃ w, t = z + 1 + w := ⟨t - z - 1, by omega⟩
  have et : 2 ^ t = 2 * (2 ^ z * 2 ^ w) := by
    rw [hw, Nat.pow_add, Nat.pow_succ]
    rw [Nat.mul_comm (2 ^ z) 2, Nat.mul_assoc]
  have ew : t - 1 - z = w := by omega
  have q3 : 1 ≤ 2 ^ w := Nat.one_le_two_pow
  have eM : 2 ^ t * (2 * h + 1) = 2 ^ t * (2 * h) + 2 ^ t := by rw [Nat.mul_add, Nat.mul_one]
  have hzt2 : 2 ^ z < 2 ^ t := Nat.pow_lt_pow_right (by omega) hzt
  have hsum : 2 ^ z + 2 ^ w ≤ 2 ^ z * 2 ^ w + 1 := by
    obtain ⟨a, ha⟩ : ∃ a, 2 ^ z = a + 1 := ⟨2 ^ z - 1, by omega⟩
    obtain ⟨b, hb⟩ : ∃ b, 2 ^ w = b + 1 := ⟨2 ^ w - 1, by omega⟩
    rw [ha, hb, Nat.add_mul, Nat.mul_add]
    have := Nat.zero_le (a * b)
    omega
  have exor : x ^^^ (x + 2 ^ z) = 2 ^ z * (4 * 2 ^ w - 1) := by
    have e1 : x = 2 ^ t * (2 * h) + (2 ^ t - 2 ^ z) := by omega
    have e2 : 2 ^ z * (4 * 2 ^ w - 1) = 2 ^ t * 1 + (2 ^ t - 2 ^ z) := by
      rw [Nat.mul_sub, Nat.mul_left_comm, Nat.mul_one]
      omega
    refine Nat.eq_of_testBit_eq (fun i => ?_)
    have c1 : x.testBit i = if i < t then (2 ^ t - 2 ^ z).testBit i else (2 * h).testBit (i - t) := by
      rw [e1]
      exact b_bit (by omega) i
    have c3 : (2 ^ t * 1 + (2 ^ t - 2 ^ z)).testBit i = if i < t then (2 ^ t - 2 ^ z).testBit i else (1 : Nat).testBit (i - t) := b_bit (by omega) i
    rw [Nat.testBit_xor, ht, b_wbit, c1, e2, c3]
    by_cases q : i < t
    · rw [if_pos q, if_pos q, if_pos q, Bool.xor_false]
    · rw [if_neg q, if_neg q, if_neg q]
      have b1 := b_2h0 0
      have b2 := b_2h1 0
      cases hj : i - t with
      | zero =>
        rw [(b_2h0 h).1, (b_2h0 h).2, b1.1]
        rfl
      | succ j =>
        rw [(b_2h1 h j).1, (b_2h1 h j).2, (b2 j).1, Nat.zero_testBit, Bool.xor_self]
  have b22 : 2 ^ z * (4 * 2 ^ w - 1) < 2147483648 := by
    rw [← exor]
    exact Nat.lt_of_lt_of_le (Nat.xor_lt_two_pow (n := 22) (by omega) (by omega)) (by decide)
  have ed : 2 ^ z * (4 * 2 ^ w - 1) / 2 ^ z = 4 * 2 ^ w - 1 := Nat.mul_div_cancel_left _ (by omega)
  have p21 : 2 ^ w < 2 ^ 21 := Nat.pow_lt_pow_right (by omega) (by omega)
  refine ⟨2 ^ t * (2 * h + 1) + (2 ^ w - 1), ?_, by omega, by omega, ?_⟩
  · rw [show (x : Int) + ((2 ^ z : Nat) : Int) = ((x + 2 ^ z : Nat) : Int) from rfl, z_xorN (by omega) (by omega), exor]
    rw [show Int.tdiv ((2 ^ z * (4 * 2 ^ w - 1) : Nat) : Int) ((2 ^ z : Nat) : Int) = ((2 ^ z * (4 * 2 ^ w - 1) / 2 ^ z : Nat) : Int) from rfl, ed]
    have e5 : z_shr ((4 * 2 ^ w - 1 : Nat) : Int) 2 = ((2 ^ w - 1 : Nat) : Int) := by
      rw [show (2 : Int) = ((2 : Nat) : Int) from rfl, z_shrE _ (by omega), wr_id (by omega) (by omega)]
      generalize 2 ^ w = Q at q3 ⊢
      omega
    rw [e5, z_orN (by omega) (by omega), ht]
    rw [Nat.two_pow_add_eq_or_of_lt (i := t) (b := 2 ^ w - 1) (by omega) (2 * h + 1)]
  · have := b_next (t := t) (z := z) (h := h) (K := 21 - t) hzt
    rw [ew, show t + (21 - t + 1) = 22 by omega, ← ht, show x + 2 ^ z - 2 ^ z = x by omega, ht] at this
    exact this
