/-! late(): the least, by both. -/
/-- the hours of those of the first t that are in x -/
noncomputable def hsum (H : Nat → Int) (x : Nat) : Nat → Int
  | 0 => 0
  | t + 1 => hsum H x t + (if x.testBit t = true then H t else 0)
theorem hsum_rng {H : Nat → Int} {x : Nat} {a : Int} (ha : 0 ≤ a) : ∀ t : Nat, (∀ j, j < t → 0 ≤ H j ∧ H j ≤ a) → 0 ≤ hsum H x t ∧ hsum H x t ≤ a * t
  | 0, _ => ⟨Int.le_refl 0, by rw [hsum]; simp⟩
  | t + 1, h => by
    have ih := hsum_rng (x := x) ha t (fun j hj => h j (by omega))
    have h1 := h t (by omega)
    have e : a * ((t + 1 : Nat) : Int) = a * t + a := by rw [Int.natCast_succ, Int.mul_add, Int.mul_one]
    rw [hsum, e]
    split <;> omega
theorem hsum_congr {H H2 : Nat → Int} {x : Nat} : ∀ t : Nat, (∀ j, j < t → H2 j = H j) → hsum H2 x t = hsum H x t
  | 0, _ => rfl
  | t + 1, h => by rw [hsum, hsum, hsum_congr t (fun j hj => h j (by omega)), h t (by omega)]
theorem hsum_or {H : Nat → Int} {x c : Nat} (hc : x.testBit c = false) : ∀ t : Nat, hsum H (x ||| 2 ^ c) t = hsum H x t + (if c < t then H c else 0)
  | 0 => by rw [hsum, hsum, if_neg (Nat.not_lt_zero c)]; rfl
  | t + 1 => by
    rw [hsum, hsum, hsum_or hc t, Nat.testBit_or, Nat.testBit_two_pow]
    by_cases e : c = t
    · subst e
      rw [hc, if_neg (Nat.lt_irrefl c), if_pos (Nat.lt_succ_self c), if_pos (by simp), if_neg (by simp)]
    · have e2 : decide (c = t) = false := decide_eq_false e
      rw [e2, Bool.or_false]
      by_cases q : c < t
      · rw [if_pos q, if_pos (show c < t + 1 by omega), Int.add_right_comm]
      · rw [if_neg q, if_neg (show ¬ c < t + 1 by omega), Int.add_zero, Int.add_zero]
/-- the least of those of the first t that are not in x -/
noncomputable def mo (x : Nat) (v : Nat → Int) : Nat → Option Int
  | 0 => none
  | t + 1 => if x.testBit t = true then mo x v t else match mo x v t with
    | none => some (v t)
    | some b => if v t < b then some (v t) else some b
theorem mo_yes {x : Nat} {v : Nat → Int} {t : Nat} (h : x.testBit t = true) : mo x v (t + 1) = mo x v t := by rw [mo, if_pos h]
theorem mo_no0 {x : Nat} {v : Nat → Int} {t : Nat} (h : x.testBit t = false) (e : mo x v t = none) : mo x v (t + 1) = some (v t) := by rw [mo, if_neg (by rw [h]; decide), e]
theorem mo_no1 {x : Nat} {v : Nat → Int} {t : Nat} {b : Int} (h : x.testBit t = false) (e : mo x v t = some b) : mo x v (t + 1) = if v t < b then some (v t) else some b := by rw [mo, if_neg (by rw [h]; decide), e]
theorem mo_none {x : Nat} {v : Nat → Int} : ∀ t : Nat, mo x v t = none → ∀ q, q < t → x.testBit q = true
  | 0, _, q, hq => absurd hq (Nat.not_lt_zero q)
  | t + 1, h, q, hq => by
    cases hb : x.testBit t with
    | true =>
      rw [mo_yes hb] at h
      by_cases e : q = t
      · rw [e]; exact hb
      · exact mo_none t h q (by omega)
    | false =>
      cases he : mo x v t with
      | none => rw [mo_no0 hb he] at h; cases h
      | some b =>
        rw [mo_no1 hb he] at h
        split at h <;> cases h
theorem mo_congr {x : Nat} {v v2 : Nat → Int} : ∀ t : Nat, (∀ j, j < t → x.testBit j = false → v2 j = v j) → mo x v2 t = mo x v t
  | 0, _ => rfl
  | t + 1, h => by
    have ih := mo_congr (x := x) (v := v) (v2 := v2) t (fun j hj => h j (by omega))
    cases hb : x.testBit t with
    | true => rw [mo_yes hb, mo_yes hb, ih]
    | false =>
      cases he : mo x v t with
      | none => rw [mo_no0 hb he, mo_no0 hb (ih.trans he), h t (by omega) hb]
      | some b => rw [mo_no1 hb he, mo_no1 hb (ih.trans he), h t (by omega) hb]
theorem mo_rng {x : Nat} {v : Nat → Int} {lo hi : Int} : ∀ t : Nat, (∀ j, j < t → lo ≤ v j ∧ v j ≤ hi) → ∀ b, mo x v t = some b → lo ≤ b ∧ b ≤ hi
  | 0, _, b, h => by cases h
  | t + 1, hv, b, h => by
    have ih := mo_rng (x := x) t (fun j hj => hv j (by omega))
    have h1 := hv t (by omega)
    cases hb : x.testBit t with
    | true =>
      rw [mo_yes hb] at h
      exact ih b h
    | false =>
      cases he : mo x v t with
      | none =>
        rw [mo_no0 hb he] at h
        cases h
        exact h1
      | some b2 =>
        rw [mo_no1 hb he] at h
        split at h
        · cases h
          exact h1
        · cases h
          exact ih _ he
/-- how late one is that is done next -/
noncomputable def latE (H U : Nat → Int) (N x j : Nat) : Int := if 0 < hsum H x N + H j - U j then hsum H x N + H j - U j else 0
/-- the least that the rest is late, d of them being left -/
noncomputable def lTd (H U : Nat → Int) (N : Nat) : Nat → Nat → Int
  | 0, _ => 0
  | d + 1, x => (mo x (fun j => latE H U N x j + lTd H U N d (x ||| 2 ^ j)) N).getD 0
theorem latE_rng {H U : Nat → Int} {N x j : Nat} (hN : N ≤ 7) (hH : ∀ j, j < N → 0 ≤ H j ∧ H j ≤ 20) (hU : ∀ j, j < N → 0 ≤ U j) (hj : j < N) : 0 ≤ latE H U N x j ∧ latE H U N x j ≤ 160 := by
  have h1 := hsum_rng (x := x) (a := 20) (by omega) N hH
  have h2 := hH j hj
  have h3 := hU j hj
  unfold latE
  split <;> omega
theorem lTd_rng {H U : Nat → Int} {N : Nat} (hN : N ≤ 7) (hH : ∀ j, j < N → 0 ≤ H j ∧ H j ≤ 20) (hU : ∀ j, j < N → 0 ≤ U j) : ∀ d x : Nat, 0 ≤ lTd H U N d x ∧ lTd H U N d x ≤ 160 * d
  | 0, _ => ⟨Int.le_refl 0, by rw [lTd]; omega⟩
  | d + 1, x => by
    have ih := fun y => lTd_rng hN hH hU d y
    rw [lTd]
    cases he : mo x (fun j => latE H U N x j + lTd H U N d (x ||| 2 ^ j)) N with
    | none =>
      show (0 : Int) ≤ 0 ∧ (0 : Int) ≤ 160 * ((d + 1 : Nat) : Int)
      omega
    | some b =>
      have := mo_rng (lo := 0) (hi := 160 * ((d + 1 : Nat) : Int)) N (fun j hj => by
        have h1 := latE_rng (x := x) hN hH hU hj
        have h2 := ih (x ||| 2 ^ j)
        omega) b he
      exact this
theorem lTd_some {H U : Nat → Int} {N d x : Nat} {b : Int} (h : mo x (fun j => latE H U N x j + lTd H U N d (x ||| 2 ^ j)) N = some b) : lTd H U N (d + 1) x = b := by
  rw [lTd, h]
  rfl
noncomputable def mnB (a b : Int) : Int := if b < a then b else a
noncomputable def accL (b0 t : Int) : Option Int → Int
  | none => b0
  | some b => mnB b0 (t + b)
theorem accL_step {b0 t : Int} {x c : Nat} {v : Nat → Int} (h : x.testBit c = false) : mnB (accL b0 t (mo x v c)) (t + v c) = accL b0 t (mo x v (c + 1)) := by
  cases he : mo x v c with
  | none =>
    rw [mo_no0 h he]
    rfl
  | some b =>
    rw [mo_no1 h he]
    by_cases q : v c < b
    · rw [if_pos q]
      unfold accL mnB
      dsimp only
      split <;> split <;> (try split) <;> omega
    · rw [if_neg q]
      unfold accL mnB
      dsimp only
      split <;> split <;> (try split) <;> omega
theorem pop_le : ∀ N : Nat, N < 8 → ∀ y : Nat, y < 128 → y < 2 ^ N → popc7 y ≤ N := by decide +kernel
theorem pop_lt : ∀ N : Nat, N < 8 → ∀ y : Nat, y < 128 → y + 1 < 2 ^ N → popc7 y < N := by decide +kernel
theorem pop_full : ∀ N : Nat, N < 8 → popc7 (2 ^ N - 1) = N := by decide +kernel
theorem or_gt : ∀ g : Nat, g < 7 → ∀ x : Nat, x < 128 → x.testBit g = false → x < x ||| 2 ^ g := by decide +kernel
theorem or_2p {N x g : Nat} (hx : x < 2 ^ N) (hg : g < N) : x ||| 2 ^ g < 2 ^ N := Nat.or_lt_two_pow hx (Nat.pow_lt_pow_right (by omega) hg)
section ZLateX
variable {T : Nat → Nat → zG → (Option zA → zM → Prop) → Prop} {B : Int}
theorem z_hoursOf (hT : zRules T) {D : Nat} {κ : Option zA → zM → Prop} {m : zM} {x N : Nat} (hB : zB m) (hN : m 64 2 = (N : Int)) (hx : x ≤ 127) (hk : (0 ≤ hsum (m 65) x N ∧ hsum (m 65) x N ≤ 140) → κ (some (zi (hsum (m 65) x N))) m) : T (D + 2) 98 (0, [(0, zr 64), (1, zi (x : Int))], [], m) κ := by
  have b64 : 0 ≤ m 64 2 ∧ m 64 2 ≤ 7 := hB 64 2
  have rng : ∀ t : Nat, 0 ≤ hsum (m 65) x t ∧ hsum (m 65) x t ≤ 20 * t := fun t => hsum_rng (by omega) t (fun j _ => hB 65 j)
  have key : ∀ (j t : Nat), t + j = N → T (D + 2) 98 (4, [(0, zr 64), (1, zi (x : Int)), (2, zi (hsum (m 65) x t)), (3, zi (t : Int))], [], m) κ := by
    intro j
    induction j with
    | zero =>
      intro t ht
      have et : t = N := by omega
      subst et
      have := rng t
      exact zb98_4 hT rfl hB hx (by omega) (by omega) (fun _ => hk (by omega)) (fun q => by omega)
    | succ j ih =>
      intro t ht
      have := rng t
      have b65 : 0 ≤ m 65 t ∧ m 65 t ≤ 20 := hB 65 t
      refine zb98_4 hT rfl hB hx (by omega) (by omega) (fun q => by omega) (fun _ => ?_)
      rw [z_bit (by omega) (by omega)]
      have h1 := ih (t + 1) (by omega)
      rw [hsum] at h1
      by_cases e : x.testBit t = true
      · rw [if_pos e] at h1
        rw [if_pos e, Int.one_mul]
        exact h1
      · rw [if_neg e, Int.add_zero] at h1
        rw [if_neg e, Int.zero_mul, Int.add_zero]
        exact h1
  exact zb98_0 hT hB hx (key N 0 (by omega))
theorem z_lateWith (hT : zRules T) {D : Nat} {κ : Option zA → zM → Prop} {m : zM} {x g N : Nat} {h : Int} (hB : zB m) (hN : m 64 2 = (N : Int)) (hx : x ≤ 127) (hh : 0 ≤ h ∧ h ≤ 140) (hg : g < N) (h70 : 0 ≤ m 70 (x ||| 2 ^ g) ∧ m 70 (x ||| 2 ^ g) ≤ 2000)
    (hk : κ (some (zi ((if 0 < h + m 65 g - m 66 g then h + m 65 g - m 66 g else 0) + m 70 (x ||| 2 ^ g)))) m) : T (D + 2) 100 (0, [(0, zr 64), (1, zi (x : Int)), (2, zi h), (3, zi (g : Int))], [], m) κ := by
  have b64 : 0 ≤ m 64 2 ∧ m 64 2 ≤ 7 := hB 64 2
  have b65 : 0 ≤ m 65 g ∧ m 65 g ≤ 20 := hB 65 g
  have b66 : 0 ≤ m 66 g ∧ m 66 g ≤ 99 := hB 66 g
  obtain ⟨e1, e2⟩ := orB (x := x) (f := g) (by omega) (by omega)
  refine zb100_0 hT hB hx hh (by omega) (fun q => by omega) (fun _ _ _ => by rw [e1]; omega) (fun _ _ q => ?_) (fun _ _ _ => by rw [e1]; omega) (fun _ _ q => ?_) (fun _ q => by omega)
  · rw [Int.toNat_natCast] at q ⊢
    rw [if_pos q] at hk
    rw [e1, Int.toNat_natCast, wr_id (by omega) (by omega)]
    exact hk
  · rw [Int.toNat_natCast] at q
    rw [if_neg q] at hk
    rw [e1, Int.toNat_natCast, wr_id (by omega) (by omega)]
    exact hk
theorem z_firstLL (hT : zRules T) {D : Nat} {κ : Option zA → zM → Prop} {m : zM} {x N : Nat} {h : Int} {v : Nat → Int} (hB : zB m) (hN : m 64 2 = (N : Int)) (hx : x ≤ 127) (hh : 0 ≤ h ∧ h ≤ 140)
    (hv : ∀ g, g < N → x.testBit g = false → v g = (if 0 < h + m 65 g - m 66 g then h + m 65 g - m 66 g else 0) + m 70 (x ||| 2 ^ g) ∧ (0 ≤ m 70 (x ||| 2 ^ g) ∧ m 70 (x ||| 2 ^ g) ≤ 2000))
    (hk : ∀ f : Int, ((f = -1 ∧ mo x v N = none) ∨ ∃ g : Nat, f = (g : Int) ∧ g < N ∧ x.testBit g = false ∧ mo x v N = some (v g)) → κ (some (zi f)) m) : T (D + 3) 101 (0, [(0, zr 64), (1, zi (x : Int)), (2, zi h)], [], m) κ := by
  have b64 : 0 ≤ m 64 2 ∧ m 64 2 ≤ 7 := hB 64 2
  have key : ∀ (j t : Nat) (f b : Int), t + j = N → ((f = -1 ∧ b = 0 ∧ mo x v t = none) ∨ ∃ g : Nat, f = (g : Int) ∧ g < t ∧ x.testBit g = false ∧ mo x v t = some (v g) ∧ b = v g) → T (D + 3) 101 (8, [(0, zr 64), (1, zi (x : Int)), (2, zi h), (3, zi f), (4, zi b), (5, zi (t : Int))], [], m) κ := by
    intro j
    induction j with
    | zero =>
      intro t f b ht hf
      have et : t = N := by omega
      subst et
      have fb : (-1 ≤ f ∧ f ≤ 6) ∧ isI b := by
        rcases hf with ⟨h0, h1, _⟩ | ⟨g, h0, h1, h2, _, h4⟩
        · unfold isI; omega
        · have b65 : 0 ≤ m 65 g ∧ m 65 g ≤ 20 := hB 65 g
          have b66 : 0 ≤ m 66 g ∧ m 66 g ≤ 99 := hB 66 g
          obtain ⟨h5, h6⟩ := hv g h1 h2
          rw [h4, h5]
          unfold isI
          split <;> omega
      exact zb101_8 hT rfl hB hx hh fb.1 fb.2 (by omega) (fun _ => hk f (hf.imp (fun q => ⟨q.1, q.2.2⟩) (fun ⟨g, q1, q2, q3, q4, _⟩ => ⟨g, q1, q2, q3, q4⟩))) (fun q => by omega) (fun q => by omega)
    | succ j ih =>
      intro t f b ht hf
      have fb : (-1 ≤ f ∧ f ≤ 6) ∧ isI b := by
        rcases hf with ⟨h0, h1, _⟩ | ⟨g, h0, h1, h2, _, h4⟩
        · unfold isI; omega
        · have b65 : 0 ≤ m 65 g ∧ m 65 g ≤ 20 := hB 65 g
          have b66 : 0 ≤ m 66 g ∧ m 66 g ≤ 99 := hB 66 g
          obtain ⟨h5, h6⟩ := hv g (by omega) h2
          rw [h4, h5]
          unfold isI
          split <;> omega
      refine zb101_8 hT rfl hB hx hh fb.1 fb.2 (by omega) (fun q => by omega) (fun _ q => ?_) (fun _ q => ?_)
      · have hbt := bit_yes (x := x) (t := t) (by omega) (by omega) q
        refine ih (t + 1) f b (by omega) ?_
        rw [mo_yes hbt]
        rcases hf with h0 | ⟨g, h0, h1, h2⟩
        · exact Or.inl h0
        · exact Or.inr ⟨g, h0, by omega, h2⟩
      · have hbt := bit_no (x := x) (t := t) (by omega) (by omega) q
        obtain ⟨v1, v2⟩ := hv t (by omega) hbt
        have b65 : 0 ≤ m 65 t ∧ m 65 t ≤ 20 := hB 65 t
        have b66 : 0 ≤ m 66 t ∧ m 66 t ≤ 99 := hB 66 t
        have vI : isI (v t) := by
          rw [v1]
          unfold isI
          split <;> omega
        refine z_lateWith hT hB hN hx hh (by omega) v2 ?_
        rw [← v1]
        have nx : mo x v (t + 1) = some (v t) → T (D + 3) 101 (8, [(0, zr 64), (1, zi (x : Int)), (2, zi h), (3, zi (t : Int)), (4, zi (v t)), (5, zi ((t : Int) + 1))], [], m) κ := fun e => ih (t + 1) (t : Int) (v t) (by omega) (Or.inr ⟨t, rfl, by omega, hbt, e, rfl⟩)
        refine zb101_34 hT rfl hB hx hh fb.1 fb.2 (by omega) vI (fun q2 => ?_) (fun q2 q3 => ?_) (fun q2 q3 => ?_)
        · rcases hf with ⟨h0, _, h2⟩ | ⟨g, h0, _⟩
          · exact nx (mo_no0 hbt h2)
          · omega
        · rcases hf with ⟨h0, _⟩ | ⟨g, h0, h1, h2, h3, h4⟩
          · exact absurd h0 q2
          · refine ih (t + 1) f b (by omega) (Or.inr ⟨g, h0, by omega, h2, ?_, h4⟩)
            rw [mo_no1 hbt h3, if_neg (by omega)]
        · rcases hf with ⟨h0, _⟩ | ⟨g, h0, h1, h2, h3, h4⟩
          · exact absurd h0 q2
          · exact nx (by rw [mo_no1 hbt h3, if_pos (by omega)])
  exact zb101_0 hT hB hx hh (key N 0 (-1) 0 (by omega) (Or.inl ⟨rfl, rfl, rfl⟩))
theorem z_orderLL (hT : zRules T) {D : Nat} {κ : Option zA → zM → Prop} {m : zM} {N : Nat} (hB : zB m) (hN : m 64 2 = (N : Int)) (hk : ∀ M, zB M → zFr (inL [(67, none), (70, none)]) m M → κ (some (zi (lTd (m 65) (m 66) N N 0))) M) : T (D + 4) 99 (0, [(0, zr 64)], [], m) κ := by
  have b64 : 0 ≤ m 64 2 ∧ m 64 2 ≤ 7 := hB 64 2
  have hN7 : N ≤ 7 := by omega
  have hH : ∀ j, j < N → 0 ≤ m 65 j ∧ m 65 j ≤ 20 := fun j _ => hB 65 j
  have hU : ∀ j, j < N → 0 ≤ m 66 j := fun j _ => (hB 66 j).1
  have hLT := lTd_rng hN7 hH hU
  have p7 : 2 ^ N ≤ 2 ^ 7 := Nat.pow_le_pow_right (by omega) (by omega)
  have p1 : 1 ≤ 2 ^ N := Nat.one_le_two_pow
  have second : ∀ (j t x : Nat) (M : zM), t + j = N → x < 128 → popc7 x = t → zB M → zFr (inL [(67, none), (70, none)]) m M → M 70 0 = lTd (m 65) (m 66) N N 0 → T (D + 4) 99 (58, [(0, zr 64), (2, zi (x : Int)), (3, zi (t : Int))], [], M) κ := by
    intro j
    induction j with
    | zero =>
      intro t x M ht hx hp hBM hF h70
      have e64 : M 64 2 = (N : Int) := (hF 64 2 rfl).trans hN
      refine zb99_58 hT rfl hBM (by omega) (by omega) (fun _ => ?_) (fun q => by omega)
      have := hLT N 0
      rw [h70, wr_id (by omega) (by omega)]
      exact hk M hBM hF
    | succ j ih =>
      intro t x M ht hx hp hBM hF h70
      have e64 : M 64 2 = (N : Int) := (hF 64 2 rfl).trans hN
      refine zb99_58 hT rfl hBM (by omega) (by omega) (fun q => by omega) (fun _ => ?_)
      refine z_hoursOf0 (D := D + 1) hT hBM e64 (by omega) (fun h hh => ?_)
      refine zb99_78 hT rfl hBM (by omega) (by omega) hh ?_
      refine z_firstLL0 (D := D) hT hBM e64 (by omega) hh (fun f hf => ?_)
      have hg : ∃ g : Nat, f = (g : Int) ∧ g < N ∧ x.testBit g = false := by
        rcases hf with ⟨_, h1⟩ | h0
        · have := full_p N (by omega) x hx h1
          omega
        · exact h0
      obtain ⟨g, rfl, g7, gb⟩ := hg
      refine zb99_81 hT rfl hBM (by omega) (by omega) (by omega) (fun hz => ?_)
      obtain ⟨e1, e2⟩ := orB (x := x) (f := g) (by omega) (by omega)
      rw [e1]
      exact ih (t + 1) _ _ (by omega) e2 (by rw [set_p g (by omega) x hx gb, hp]) hz (hF.set rfl) (by rw [zu_dn (by omega)]; exact h70)
  have first : ∀ (j : Nat) (M : zM), j < 2 ^ N → zB M → zFr (inL [(67, none), (70, none)]) m M → (∀ y, j ≤ y → y < 2 ^ N → M 70 y = lTd (m 65) (m 66) N (N - popc7 y) y) → T (D + 4) 99 (20, [(0, zr 64), (2, zi ((j : Int) - 1))], [], M) κ := by
    intro j
    induction j with
    | zero =>
      intro M hj hBM hF hD
      have h0 := hD 0 (by omega) (by omega)
      rw [show popc7 0 = 0 from by decide, Nat.sub_zero] at h0
      exact zb99_20 hT rfl hBM (by omega) (fun _ => second N 0 0 M (by omega) (by omega) (by decide) hBM hF h0) (fun q => by omega)
    | succ j ih =>
      intro M hj hBM hF hD
      have e64 : M 64 2 = (N : Int) := (hF 64 2 rfl).trans hN
      have e65 : M 65 = m 65 := funext fun q => hF 65 q rfl
      have e66 : M 66 = m 66 := funext fun q => hF 66 q rfl
      rw [show ((j + 1 : Nat) : Int) - 1 = (j : Int) by omega]
      refine zb99_20 hT rfl hBM (by omega) (fun q => by omega) (fun _ => ?_)
      refine z_hoursOf (D := D + 1) hT hBM e64 (by omega) (fun hh => ?_)
      rw [e65] at hh ⊢
      refine zb99_29 hT rfl hBM (by omega) hh ?_
      have hpl := pop_lt N (by omega) j (by omega) (by omega)
      obtain ⟨d, hd⟩ : ∃ d : Nat, N - popc7 j = d + 1 := ⟨N - popc7 j - 1, by omega⟩
      have h70 : ∀ g, g < N → j.testBit g = false → M 70 (j ||| 2 ^ g) = lTd (m 65) (m 66) N d (j ||| 2 ^ g) := fun g hg hb => by
        rw [hD (j ||| 2 ^ g) (by have := or_gt g (by omega) j (by omega) hb; omega) (or_2p (by omega) hg), set_p g (by omega) j (by omega) hb, show N - (popc7 j + 1) = d by omega]
      have hvv : ∀ g, g < N → j.testBit g = false → (fun q => latE (m 65) (m 66) N j q + lTd (m 65) (m 66) N d (j ||| 2 ^ q)) g = (if 0 < hsum (m 65) j N + M 65 g - M 66 g then hsum (m 65) j N + M 65 g - M 66 g else 0) + M 70 (j ||| 2 ^ g) ∧ (0 ≤ M 70 (j ||| 2 ^ g) ∧ M 70 (j ||| 2 ^ g) ≤ 2000) := fun g hg hb => by
        rw [h70 g hg hb, e65, e66]
        have := hLT d (j ||| 2 ^ g)
        exact ⟨rfl, by omega, by omega⟩
      refine z_firstLL (D := D) hT hBM e64 (by omega) hh hvv (fun f hf => ?_)
      have hg : ∃ g : Nat, f = (g : Int) ∧ g < N ∧ j.testBit g = false ∧ mo j (fun q => latE (m 65) (m 66) N j q + lTd (m 65) (m 66) N d (j ||| 2 ^ q)) N = some (latE (m 65) (m 66) N j g + lTd (m 65) (m 66) N d (j ||| 2 ^ g)) := by
        rcases hf with ⟨_, h1⟩ | h0
        · have := full_p N (by omega) j (by omega) (mo_none N h1)
          omega
        · exact h0
      obtain ⟨g, rfl, g7, gb, gm⟩ := hg
      refine zb99_44 hT rfl hBM (by omega) hh (by omega) ?_
      obtain ⟨w1, w2⟩ := hvv g g7 gb
      refine z_lateWith (D := D + 1) hT hBM e64 (by omega) hh g7 w2 ?_
      have w3 : latE (m 65) (m 66) N j g + lTd (m 65) (m 66) N d (j ||| 2 ^ g) = (if 0 < hsum (m 65) j N + M 65 g - M 66 g then hsum (m 65) j N + M 65 g - M 66 g else 0) + M 70 (j ||| 2 ^ g) := w1
      rw [← w3]
      have hv1 := latE_rng (x := j) hN7 hH hU g7
      have hv2 := hLT d (j ||| 2 ^ g)
      refine zb99_47 hT rfl hBM (by omega) hh (by omega) (fun hz => ?_)
      refine ih _ (by omega) hz (hF.set rfl) (fun y h1 h2 => ?_)
      by_cases e : y = j
      · subst e
        rw [zu_sm rfl, hd]
        exact (lTd_some gm).symm
      · rw [zu_off (by omega)]
        exact hD y (by omega) h2
  have es : z_shl 1 (m 64 2) = ((2 ^ N : Nat) : Int) := by rw [hN, z_shl1T N (by omega)]
  have ew : wr (((2 ^ N : Nat) : Int) - 1) = ((2 ^ N : Nat) : Int) - 1 := by
    generalize 2 ^ N = P at p7 p1
    exact wr_id (by omega) (by omega)
  have et : (((2 ^ N : Nat) : Int) - 1).toNat = 2 ^ N - 1 := by
    generalize 2 ^ N = P at p7 p1
    omega
  refine zb99_0 hT hB ?_ ?_
  · rw [es, ew]
    generalize 2 ^ N = P at p7 p1
    omega
  · intro hz
    rw [es, ew, et] at hz ⊢
    have h1 := first (2 ^ N - 1) _ (by omega) hz (zFr.refl.set rfl) (fun y h1 h2 => by
      have ey : y = 2 ^ N - 1 := by omega
      rw [ey, zu_sm rfl, pop_full N (by omega), Nat.sub_self]
      rfl)
    rw [show ((2 ^ N - 1 : Nat) : Int) - 1 = ((2 ^ N : Nat) : Int) - 1 - 1 by
      generalize 2 ^ N = P at p7 p1
      omega] at h1
    exact h1
theorem z_goOrder (hT : zRules T) {N : Nat} {H U : Nat → Int} (hN7 : N ≤ 7) (hH : ∀ j, j < N → 0 ≤ H j ∧ H j ≤ 20) (hU : ∀ j, j < N → 0 ≤ U j) : ∀ (j : Nat) (D : Nat) (κ : Option zA → zM → Prop) (m : zM) (k x : Nat) (t : Int), zB m → m 74 54 = (N : Int) → (∀ c, c < N → m 100 (2 * c) = H c ∧ m 100 (2 * c + 1) = U c) → k + j = N → x < 128 → popc7 x = k → (0 ≤ t ∧ t ≤ 160 * k) → (0 ≤ m 74 57 ∧ m 74 57 ≤ 100000000) → (∀ M, zB M → zFr (inL goL) m M → M 74 57 = mnB (m 74 57) (t + lTd H U N j x) → κ none M) →
    T (D + j + 1) 280 (0, [(0, zr 74), (1, zi (k : Int)), (2, zi (x : Int)), (3, zi (hsum H x N)), (4, zi t)], [], m) κ := by
  have hLT := lTd_rng hN7 hH hU
  intro j
  induction j with
  | zero =>
    intro D κ m k x t hB hN hJ hkj hx hp ht h57 hk
    have hs := hsum_rng (x := x) (a := 20) (by omega) N hH
    rw [lTd, Int.add_zero] at hk
    have w57 := wr_id (a := m 74 57) (by omega) (by omega)
    refine zb280_0 (D := D) hT hB (by omega) (by omega) (by omega) (by omega) (fun _ q => by omega) (fun q _ hz => ?_) (fun q => ?_)
    · rw [w57] at q
      have key : ∀ (i c : Nat) (M : zM), c + i = k → zB M → zFr (inL goL) m M → M 74 57 = t → T (D + 1) 280 (27, [(0, zr 74), (1, zi (k : Int)), (5, zi (c : Int))], [], M) κ := by
        intro i
        induction i with
        | zero =>
          intro c M hc hBM hF h57
          exact zb280_27 (D := D) hT rfl hBM (by omega) (by omega) (fun _ => hk M hBM hF (by rw [h57]; unfold mnB; rw [if_pos q])) (fun q => by omega)
        | succ i ih =>
          intro c M hc hBM hF h57
          exact zb280_27 (D := D) hT rfl hBM (by omega) (by omega) (fun q => by omega) (fun _ hz2 => ih (c + 1) _ (by omega) hz2 (hF.set rfl) (by rw [zu_dn (by omega)]; exact h57))
      exact key k 0 _ (by omega) hz (zFr.refl.set rfl) (by rw [zu_sm rfl])
    · rw [w57] at q
      exact hk m hB zFr.refl (by unfold mnB; rw [if_neg q])
  | succ j ih =>
    intro D κ m k x t hB hN hJ hkj hx hp ht h57 hk
    have hs := hsum_rng (x := x) (a := 20) (by omega) N hH
    have w57 := wr_id (a := m 74 57) (by omega) (by omega)
    have hL := hLT (j + 1) x
    have loop : ∀ (i c : Nat) (M : zM), c + i = N → zB M → zFr (inL goL) m M → M 74 57 = accL (m 74 57) t (mo x (fun q => latE H U N x q + lTd H U N j (x ||| 2 ^ q)) c) → (0 ≤ M 74 57 ∧ M 74 57 ≤ 100000000) → T (D + (j + 1) + 1) 280 (57, [(0, zr 74), (1, zi (k : Int)), (2, zi (x : Int)), (3, zi (hsum H x N)), (4, zi t), (5, zi (c : Int))], [], M) κ := by
      intro i
      induction i with
      | zero =>
        intro c M hc hBM hF h57a h57b
        have ec : c = N := by omega
        subst ec
        have e54 : M 74 54 = (c : Int) := (hF 74 54 rfl).trans hN
        refine zb280_57 (D := D + j + 1) hT rfl hBM (by omega) (by omega) (by omega) (by omega) (by omega) (fun _ => hk M hBM hF ?_) (fun q => by omega) (fun q => by omega) (fun q => by omega)
        rw [h57a]
        cases he : mo x (fun q => latE H U c x q + lTd H U c j (x ||| 2 ^ q)) c with
        | none =>
          have := full_p c (by omega) x hx (mo_none c he)
          omega
        | some b =>
          rw [lTd_some he]
          rfl
      | succ i ih2 =>
        intro c M hc hBM hF h57a h57b
        have e54 : M 74 54 = (N : Int) := (hF 74 54 rfl).trans hN
        obtain ⟨j1, j2⟩ := hJ c (by omega)
        have b0 : M 100 (2 * c) = H c := (hF 100 _ rfl).trans j1
        have b1 : M 100 (2 * c + 1) = U c := (hF 100 _ rfl).trans j2
        obtain ⟨e1, e2⟩ := orB (x := x) (f := c) hx (by omega)
        have hl := latE_rng (x := x) hN7 hH hU (show c < N by omega)
        have hcb : ∀ y : Nat, x.testBit c = false → y = x ||| 2 ^ c → hsum H y N = hsum H x N + H c := fun y hb hy => by
          rw [hy, hsum_or hb, if_pos (show c < N by omega)]
        have go : x.testBit c = false → zB (zu M 101 k (c : Int)) → T (D + j + 1) 280 (0, [(0, zr 74), (1, zi ((k : Int) + 1)), (2, zi (z_or (x : Int) (z_shl 1 (c : Int)))), (3, zi (hsum H x N + (M 100 (2 * c)))), (4, zi (t + latE H U N x c))], [], (zu M 101 k (c : Int))) (fun r m1 => T (D + (j + 1) + 1) 280 (135, [(0, zr 74), (1, zi (k : Int)), (2, zi (x : Int)), (3, zi (hsum H x N)), (4, zi t), (5, zi (c : Int)), (6, zi (hsum H x N + (M 100 (2 * c))))], r.toList ++ [], m1) κ) := by
          intro hb hz
          rw [e1, b0, ← hcb _ hb rfl]
          refine ih D _ _ (k + 1) (x ||| 2 ^ c) (t + latE H U N x c) hz (by rw [zu_dn (by omega), e54]) (fun q hq => by rw [zu_dn (by omega), zu_dn (by omega), hF 100 _ rfl, hF 100 _ rfl]; exact hJ q hq) (by omega) e2 (by rw [set_p c (by omega) x hx hb, hp]) (by omega) (by rw [zu_dn (by omega)]; exact h57b) (fun M2 hB2 hF2 h57c => ?_)
          rw [zu_dn (by omega), h57a, Int.add_assoc] at h57c
          have h57d := h57c.trans (accL_step (b0 := m 74 57) (t := t) (v := fun q => latE H U N x q + lTd H U N j (x ||| 2 ^ q)) hb)
          have hLj := hLT j (x ||| 2 ^ c)
          have r57 : 0 ≤ M2 74 57 ∧ M2 74 57 ≤ 100000000 := by
            rw [h57c, ← h57a]
            unfold mnB
            split <;> omega
          exact zb280_135 (D := D + j + 1) hT rfl hB2 (by omega) (by omega) (by omega) (by omega) (by omega) (ih2 (c + 1) M2 (by omega) hB2 ((hF.set rfl).trans hF2) h57d r57)
        have bt1 : ¬ (z_and (z_shr (x : Int) (c : Int)) 1) = 1 → x.testBit c = false := fun q => by
          rw [z_bit (by omega) (by omega)] at q
          cases hb : x.testBit c with
          | false => rfl
          | true => rw [hb, if_pos rfl] at q; exact absurd rfl q
        have bt2 : (z_and (z_shr (x : Int) (c : Int)) 1) = 1 → x.testBit c = true := fun q => by
          rw [z_bit (by omega) (by omega)] at q
          cases hb : x.testBit c with
          | true => rfl
          | false => rw [hb, if_neg (by decide)] at q; cases q
        refine zb280_57 (D := D + j + 1) hT rfl hBM (by omega) (by omega) (by omega) (by omega) (by omega) (fun q => by omega) (fun _ q q2 hz => ?_) (fun _ q q2 hz => ?_) (fun _ q => ?_)
        · have h1 := go (bt1 q) hz
          rw [b0, b1] at q2
          have e9 : latE H U N x c = hsum H x N + M 100 (2 * c) - M 100 (2 * c + 1) := by
            rw [b0, b1]
            unfold latE
            rw [if_pos q2]
          rw [e9] at h1
          exact h1
        · have h1 := go (bt1 q) hz
          rw [b0, b1] at q2
          have e9 : latE H U N x c = 0 := by
            unfold latE
            rw [if_neg q2]
          rw [e9] at h1
          exact h1
        · exact ih2 (c + 1) M (by omega) hBM hF (by rw [mo_yes (bt2 q)]; exact h57a) h57b
    refine zb280_0 (D := D + j + 1) hT hB (by omega) (by omega) (by omega) (by omega) (fun _ _ => loop N 0 m (by omega) hB zFr.refl rfl h57) (fun _ q => by omega) (fun q => ?_)
    rw [w57] at q
    exact hk m hB zFr.refl (by unfold mnB; rw [if_neg (by omega)])
theorem w_late (hT : zRules T) : Way T 155 281 [(0, zr 1)] [(0, zr 74)] 5 9 B B True := by
  rintro D m sc ⟨n, k, hI⟩ κ hκ
  have hI0 := hI
  obtain ⟨i1, i2, i3, i4, i5, i6, i7, i8, i9, i10, i11⟩ := hI
  have b64 : 0 ≤ m 64 2 ∧ m 64 2 ≤ 7 := i1 64 2
  obtain ⟨N, hN⟩ : ∃ N : Nat, m 64 2 = (N : Int) := ⟨(m 64 2).toNat, by omega⟩
  have hH : ∀ j, j < N → 0 ≤ m 65 j ∧ m 65 j ≤ 20 := fun j _ => i1 65 j
  have hU : ∀ j, j < N → 0 ≤ m 66 j := fun j _ => (i1 66 j).1
  have hLT := lTd_rng (by omega) hH hU N 0
  have hs0 : hsum (m 65) 0 N = 0 := by
    have : ∀ t, hsum (m 65) 0 t = 0 := by
      intro t
      induction t with
      | zero => rfl
      | succ t ih => rw [hsum, ih, Nat.zero_testBit, if_neg (by decide)]; rfl
    exact this N
  have ref : ∀ (M0 : zM), zB M0 → Agree coreK0 m M0 → M0 72 1 = (N : Int) → κ (some (zi (lTd (m 65) (m 66) N N 0))) M0 := by
    intro M0 hB0 hA0 h72
    refine hκ _ _ (fun D2 κ2 h2 => ?_)
    refine zb281_0 (D := D2 + 7) hT hB0 (fun hz => ?_)
    have hA1 : Agree coreK0 m (zu (zu M0 74 12 0) 74 57 100000000) := hA0.trans (.of (L := [(74, some 12), (74, some 57)]) ((zFr.refl.set rfl).set rfl) rfl)
    have e54 : (zu (zu M0 74 12 0) 74 57 100000000) 74 54 = (N : Int) := by rw [hA1 74 54 rfl, i9.1, hN]
    have hgo := z_goOrder (N := N) (H := m 65) (U := m 66) hT (by omega) hH hU N (D2 + (7 - N)) (fun r m1 => T (D2 + 7 + 2) 281 (20, [(0, zr 74)], r.toList ++ [], m1) κ2) _ 0 0 0 hz e54 (fun c hc => by
      have := i9.2 c (by omega)
      rw [hA1 100 _ rfl, hA1 100 _ rfl]
      exact ⟨this.1, this.2.1⟩) (by omega) (by omega) (by decide) (by omega) (by rw [zu_sm rfl]; omega)
    rw [show D2 + (7 - N) + N + 1 = D2 + 7 + 1 by omega, hs0] at hgo
    refine hgo (fun M hBM hF h57 => ?_)
    have e57 : M 74 57 = lTd (m 65) (m 66) N N 0 := by
      rw [h57, zu_sm rfl, Int.zero_add]
      unfold mnB
      rw [if_pos (by omega)]
    have hA2 : Agree coreK0 m M := hA1.trans (.of hF rfl)
    have x72 : M 72 1 = (N : Int) := by rw [hF 72 1 rfl, zu_dn (by decide), zu_dn (by decide), h72]
    refine zb281_20 (D := D2 + 7) hT rfl hBM (fun hz2 => ?_)
    have loop : ∀ (i c : Nat) (M2 : zM), c + i = N → zB M2 → M2 74 11 = (c : Int) → M2 74 57 = lTd (m 65) (m 66) N N 0 → Agree coreK0 m M2 → M2 72 1 = (N : Int) → T (D2 + 7 + 2) 281 (27, [(0, zr 74), (1, zi (c : Int))], [], M2) κ2 := by
      intro i
      induction i with
      | zero =>
        intro c M2 hc hB2 h11 h57 hA3 g72
        have e54 : M2 74 54 = (N : Int) := by rw [hA3 74 54 rfl, i9.1, hN]
        refine zb281_27 (D := D2 + 7) hT rfl hB2 (by omega) (fun _ => ?_) (fun q => by omega) (fun q => by omega)
        rw [h57, wr_id (by omega) (by omega)]
        exact h2 _ _ (fun _ => rfl) ⟨n, k, Inv_row hA3 hB2 (RowP.len (by rw [g72, h11]; omega)) hI0⟩
      | succ i ih =>
        intro c M2 hc hB2 h11 h57 hA3 g72
        have e54 : M2 74 54 = (N : Int) := by rw [hA3 74 54 rfl, i9.1, hN]
        refine zb281_27 (D := D2 + 7) hT rfl hB2 (by omega) (fun q => by omega) (fun _ => by omega) (fun _ => ?_)
        refine ih (c + 1) _ (by omega) (zB_u (zB_u hB2 trivial) ?_) (by rw [zu_sm rfl, h11]; omega) (by rw [zu_off (by omega), zu_dn (by omega)]; exact h57) (hA3.trans (.of (L := [(74, some 11), (81, none)]) ((zFr.refl.set rfl).set rfl) rfl)) (by rw [zu_dn (by decide), zu_dn (by decide)]; exact g72)
        show 0 ≤ M2 74 11 + 1 ∧ M2 74 11 + 1 ≤ 32
        omega
    exact loop N 0 _ (by omega) hz2 (by rw [zu_sm rfl]; rfl) (by rw [zu_off (by omega)]; exact e57) (hA2.trans (.of (L := [(74, some 11)]) (zFr.refl.set rfl) rfl)) (by rw [zu_dn (by decide)]; exact x72)
  refine zb155_0 hT i1 ?_
  refine z_orderLL (N := N) hT i1 hN (fun M hBM hF => ?_)
  have hv : isI (lTd (m 65) (m 66) N N 0) := by unfold isI; omega
  refine zb155_7 hT rfl hBM hv ?_
  rw [hF 64 2 rfl, hN]
  have hA : Agree coreK m M := .of hF rfl
  refine zb48_0_67 (D := D + 2) hT hBM (by omega) (fun _ hz => ?_) (fun q0 hz => ?_)
  · exact zb155_29 hT rfl hv (ref _ hz (hA.w0.trans (.of (L := [(72, some 1), (73, none)]) ((zFr.refl.set rfl).cp (fun _ => rfl)) rfl)) (by rw [z_cp_dn (by decide), zu_sm rfl] <;> omega))
  · exact zb155_29 hT rfl hv (ref _ hz (hA.w0.trans (.of (L := [(72, some 1), (73, none)]) ((zFr.refl.set rfl).cp (fun _ => rfl)) rfl)) (by rw [z_cp_dn (by decide), zu_sm rfl] <;> omega))
end ZLateX
