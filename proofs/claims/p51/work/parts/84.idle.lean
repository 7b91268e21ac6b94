/-! idle(). -/
/-- those whom one of the first so many names -/
noncomputable def wset (f : Nat → Int) : Nat → Nat
  | 0 => 0
  | p + 1 => if f p = -1 then wset f p else wset f p ||| 2 ^ (f p).toNat
theorem wset_lt {f : Nat → Int} {n : Nat} (h : ∀ p, p < n → f p = -1 ∨ (0 ≤ f p ∧ f p < 8)) : ∀ p, p ≤ n → wset f p < 2 ^ 8
  | 0, _ => (by decide : (0 : Nat) < 2 ^ 8)
  | p + 1, hp => by
    have h1 := wset_lt h p (by omega)
    have h2 := h p (by omega)
    rw [wset]
    by_cases q : f p = -1
    · rw [if_pos q]
      exact h1
    · rw [if_neg q]
      exact Nat.or_lt_two_pow h1 (Nat.pow_lt_pow_right (by omega) (by omega))
theorem wset_bit {f : Nat → Int} {n : Nat} (h : ∀ p, p < n → f p = -1 ∨ (0 ≤ f p ∧ f p < 8)) (c : Nat) : ∀ p, p ≤ n → ((wset f p).testBit c = true ↔ ∃ q, q < p ∧ f q = (c : Int))
  | 0, _ => by
    rw [wset, Nat.zero_testBit]
    exact ⟨(fun x => by cases x), (fun ⟨q, hq, _⟩ => by omega)⟩
  | p + 1, hp => by
    have h1 := wset_bit h c p (by omega)
    have h2 := h p (by omega)
    rw [wset]
    by_cases q : f p = -1
    · rw [if_pos q, h1]
      refine ⟨fun ⟨x, x1, x2⟩ => ⟨x, by omega, x2⟩, fun ⟨x, x1, x2⟩ => ⟨x, ?_, x2⟩⟩
      rcases Nat.lt_or_ge x p with y | y
      · exact y
      · have e : x = p := by omega
        subst e
        omega
    · rw [if_neg q, Nat.testBit_or, Bool.or_eq_true, h1, Nat.testBit_two_pow]
      refine ⟨fun x => ?_, fun ⟨x, x1, x2⟩ => ?_⟩
      · rcases x with ⟨x, x1, x2⟩ | x
        · exact ⟨x, by omega, x2⟩
        · have := of_decide_eq_true x
          exact ⟨p, by omega, by omega⟩
      · rcases Nat.lt_or_ge x p with y | y
        · exact Or.inl ⟨x, y, x2⟩
        · have e : x = p := by omega
          subst e
          exact Or.inr (decide_eq_true (by omega))
theorem wset_step {f : Nat → Int} {n p : Nat} (h : ∀ p, p < n → f p = -1 ∨ (0 ≤ f p ∧ f p < 8)) (hp : p < n) (q : ¬ f p = -1) : z_or (wset f p : Int) (z_shl 1 (f p)) = (wset f (p + 1) : Int) := by
  have h1 := wset_lt h p (by omega)
  have h2 := h p hp
  have e : f p = ((f p).toNat : Int) := by omega
  have h3 : 2 ^ (f p).toNat ≤ 2 ^ 8 := Nat.pow_le_pow_right (by omega) (by omega)
  rw [wset, if_neg q]
  rw [e, z_shl1T _ (by omega), z_orN (by omega) (by omega), Int.toNat_natCast]
theorem wIx_none {f : Nat → Int} {c : Int} : ∀ (j p : Nat), wIx f c p j = -1 ↔ ∀ i, p ≤ i → i < p + j → ¬ f i = c
  | 0, p => ⟨fun _ i h1 h2 => by omega, fun _ => rfl⟩
  | j + 1, p => by
    rw [wIx]
    by_cases q : f p = c
    · rw [if_pos q]
      exact ⟨fun x => by omega, fun x => absurd q (x p (by omega) (by omega))⟩
    · rw [if_neg q, wIx_none j (p + 1)]
      refine ⟨fun x i h1 h2 => ?_, fun x i h1 h2 => x i (by omega) (by omega)⟩
      by_cases e : i = p
      · rw [e]
        exact q
      · exact x i (by omega) (by omega)
theorem z_notE : ∀ k : Nat, k < 9 → ∀ w : Nat, w < 256 → z_and (z_shl 1 (k : Int) - 1) (z_xor (w : Int) (-1)) = ((bset (fun c => !w.testBit c) k : Nat) : Int) := by decide +kernel
section ZIdle
variable {T : Nat → Nat → zG → (Option zA → zM → Prop) → Prop} {B : Int}
theorem z_popB (a : Int) : 0 ≤ z_and a 63 ∧ z_and a 63 ≤ 63 := z_andC a 63 (by decide)
theorem w_idle (hT : zRules T) : Way T 142 260 [(0, zr 1)] [(0, zr 74)] 2 3 B B True := by
  rintro D m sc ⟨n, k, hI⟩ κ hκ
  have hI0 := hI
  obtain ⟨i1, i2, i3, i4, i5, i6, i7, i8, i9, i10, i11⟩ := hI
  obtain ⟨⟨n1, n2⟩, ⟨k1, k2⟩, hh, hRel, hok⟩ := i4
  have b17 : 0 ≤ m 17 0 ∧ m 17 0 ≤ 6 := i1 17 0
  have b171 : 0 ≤ m 17 1 ∧ m 17 1 ≤ 8 := i1 17 1
  have hf : ∀ p, p < n → m 20 p = -1 ∨ (0 ≤ m 20 p ∧ m 20 p < 8) := fun p hp => by
    have r1 := (hRel.1 p hp).2
    have r2 := (hok.1 p hp).2
    omega
  have e20 : ∀ c : Int, wIx (fun p => m 75 (p + 6)) c 0 n = wIx (m 20) c 0 n := fun c => wIx_congr n 0 (fun i _ h2 => ((hRel.1 i (by omega)).2).symm)
  have eo : bset (fun p => decide (m 75 (p + 6) = -1)) n = bset (fun p => decide (m 20 p = -1)) n := bset_congr n (fun i hi => by rw [(hRel.1 i hi).2])
  have eb : bset (fun c => !(wset (m 20) n).testBit c) k = bset (fun c : Nat => decide (wIx (m 20) (c : Int) 0 n = -1)) k := by
    refine bset_congr k (fun i _ => ?_)
    have h1 := wset_bit hf i n (Nat.le_refl n)
    by_cases q : wIx (m 20) (i : Int) 0 n = -1
    · rw [decide_eq_true q]
      have h2 := (wIx_none n 0).mp q
      cases hb : (wset (m 20) n).testBit i with
      | false => rfl
      | true =>
        obtain ⟨x, x1, x2⟩ := h1.mp hb
        exact absurd x2 (h2 x (by omega) (by omega))
    · rw [decide_eq_false q]
      cases hb : (wset (m 20) n).testBit i with
      | true => rfl
      | false =>
        refine absurd ((wIx_none n 0).mpr (fun x _ x1 x2 => ?_)) q
        rw [h1.mpr ⟨x, by omega, x2⟩] at hb
        cases hb
  -- the reference
  have ref : ∀ (M0 : zM) (D2 : Nat) (κ2 : Option zA → zM → Prop), zB M0 → Agree coreK0 m M0 → M0 72 1 = 2 → (∀ M1, zB M1 → Agree coreK0 m M1 → RowP M1 → κ2 (some (zi (bset (fun c : Nat => decide (wIx (m 20) (c : Int) 0 n = -1)) k : Int))) M1) → T (D2 + 3) 260 (0, [(0, zr 74)], [], M0) κ2 := by
    intro M0 D2 κ2 hB0 hA0 h72 hk
    refine zb260_0 hT hB0 (fun hz => ?_)
    have hA1 : Agree coreK0 m (zu M0 74 12 0) := hA0.trans (.of (L := [(74, some 12)]) (zFr.refl.set rfl) rfl)
    have e72 : (zu M0 74 12 0) 72 1 = 2 := (zu_dn (by decide)).trans h72
    generalize zu M0 74 12 0 = M at hz hA1 e72 ⊢
    have e4 : M 74 4 = (n : Int) := (hA1 74 4 rfl).trans n2
    have e6 : M 74 6 = (k : Int) := (hA1 74 6 rfl).trans k2
    have e75 : (fun p => M 75 (p + 6)) = fun p => m 75 (p + 6) := funext fun p => hA1 75 (p + 6) rfl
    have bl : ∀ t, t ≤ k → bset (fun c : Nat => decide (wIx (m 20) (c : Int) 0 n = -1)) t ≤ 255 := fun t ht => by
      have h1 := bset_lt (c := fun c : Nat => decide (wIx (m 20) (c : Int) 0 n = -1)) t
      have h2 : 2 ^ t ≤ 2 ^ 8 := Nat.pow_le_pow_right (by omega) (by omega)
      omega
    have ol : ∀ t, t ≤ n → bset (fun p => decide (m 75 (p + 6) = -1)) t ≤ 63 := fun t ht => by
      have h1 := bset_lt (c := fun p => decide (m 75 (p + 6) = -1)) t
      have h2 : 2 ^ t ≤ 2 ^ 6 := Nat.pow_le_pow_right (by omega) (by omega)
      omega
    have second : ∀ (j t : Nat), t + j = n → T (D2 + 3) 260 (50, [(0, zr 74), (1, zi (bset (fun c : Nat => decide (wIx (m 20) (c : Int) 0 n = -1)) k : Int)), (2, zi (bset (fun p => decide (m 75 (p + 6) = -1)) t : Int)), (3, zi (t : Int))], [], M) κ2 := by
      intro j
      induction j with
      | zero =>
        intro t ht
        have et : t = n := by omega
        subst et
        have := bl k (Nat.le_refl k)
        have := ol t (Nat.le_refl t)
        refine zb260_50 hT rfl hz (by omega) (by omega) (by omega) (fun _ hz2 => ?_) (fun q => by omega) (fun q => by omega)
        refine zb293_0 (D := D2 + 1) hT (by omega) ?_
        refine zb260_97 hT rfl hz2 (by omega) (by omega) (z_andB _ _) (by rw [zu_sm rfl]; omega) (fun hz3 => hk _ hz3 ?_ (RowP.len (by simp (disch := decide) only [zu_sm, zu_off, zu_dn, e72] <;> rfl)))
        exact hA1.trans (.of (L := [(74, some 11), (81, none)]) (((((zFr.refl.set rfl).set rfl).set rfl).set rfl).set rfl) rfl)
      | succ j ih =>
        intro t ht
        have := bl k (Nat.le_refl k)
        have := ol t (by omega)
        have e7 : M 75 (t + 6) = m 75 (t + 6) := hA1 75 (t + 6) rfl
        refine zb260_50 hT rfl hz (by omega) (by omega) (by omega) (fun q => by omega) (fun _ q => ?_) (fun _ q => ?_)
        · rw [bset_skip0 (by omega) (by rw [e7] at q; simpa using q)]
          exact ih (t + 1) (by omega)
        · rw [bset_step (by omega) (by rw [e7] at q; simpa using q)]
          exact ih (t + 1) (by omega)
    have first : ∀ (j t : Nat), t + j = k → T (D2 + 3) 260 (11, [(0, zr 74), (1, zi (bset (fun c : Nat => decide (wIx (m 20) (c : Int) 0 n = -1)) t : Int)), (2, zi ((0 : Nat) : Int)), (3, zi (t : Int))], [], M) κ2 := by
      intro j
      induction j with
      | zero =>
        intro t ht
        have et : t = k := by omega
        subst et
        have := bl t (Nat.le_refl t)
        exact zb260_11 hT rfl hz (by omega) (by omega) (by omega) (fun _ => second n 0 (by omega)) (fun q => by omega)
      | succ j ih =>
        intro t ht
        have := bl t (by omega)
        refine zb260_11 hT rfl hz (by omega) (by omega) (by omega) (fun q => by omega) (fun _ => ?_)
        refine z_wearer (D := D2 + 1) hT hz (by omega) e4 ?_
        rw [e75, e20]
        have hr := wIx_rng (f := m 20) (c := (t : Int)) n 0
        refine zb260_29 hT rfl hz (by omega) (by omega) (by omega) (by omega) (fun q => ?_) (fun q => ?_)
        · rw [bset_skip0 (by omega) (by simpa using q)]
          exact ih (t + 1) (by omega)
        · rw [bset_step (by omega) (by simpa using q)]
          exact ih (t + 1) (by omega)
    exact first k 0 (by omega)
  -- the class
  have wl : ∀ t, t ≤ n → wset (m 20) t ≤ 255 := fun t ht => by
    have := wset_lt hf t ht
    omega
  have ol : ∀ t, t ≤ n → bset (fun p => decide (m 20 p = -1)) t ≤ 63 := fun t ht => by
    have h1 := bset_lt (c := fun p => decide (m 20 p = -1)) t
    have h2 : 2 ^ t ≤ 2 ^ 6 := Nat.pow_le_pow_right (by omega) (by omega)
    omega
  have cls : ∀ (j t : Nat), t + j = n → T (D + 2) 142 (6, [(0, zr 1), (1, zi (wset (m 20) t : Int)), (2, zi (bset (fun p => decide (m 20 p = -1)) t : Int)), (3, zi (t : Int))], [], m) κ := by
    intro j
    induction j with
    | zero =>
      intro t ht
      have et : t = n := by omega
      subst et
      have := wl t (Nat.le_refl t)
      have := ol t (Nat.le_refl t)
      refine zb142_6 hT rfl i1 (by omega) (by omega) (by omega) (fun _ => ?_) (fun q => by omega) (fun q => by omega)
      refine zb293_0 (D := D) hT (by omega) ?_
      refine zb142_67 hT rfl i1 (by omega) (by omega) (z_andB _ _) (fun hz => ?_)
      rw [k1, z_notE k (by omega) _ (by omega), eb]
      refine hκ _ _ (fun D2 κ2 h2 => ?_)
      exact ref _ D2 κ2 hz (.of (L := [(72, some 1), (73, none)]) (((zFr.refl.set rfl).set rfl).set rfl) rfl) (by simp (disch := decide) only [zu_sm, zu_off, zu_dn] <;> rfl) (fun M1 hB3 hA3 hr => h2 _ _ (fun _ => rfl) ⟨t, k, Inv_row hA3 hB3 hr hI0⟩)
    | succ j ih =>
      intro t ht
      have := wl t (by omega)
      have := ol t (by omega)
      refine zb142_6 hT rfl i1 (by omega) (by omega) (by omega) (fun q => by omega) (fun _ q => ?_) (fun _ q => ?_)
      · rw [wset_step hf (by omega) q, bset_skip (c := fun p => decide (m 20 p = -1)) (by simpa using q)]
        exact ih (t + 1) (by omega)
      · rw [bset_step (by omega) (by simpa using q), show wset (m 20) t = wset (m 20) (t + 1) by rw [wset, if_pos q]]
        exact ih (t + 1) (by omega)
  exact zb142_0 hT i1 (cls n 0 (by omega))
end ZIdle
