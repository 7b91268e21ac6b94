/-! Forms: names with numbers before them, and a number; bounds. -/
noncomputable abbrev pI : Type := Int × Int
noncomputable abbrev sT : Type := List (Nat × Int)
noncomputable abbrev sF : Type := sT × Int
noncomputable def s_le (a b : Int) : Bool := match b - a with
  | .ofNat _ => true
  | .negSucc _ => false
theorem s_le_iff {a b : Int} : s_le a b = true ↔ a ≤ b := by
  unfold s_le
  cases h : b - a with
  | ofNat n => exact ⟨fun _ => (by have e : b - a = (n : Int) := h; omega), fun _ => rfl⟩
  | negSucc n => exact ⟨fun h2 => (by cases h2), fun h2 => (by have e : b - a = -((n : Int) + 1) := by rw [h]; exact Int.negSucc_eq n
                                                               omega)⟩
theorem s_le_not {a b : Int} : s_le a b = false ↔ b < a := by
  rw [← Bool.not_eq_true, s_le_iff]
  omega
noncomputable def s_ie (a b : Int) : Bool := match a, b with
  | .ofNat x, .ofNat y => Nat.beq x y
  | .negSucc x, .negSucc y => Nat.beq x y
  | _, _ => false
theorem s_ie_iff {a b : Int} : s_ie a b = true ↔ a = b := by
  rcases a with x | x <;> rcases b with y | y
  · simp only [s_ie]
    exact ⟨fun h => by rw [Nat.eq_of_beq_eq_true h], fun h => by cases h; exact Nat.beq_refl x⟩
  · exact ⟨fun h => (by cases h), fun h => (by cases h)⟩
  · exact ⟨fun h => (by cases h), fun h => (by cases h)⟩
  · simp only [s_ie]
    exact ⟨fun h => by rw [Nat.eq_of_beq_eq_true h], fun h => by cases h; exact Nat.beq_refl x⟩
noncomputable def s_max (a b : Int) : Int := bif s_le a b then b else a
noncomputable def s_min (a b : Int) : Int := bif s_le a b then a else b
theorem s_max_l (a b : Int) : a ≤ s_max a b := by
  unfold s_max
  cases h : s_le a b with
  | true => exact s_le_iff.mp h
  | false => exact Int.le_refl _
theorem s_max_r (a b : Int) : b ≤ s_max a b := by
  unfold s_max
  cases h : s_le a b with
  | true => exact Int.le_refl _
  | false => have := s_le_not.mp h; show b ≤ a; omega
theorem s_max_le {a b c : Int} (h1 : a ≤ c) (h2 : b ≤ c) : s_max a b ≤ c := by
  unfold s_max
  cases s_le a b with
  | true => exact h2
  | false => exact h1
theorem s_min_l (a b : Int) : s_min a b ≤ a := by
  unfold s_min
  cases h : s_le a b with
  | true => exact Int.le_refl _
  | false => have := s_le_not.mp h; show b ≤ a; omega
theorem s_min_r (a b : Int) : s_min a b ≤ b := by
  unfold s_min
  cases h : s_le a b with
  | true => exact s_le_iff.mp h
  | false => exact Int.le_refl _
theorem s_le_min {a b c : Int} (h1 : c ≤ a) (h2 : c ≤ b) : c ≤ s_min a b := by
  unfold s_min
  cases s_le a b with
  | true => exact h1
  | false => exact h2
/-- what a sum of names comes to -/
noncomputable def s_ev (rs : List Int) : sT → Option Int
  | [] => some 0
  | (k, c) :: t => match rs[k]? with
    | none => none
    | some v => match s_ev rs t with
      | none => none
      | some w => some (c * v + w)
noncomputable def s_val (rs : List Int) (f : sF) : Option Int := match s_ev rs f.1 with
  | none => none
  | some v => some (v + f.2)
theorem s_ev_cons {rs : List Int} {k : Nat} {c : Int} {t : sT} {w : Int} : s_ev rs ((k, c) :: t) = some w ↔ ∃ v u, rs[k]? = some v ∧ s_ev rs t = some u ∧ w = c * v + u := by
  simp only [s_ev]
  constructor
  · intro h
    split at h
    · cases h
    · rename_i v hv
      split at h
      · cases h
      · rename_i u hu
        cases h
        exact ⟨v, u, hv, hu, rfl⟩
  · rintro ⟨v, u, hv, hu, rfl⟩
    rw [hv, hu]
theorem s_val_iff {rs : List Int} {f : sF} {w : Int} : s_val rs f = some w ↔ ∃ v, s_ev rs f.1 = some v ∧ w = v + f.2 := by
  unfold s_val
  constructor
  · intro h
    split at h
    · cases h
    · rename_i v hv
      cases h
      exact ⟨v, hv, rfl⟩
  · rintro ⟨v, hv, rfl⟩
    rw [hv]
theorem s_ev_mono {rs : List Int} (x : List Int) : ∀ {t : sT} {v : Int}, s_ev rs t = some v → s_ev (rs ++ x) t = some v
  | [], _, h => h
  | (k, c) :: t, v, h => by
    obtain ⟨a, u, h1, h2, rfl⟩ := s_ev_cons.mp h
    refine s_ev_cons.mpr ⟨a, u, ?_, s_ev_mono x h2, rfl⟩
    rw [List.getElem?_append_left (List.getElem?_eq_some_iff.mp h1).1]
    exact h1
theorem s_val_mono {rs : List Int} (x : List Int) {f : sF} {v : Int} (h : s_val rs f = some v) : s_val (rs ++ x) f = some v := by
  obtain ⟨a, h1, rfl⟩ := s_val_iff.mp h
  exact s_val_iff.mpr ⟨a, s_ev_mono x h1, rfl⟩
noncomputable def s_add1 (k : Nat) (c : Int) : sT → sT
  | [] => [(k, c)]
  | (j, d) :: t => bif Nat.blt k j then (k, c) :: (j, d) :: t else bif Nat.beq k j then (bif s_ie (c + d) 0 then t else (j, c + d) :: t) else (j, d) :: s_add1 k c t
theorem s_add1S {rs : List Int} {k : Nat} {c v : Int} (hv : rs[k]? = some v) : ∀ {t : sT} {w : Int}, s_ev rs t = some w → s_ev rs (s_add1 k c t) = some (c * v + w)
  | [], w, h => by
    cases h
    exact s_ev_cons.mpr ⟨v, 0, hv, rfl, rfl⟩
  | (j, d) :: t, w, h => by
    unfold s_add1
    cases h1 : Nat.blt k j with
    | true => exact s_ev_cons.mpr ⟨v, w, hv, h, rfl⟩
    | false =>
      obtain ⟨a, u, g1, g2, rfl⟩ := s_ev_cons.mp h
      cases h2 : Nat.beq k j with
      | true =>
        have e := Nat.eq_of_beq_eq_true h2
        subst e
        have ea : a = v := by rw [hv] at g1; exact (Option.some.inj g1).symm
        subst ea
        cases h3 : s_ie (c + d) 0 with
        | true =>
          have e3 := s_ie_iff.mp h3
          simp only [cond_true, cond_false]
          rw [g2]
          congr 1
          have : c * a + (d * a + u) = (c + d) * a + u := by rw [Int.add_mul]; omega
          rw [this, e3]
          omega
        | false =>
          simp only [cond_true, cond_false]
          exact s_ev_cons.mpr ⟨a, u, hv, g2, by rw [Int.add_mul]; omega⟩
      | false =>
        simp only [cond_false]
        exact s_ev_cons.mpr ⟨a, _, g1, s_add1S hv g2, by omega⟩
noncomputable def s_addT : sT → sT → sT
  | [], u => u
  | (k, c) :: t, u => s_add1 k c (s_addT t u)
theorem s_addTS {rs : List Int} : ∀ {t u : sT} {v w : Int}, s_ev rs t = some v → s_ev rs u = some w → s_ev rs (s_addT t u) = some (v + w)
  | [], u, v, w, h1, h2 => by
    cases h1
    rw [Int.zero_add]
    exact h2
  | (k, c) :: t, u, v, w, h1, h2 => by
    obtain ⟨a, b, g1, g2, rfl⟩ := s_ev_cons.mp h1
    have := s_add1S (c := c) g1 (s_addTS g2 h2)
    rw [Int.add_assoc]
    exact this
noncomputable def s_mulT (c : Int) : sT → sT
  | [] => []
  | (k, d) :: t => (k, c * d) :: s_mulT c t
theorem s_mulTS {rs : List Int} {c : Int} : ∀ {t : sT} {v : Int}, s_ev rs t = some v → s_ev rs (s_mulT c t) = some (c * v)
  | [], v, h => by
    cases h
    rw [Int.mul_zero]
    rfl
  | (k, d) :: t, v, h => by
    obtain ⟨a, b, g1, g2, rfl⟩ := s_ev_cons.mp h
    exact s_ev_cons.mpr ⟨a, _, g1, s_mulTS g2, by rw [Int.mul_add, Int.mul_assoc]⟩
noncomputable def s_add (f g : sF) : sF := (s_addT f.1 g.1, f.2 + g.2)
noncomputable def s_mul (c : Int) (f : sF) : sF := bif s_ie c 0 then ([], 0) else (s_mulT c f.1, c * f.2)
noncomputable def s_sub (f g : sF) : sF := s_add f (s_mul (-1) g)
noncomputable def s_num (z : Int) : sF := ([], z)
noncomputable def s_nm (k : Nat) : sF := ([(k, 1)], 0)
section Forms
variable {rs : List Int} {f g : sF} {v w : Int}
theorem s_numS (z : Int) : s_val rs (s_num z) = some z := s_val_iff.mpr ⟨0, rfl, by show z = 0 + z; omega⟩
theorem s_nmS {k : Nat} (h : rs[k]? = some v) : s_val rs (s_nm k) = some v := s_val_iff.mpr ⟨1 * v + 0, s_ev_cons.mpr ⟨v, 0, h, rfl, rfl⟩, by show v = 1 * v + 0 + 0; omega⟩
theorem s_addS (hf : s_val rs f = some v) (hg : s_val rs g = some w) : s_val rs (s_add f g) = some (v + w) := by
  obtain ⟨a, h1, rfl⟩ := s_val_iff.mp hf
  obtain ⟨b, h2, rfl⟩ := s_val_iff.mp hg
  exact s_val_iff.mpr ⟨_, s_addTS h1 h2, by show _ = a + b + (f.2 + g.2); omega⟩
theorem s_mulS {c : Int} (hf : s_val rs f = some v) : s_val rs (s_mul c f) = some (c * v) := by
  obtain ⟨a, h1, rfl⟩ := s_val_iff.mp hf
  unfold s_mul
  cases h : s_ie c 0 with
  | true =>
    have e := s_ie_iff.mp h
    subst e
    have e2 : (0 : Int) * (a + f.2) = 0 := Int.zero_mul _
    rw [e2]
    exact s_numS 0
  | false => exact s_val_iff.mpr ⟨_, s_mulTS h1, by show _ = c * a + c * f.2; rw [Int.mul_add]⟩
theorem s_subS (hf : s_val rs f = some v) (hg : s_val rs g = some w) : s_val rs (s_sub f g) = some (v - w) := by
  have := s_addS hf (s_mulS (c := -1) hg)
  rw [show v - w = v + -1 * w by omega]
  exact this
end Forms
noncomputable def s_eqT : sT → sT → Bool
  | [], [] => true
  | (k, c) :: t, (j, d) :: u => Nat.beq k j && s_ie c d && s_eqT t u
  | _, _ => false
theorem s_eqT_eq : ∀ {t u : sT}, s_eqT t u = true → t = u
  | [], [], _ => rfl
  | [], _ :: _, h => by cases h
  | _ :: _, [], h => by cases h
  | (k, c) :: t, (j, d) :: u, h => by
    simp only [s_eqT, Bool.and_eq_true] at h
    rw [Nat.eq_of_beq_eq_true h.1.1, s_ie_iff.mp h.1.2, s_eqT_eq h.2]
noncomputable def s_eqF (f g : sF) : Bool := s_eqT f.1 g.1 && s_ie f.2 g.2
theorem s_eqF_eq {f g : sF} (h : s_eqF f g = true) : f = g := by
  simp only [s_eqF, Bool.and_eq_true] at h
  obtain ⟨a, b⟩ := f
  obtain ⟨c, d⟩ := g
  rw [show a = c from s_eqT_eq h.1, show b = d from s_ie_iff.mp h.2]
/-- may cells be made; the names' bounds; sums that are at least so much; forms that aren't 0 -/
noncomputable abbrev sE : Type := Bool × List pI × List (sT × Int) × List sF
noncomputable def q_E (rs : List Int) (E : sE) : Prop := rs.length = E.2.1.length ∧ (∀ (k : Nat) (i : pI), E.2.1[k]? = some i → ∃ v, rs[k]? = some v ∧ i.1 ≤ v ∧ v ≤ i.2) ∧ (∀ q ∈ E.2.2.1, ∃ v, s_ev rs q.1 = some v ∧ q.2 ≤ v) ∧ (∀ f ∈ E.2.2.2, ∃ v, s_val rs f = some v ∧ v ≠ 0)
noncomputable def s_bL (B : List pI) : sT → Option pI
  | [] => some (0, 0)
  | (k, c) :: t => match B[k]? with
    | none => none
    | some (l, h) => match s_bL B t with
      | none => none
      | some (a, b) => bif s_le 0 c then some (c * l + a, c * h + b) else some (c * h + a, c * l + b)
theorem s_bLS {rs : List Int} {B : List pI} (hB : ∀ (k : Nat) (i : pI), B[k]? = some i → ∃ v, rs[k]? = some v ∧ i.1 ≤ v ∧ v ≤ i.2) : ∀ {t : sT} {i : pI} {v : Int}, s_bL B t = some i → s_ev rs t = some v → i.1 ≤ v ∧ v ≤ i.2
  | [], i, v, h1, h2 => by
    cases h1
    cases h2
    exact ⟨Int.le_refl _, Int.le_refl _⟩
  | (k, c) :: t, i, v, h1, h2 => by
    obtain ⟨a, u, g1, g2, rfl⟩ := s_ev_cons.mp h2
    unfold s_bL at h1
    split at h1
    · cases h1
    · rename_i l h hk
      split at h1
      · cases h1
      · rename_i x y hxy
        have g3 := s_bLS hB hxy g2
        obtain ⟨a', e1, e2, e3⟩ := hB k _ hk
        have ea : a' = a := by rw [g1] at e1; exact (Option.some.inj e1).symm
        subst ea
        have g31 : x ≤ u := g3.1
        have g32 : u ≤ y := g3.2
        have e2 : l ≤ a' := e2
        have e3 : a' ≤ h := e3
        cases hc : s_le 0 c with
        | true =>
          rw [hc] at h1
          cases h1
          have hc := s_le_iff.mp hc
          have m1 := Int.mul_le_mul_of_nonneg_left e2 hc
          have m2 := Int.mul_le_mul_of_nonneg_left e3 hc
          exact ⟨by show c * l + x ≤ _; omega, by show _ ≤ c * h + y; omega⟩
        | false =>
          rw [hc] at h1
          cases h1
          have hc := s_le_not.mp hc
          have m1 := Int.mul_le_mul_of_nonpos_left (a := c) (by omega) e2
          have m2 := Int.mul_le_mul_of_nonpos_left (a := c) (by omega) e3
          exact ⟨by show c * h + x ≤ _; omega, by show _ ≤ c * l + y; omega⟩
noncomputable def s_has (k : Nat) : sT → Bool
  | [] => false
  | q :: r => Nat.beq q.1 k || s_has k r
noncomputable def s_shr : sT → sT → Bool
  | [], _ => false
  | q :: r, u => s_has q.1 u || s_shr r u
/-- the least of a sum, by the bounds and by one of what is known -/
noncomputable def s_low (B : List pI) (t : sT) : List (sT × Int) → Int → Int
  | [], l => l
  | q :: r, l => bif s_shr q.1 t then (match s_bL B (s_addT t (s_mulT (-1) q.1)) with
    | none => s_low B t r l
    | some i => s_low B t r (s_max l (i.1 + q.2))) else s_low B t r l
theorem s_lowS {rs : List Int} {B : List pI} {t : sT} {v : Int} (hB : ∀ (k : Nat) (i : pI), B[k]? = some i → ∃ v, rs[k]? = some v ∧ i.1 ≤ v ∧ v ≤ i.2) (ht : s_ev rs t = some v) : ∀ {G : List (sT × Int)} {l : Int}, (∀ q ∈ G, ∃ v, s_ev rs q.1 = some v ∧ q.2 ≤ v) → l ≤ v → s_low B t G l ≤ v
  | [], l, _, h => h
  | q :: r, l, hG, h => by
    have hr := fun x (hx : x ∈ r) => hG x (List.mem_cons_of_mem _ hx)
    unfold s_low
    cases s_shr q.1 t with
    | false => exact s_lowS hB ht hr h
    | true =>
      obtain ⟨w, h1, h2⟩ := hG q List.mem_cons_self
      simp only [cond_true]
      split
      · exact s_lowS hB ht hr h
      · rename_i i hi
        have g := (s_bLS hB hi (s_addTS ht (s_mulTS (c := -1) h1))).1
        exact s_lowS hB ht hr (s_max_le h (by omega))
/-- the bounds of a form -/
noncomputable def s_bnd (E : sE) (f : sF) : Option pI := match s_bL E.2.1 f.1 with
  | none => none
  | some (l, h) => match f.1 with
    | [] => some (l + f.2, h + f.2)
    | t => some (s_low E.2.1 t E.2.2.1 l + f.2, f.2 - s_low E.2.1 (s_mulT (-1) t) E.2.2.1 (-h))
theorem s_bndS {rs : List Int} {E : sE} {f : sF} {i : pI} {v : Int} (hE : q_E rs E) (h : s_bnd E f = some i) (hf : s_val rs f = some v) : i.1 ≤ v ∧ v ≤ i.2 := by
  obtain ⟨a, h1, rfl⟩ := s_val_iff.mp hf
  unfold s_bnd at h
  split at h
  · cases h
  · rename_i l u hb
    have g := s_bLS hE.2.1 hb h1
    have g1 : l ≤ a := g.1
    have g2 : a ≤ u := g.2
    split at h
    · cases h
      exact ⟨by show l + f.2 ≤ _; omega, by show _ ≤ u + f.2; omega⟩
    · cases h
      have k1 := s_lowS hE.2.1 h1 hE.2.2.1 g1
      have k2 := s_lowS hE.2.1 (s_mulTS (c := -1) h1) hE.2.2.1 (show -u ≤ -1 * a by omega)
      exact ⟨by show _ + f.2 ≤ _; omega, by show _ ≤ f.2 - _; omega⟩
/-- is it at least z -/
noncomputable def s_gez (E : sE) (f : sF) (z : Int) : Bool := match s_bnd E f with
  | none => false
  | some i => s_le z i.1
theorem s_gezS {rs : List Int} {E : sE} {f : sF} {z v : Int} (hE : q_E rs E) (h : s_gez E f z = true) (hf : s_val rs f = some v) : z ≤ v := by
  unfold s_gez at h
  split at h
  · cases h
  · rename_i i hi
    have := (s_bndS hE hi hf).1
    have := s_le_iff.mp h
    omega
/-- the same, with two of what is known -/
noncomputable def s_geL (E : sE) (f : sF) (z : Int) : List (sT × Int) → Bool
  | [] => false
  | q :: r => (s_shr q.1 f.1 && s_gez E (s_addT f.1 (s_mulT (-1) q.1), f.2) (z - q.2)) || s_geL E f z r
theorem s_geLS {rs : List Int} {E : sE} {f : sF} {z v : Int} (hE : q_E rs E) (hf : s_val rs f = some v) : ∀ {G : List (sT × Int)}, (∀ q ∈ G, ∃ v, s_ev rs q.1 = some v ∧ q.2 ≤ v) → s_geL E f z G = true → z ≤ v
  | [], _, h => by cases h
  | q :: r, hG, h => by
    simp only [s_geL, Bool.or_eq_true, Bool.and_eq_true] at h
    rcases h with h | h
    · obtain ⟨w, h1, h2⟩ := hG q List.mem_cons_self
      obtain ⟨a, g1, rfl⟩ := s_val_iff.mp hf
      have := s_gezS hE h.2 (s_val_iff.mpr ⟨_, s_addTS g1 (s_mulTS (c := -1) h1), rfl⟩)
      omega
    · exact s_geLS hE hf (fun x hx => hG x (List.mem_cons_of_mem _ hx)) h
noncomputable def s_ge2 (E : sE) (f : sF) (z : Int) : Bool := s_gez E f z || s_geL E f z E.2.2.1
theorem s_ge2S {rs : List Int} {E : sE} {f : sF} {z v : Int} (hE : q_E rs E) (h : s_ge2 E f z = true) (hf : s_val rs f = some v) : z ≤ v := by
  simp only [s_ge2, Bool.or_eq_true] at h
  rcases h with h | h
  · exact s_gezS hE h hf
  · exact s_geLS hE hf hE.2.2.1 h
