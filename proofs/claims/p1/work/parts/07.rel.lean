/-! What the machine's words mean of the true one. -/
def q_V (r : Nat → Int32) : pV → Int32 → Prop
  | .inl z, x => x = Int32.ofInt z
  | .inr (.inl k), x => x = r k
  | .inr (.inr i), x => i.1 ≤ x.toInt ∧ x.toInt ≤ i.2
def q_rf (b base : Nat) : Option Nat → Value
  | none => .null
  | some 0 => .ref b
  | some (k + 1) => .ref (base + k)
def q_A (r : Nat → Int32) (b base : Nat) : pA → Value → Prop
  | .inl v, x => ∃ y, x = .int y ∧ q_V r v y
  | .inr (.inl o), x => x = q_rf b base o
  | .inr (.inr _), x => ∃ y, x = .long y
def q_L (r : Nat → Int32) (b base : Nat) : List pA → List Value → Prop
  | [], vs => vs = []
  | a :: as, vs => ∃ v vs', vs = v :: vs' ∧ q_A r b base a v ∧ q_L r b base as vs'
def q_E (r : Nat → Int32) (E : pE) : Prop := ∀ (k : Nat) (i : pI), E.2[k]? = some i → i.1 ≤ (r k).toInt ∧ (r k).toInt ≤ i.2
theorem q_low (x : Int32) : -2147483648 ≤ x.toInt := x.le_toInt
theorem q_high (x : Int32) : x.toInt ≤ 2147483647 := by have := x.toInt_lt; omega
section Vals
variable {r : Nat → Int32} {b base : Nat} {E : pE}
theorem q_itv {v : pV} {x : Int32} (hE : q_E r E) (h : q_V r v x) : (p_itv E v).1 ≤ x.toInt ∧ x.toInt ≤ (p_itv E v).2 := by
  rcases v with z | k | i
  · have e : x = Int32.ofInt z := h
    subst e
    have e2 : (Int32.ofInt z).toInt = Int.bmod z 4294967296 := Int32.toInt_ofInt
    simp only [p_itv, e2]
    exact ⟨Int.le_refl _, Int.le_refl _⟩
  · have e : x = r k := h
    subst e
    show ((E.2[k]?).getD (-2147483648, 2147483647)).1 ≤ _ ∧ _ ≤ ((E.2[k]?).getD (-2147483648, 2147483647)).2
    cases hk : E.2[k]? with
    | none => exact ⟨q_low _, q_high _⟩
    | some i => exact hE k i hk
  · exact h
theorem q_anyV (x : Int32) : q_V r p_any x := ⟨q_low x, q_high x⟩
theorem q_lit {v : pV} {x : Int32} {z : Int} (hE : q_E r E) (h : q_V r v x) (hz : p_lit E v = some z) : x.toInt = z ∧ x = Int32.ofInt z := by
  have h2 := q_itv hE h
  unfold p_lit at hz
  generalize p_itv E v = i at h2 hz
  obtain ⟨l, u⟩ := i
  simp only [cond_eq_ite, decide_eq_true_eq] at hz
  split at hz
  · rename_i hlu
    have e : l = z := Option.some.inj hz
    have e2 : x.toInt = z := by
      have h3 : l ≤ x.toInt := h2.1
      have h4 : x.toInt ≤ u := h2.2
      omega
    exact ⟨e2, by rw [← e2, Int32.ofInt_toInt]⟩
  · cases hz
theorem p_num_eq (z : Int) : p_num z = .inl z := by
  rcases z with n | n <;> rcases n with _ | n <;> rfl
theorem q_numV (x : Int32) : q_V r (p_num x.toInt) x := by
  rw [p_num_eq]
  exact (Int32.ofInt_toInt x).symm
theorem q_bin {f : Int32 → Int32 → Int32} {a c : pV} {x y : Int32} (hE : q_E r E) (ha : q_V r a x) (hc : q_V r c y) : q_V r (p_bin f E a c) (f x y) := by
  unfold p_bin
  cases h1 : p_lit E a with
  | none => exact q_anyV _
  | some z1 =>
    cases h2 : p_lit E c with
    | none => exact q_anyV _
    | some z2 =>
      rw [(q_lit hE ha h1).2, (q_lit hE hc h2).2]
      exact q_numV _
theorem q_un {f : Int32 → Int32} {a : pV} {x : Int32} (hE : q_E r E) (ha : q_V r a x) : q_V r (p_un f E a) (f x) := by
  unfold p_un
  cases h1 : p_lit E a with
  | none => exact q_anyV _
  | some z1 =>
    rw [(q_lit hE ha h1).2]
    exact q_numV _
theorem q_shr {a c : pV} {x y : Int32} (hE : q_E r E) (ha : q_V r a x) (hc : q_V r c y) : q_V r (p_shr E a c) (x >>> (y &&& 31)) := by
  unfold p_shr
  cases h2 : p_lit E c with
  | none => exact q_anyV _
  | some z =>
    simp only [cond_eq_ite, decide_eq_true_eq]
    split
    · rename_i hz
      have e := (q_lit hE hc h2).2
      subst hz
      rw [e, show Int32.ofInt 0 = 0 from rfl, sb_shr0]
      exact ha
    · exact q_bin (f := fun x y => x >>> (y &&& 31)) hE ha hc
theorem q_ref {v : pV} {x : Int32} {i : pI} (hE : q_E r E) (h : q_V r v x) (h1 : i.1 ≤ x.toInt) (h2 : x.toInt ≤ i.2) : q_E r (p_ref E v i) := by
  rcases v with z | k | j
  · exact hE
  · have e : x = r k := h
    intro k2 i2 hk2
    by_cases hkk : k = k2
    · subst hkk
      have hk3 : (E.2.set k i)[k]? = some i2 := hk2
      by_cases hl : k < E.2.length
      · rw [List.getElem?_set_self hl] at hk3
        cases hk3
        rw [← e]
        exact ⟨h1, h2⟩
      · rw [List.getElem?_eq_none (by rw [List.length_set]; omega)] at hk3
        cases hk3
    · have hk3 : (E.2.set k i)[k2]? = some i2 := hk2
      rw [List.getElem?_set_ne hkk] at hk3
      exact hE k2 i2 hk3
  · exact hE
theorem p_ref_1 (v : pV) (i : pI) : (p_ref E v i).1 = E.1 := by
  rcases v with z | k | j <;> rfl
theorem q_ltL {a c : pV} {x y : Int32} (hE : q_E r E) (ha : q_V r a x) (hc : q_V r c y) : ∃ q ∈ p_lt E a c, (q.1 = true ↔ x < y) ∧ q_E r q.2 ∧ q.2.1 = E.1 := by
  have h1 := q_itv hE ha
  have h2 := q_itv hE hc
  have hlt : x < y ↔ x.toInt < y.toInt := Int32.lt_iff_toInt_lt
  unfold p_lt
  generalize p_itv E a = i at h1
  generalize p_itv E c = j at h2
  obtain ⟨l1, u1⟩ := i
  obtain ⟨l2, u2⟩ := j
  have a1 : l1 ≤ x.toInt := h1.1
  have a2 : x.toInt ≤ u1 := h1.2
  have a3 : l2 ≤ y.toInt := h2.1
  have a4 : y.toInt ≤ u2 := h2.2
  simp only [cond_eq_ite, decide_eq_true_eq]
  split
  · exact ⟨_, List.mem_singleton.mpr rfl, ⟨fun _ => hlt.mpr (by omega), fun _ => rfl⟩, hE, rfl⟩
  · split
    · exact ⟨_, List.mem_singleton.mpr rfl, ⟨fun h => (by cases h), fun h => absurd (hlt.mp h) (by omega)⟩, hE, rfl⟩
    · by_cases hxy : x.toInt < y.toInt
      · refine ⟨_, List.mem_cons_self, ⟨fun _ => hlt.mpr hxy, fun _ => rfl⟩, q_ref (q_ref hE ha a1 ?_) hc ?_ a4, by rw [p_ref_1, p_ref_1]⟩
        · show x.toInt ≤ min u1 (u2 - 1)
          omega
        · show max l2 (l1 + 1) ≤ y.toInt
          omega
      · refine ⟨_, List.mem_cons_of_mem _ List.mem_cons_self, ⟨fun h => (by cases h), fun h => absurd (hlt.mp h) hxy⟩, q_ref (q_ref hE ha ?_ a2) hc a3 ?_, by rw [p_ref_1, p_ref_1]⟩
        · show max l1 l2 ≤ x.toInt
          omega
        · show y.toInt ≤ min u2 u1
          omega
theorem q_eqL {a c : pV} {x y : Int32} (hE : q_E r E) (ha : q_V r a x) (hc : q_V r c y) : ∃ q ∈ p_eq E a c, (q.1 = true ↔ x = y) ∧ q_E r q.2 ∧ q.2.1 = E.1 := by
  have h1 := q_itv hE ha
  have h2 := q_itv hE hc
  have heq : x = y ↔ x.toInt = y.toInt := Int32.toInt_inj.symm
  unfold p_eq
  generalize p_itv E a = i at h1
  generalize p_itv E c = j at h2
  obtain ⟨l1, u1⟩ := i
  obtain ⟨l2, u2⟩ := j
  have a1 : l1 ≤ x.toInt := h1.1
  have a2 : x.toInt ≤ u1 := h1.2
  have a3 : l2 ≤ y.toInt := h2.1
  have a4 : y.toInt ≤ u2 := h2.2
  simp only [cond_eq_ite, Bool.or_eq_true, Bool.and_eq_true, decide_eq_true_eq]
  split
  · exact ⟨_, List.mem_singleton.mpr rfl, ⟨fun h => (by cases h), fun h => absurd (heq.mp h) (by omega)⟩, hE, rfl⟩
  · split
    · exact ⟨_, List.mem_singleton.mpr rfl, ⟨fun _ => heq.mpr (by omega), fun _ => rfl⟩, hE, rfl⟩
    · by_cases hxy : x.toInt = y.toInt
      · refine ⟨_, List.mem_cons_self, ⟨fun _ => heq.mpr hxy, fun _ => rfl⟩, q_ref (q_ref hE ha ?_ ?_) hc ?_ ?_, by rw [p_ref_1, p_ref_1]⟩
        · show max l1 l2 ≤ x.toInt
          omega
        · show x.toInt ≤ min u1 u2
          omega
        · show max l1 l2 ≤ y.toInt
          omega
        · show y.toInt ≤ min u1 u2
          omega
      · refine ⟨_, List.mem_cons_of_mem _ List.mem_cons_self, ⟨fun h => (by cases h), fun h => absurd (heq.mp h) hxy⟩, ?_, ?_⟩
        · split
          · split
            · exact q_ref hE ha (by show l1 + 1 ≤ x.toInt; omega) a2
            · split
              · exact q_ref hE ha a1 (by show x.toInt ≤ u1 - 1; omega)
              · exact hE
          · exact hE
        · split
          · split
            · rw [p_ref_1]
            · split
              · rw [p_ref_1]
              · rfl
          · rfl
theorem q_notL {l : List (Bool × pE)} {P : Prop} {P2 : pE → Prop} (h : ∃ q ∈ l, (q.1 = true ↔ P) ∧ P2 q.2) : ∃ q ∈ p_not l, (q.1 = true ↔ ¬ P) ∧ P2 q.2 := by
  obtain ⟨q, h1, h2, h3⟩ := h
  refine ⟨(!q.1, q.2), List.mem_map.mpr ⟨q, h1, rfl⟩, ?_, h3⟩
  obtain ⟨q1, q2⟩ := q
  cases q1
  · simp at h2 ⊢
    exact h2
  · simp at h2 ⊢
    exact h2
/-- what a test says -/
def q_holds (c : ClassFile.Cond) (x y : Int32) : Prop := match c with
  | .eq => x = y
  | .ne => ¬ x = y
  | .lt => x < y
  | .ge => ¬ x < y
  | .gt => y < x
  | .le => ¬ y < x
theorem q_cmp {c : ClassFile.Cond} {a d : pV} {x y : Int32} (hE : q_E r E) (ha : q_V r a x) (hd : q_V r d y) : ∃ q ∈ p_cmp c E a d, (q.1 = true ↔ q_holds c x y) ∧ q_E r q.2 ∧ q.2.1 = E.1 := by
  cases c
  · exact q_eqL hE ha hd
  · exact q_notL (P2 := fun z => q_E r z ∧ z.1 = E.1) (q_eqL hE ha hd)
  · exact q_ltL hE ha hd
  · exact q_notL (P2 := fun z => q_E r z ∧ z.1 = E.1) (q_ltL hE ha hd)
  · exact q_ltL hE hd ha
  · exact q_notL (P2 := fun z => q_E r z ∧ z.1 = E.1) (q_ltL hE hd ha)
theorem q_span {v : pV} {x : Int32} (hE : q_E r E) (h : q_V r v x) : ∀ (k : Nat) (l : Int), 0 ≤ l → l ≤ x.toInt → x.toInt < l + (k : Int) → ∃ q ∈ p_span E v l k, q.1 = x.toNatClampNeg ∧ q_E r q.2 ∧ q.2.1 = E.1
  | 0, l, h0, h1, h2 => by omega
  | k + 1, l, h0, h1, h2 => by
    by_cases he : x.toInt = l
    · refine ⟨_, List.mem_cons_self, ?_, q_ref hE h (by show l ≤ _; omega) (by show _ ≤ l; omega), p_ref_1 _ _⟩
      show l.toNat = x.toInt.toNat
      rw [he]
    · obtain ⟨q, g1, g2⟩ := q_span hE h k (l + 1) (by omega) (by omega) (by push_cast at h2; omega)
      exact ⟨q, List.mem_cons_of_mem _ g1, g2⟩
theorem q_idx {v : pV} {x : Int32} {n : Nat} {l : List (Nat × pE)} (hE : q_E r E) (h : q_V r v x) (hi : p_idx E v n = some l) : vp_in x n ∧ ∃ q ∈ l, q.1 = x.toNatClampNeg ∧ q_E r q.2 ∧ q.2.1 = E.1 := by
  have h1 := q_itv hE h
  unfold p_idx at hi
  generalize p_itv E v = i at h1 hi
  obtain ⟨lo, hi2⟩ := i
  have a1 : lo ≤ x.toInt := h1.1
  have a2 : x.toInt ≤ hi2 := h1.2
  simp only [cond_eq_ite, Bool.and_eq_true, decide_eq_true_eq] at hi
  split at hi
  · rename_i hc
    refine ⟨vp_in_iff.mpr ⟨by omega, by omega⟩, ?_⟩
    split at hi
    · rename_i he
      cases hi
      refine ⟨_, List.mem_singleton.mpr rfl, ?_, hE, rfl⟩
      show lo.toNat = x.toInt.toNat
      rw [show lo = x.toInt by omega]
    · cases hi
      exact q_span hE h _ lo (by omega) a1 (by omega)
  · cases hi
theorem q_cat {a : pA} {v : Value} (h : q_A r b base a v) : v.category = p_cat a := by
  rcases a with z | o | u
  · obtain ⟨y, rfl, -⟩ := h
    rfl
  · have e : v = q_rf b base o := h
    subst e
    rcases o with _ | o
    · rfl
    · cases o <;> rfl
  · obtain ⟨y, rfl⟩ := h
    rfl
theorem q_L.len : ∀ {as : List pA} {vs : List Value}, q_L r b base as vs → vs.length = as.length
  | [], vs, h => by rw [show vs = [] from h]; rfl
  | a :: as, vs, h => by
    obtain ⟨v, vs', rfl, -, h2⟩ := h
    simp [h2.len]
theorem q_L.get : ∀ {as : List pA} {vs : List Value} {k : Nat} {a : pA}, q_L r b base as vs → as[k]? = some a → ∃ v, vs[k]? = some v ∧ q_A r b base a v
  | [], _, k, a, _, h => by simp at h
  | a0 :: as, vs, 0, a, h, hk => by
    obtain ⟨v, vs', rfl, h1, -⟩ := h
    simp at hk
    subst hk
    exact ⟨v, rfl, h1⟩
  | a0 :: as, vs, k + 1, a, h, hk => by
    obtain ⟨v, vs', rfl, -, h2⟩ := h
    simp at hk
    obtain ⟨w, g1, g2⟩ := h2.get hk
    exact ⟨w, by simpa using g1, g2⟩
theorem q_L.set : ∀ {as : List pA} {vs : List Value} {k : Nat} {a : pA} {v : Value}, q_L r b base as vs → q_A r b base a v → q_L r b base (as.set k a) (vs.set k v)
  | [], vs, k, a, v, h, _ => by
    rw [show vs = [] from h]
    exact rfl
  | a0 :: as, vs, 0, a, v, h, hv => by
    obtain ⟨w, vs', rfl, h1, h2⟩ := h
    exact ⟨v, vs', rfl, hv, h2⟩
  | a0 :: as, vs, k + 1, a, v, h, hv => by
    obtain ⟨w, vs', rfl, h1, h2⟩ := h
    exact ⟨w, vs'.set k v, rfl, h1, h2.set hv⟩
theorem q_L.cats : ∀ {as : List pA} {vs : List Value}, q_L r b base as vs → (vs.map fun v => v.category).sum = p_cats as
  | [], vs, h => by rw [show vs = [] from h]; rfl
  | a :: as, vs, h => by
    obtain ⟨v, vs', rfl, h1, h2⟩ := h
    have e := h2.cats
    simp only [p_cats, List.map_cons, List.sum_cons] at e ⊢
    rw [e, q_cat h1]
end Vals
