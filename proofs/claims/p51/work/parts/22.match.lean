/-! Other words for the same state: names of one are forms over the names of the other. -/
noncomputable def s_sb (th : List sF) : sT → Option sF
  | [] => some (s_num 0)
  | (k, c) :: r => match th[k]? with
    | none => none
    | some f => match s_sb th r with
      | none => none
      | some g => some (s_add (s_mul c f) g)
noncomputable def s_sbF (th : List sF) (f : sF) : Option sF := match s_sb th f.1 with
  | none => none
  | some g => some (g.1, g.2 + f.2)
noncomputable def q_Th (rv : List Int) (th : List sF) (rw : List Int) : Prop := th.length = rw.length ∧ ∀ (k : Nat) (f : sF), th[k]? = some f → ∃ v, rw[k]? = some v ∧ s_val rv f = some v
section Sub
variable {rv rw : List Int} {th : List sF} {E T : sE}
theorem s_sbS (h : q_Th rv th rw) : ∀ {t : sT} {g : sF}, s_sb th t = some g → ∃ v, s_ev rw t = some v ∧ s_val rv g = some v
  | [], g, hg => by
    cases hg
    exact ⟨0, rfl, s_numS 0⟩
  | (k, c) :: r, g, hg => by
    unfold s_sb at hg
    split at hg
    · cases hg
    · rename_i f hf
      split at hg
      · cases hg
      · rename_i g2 hg2
        cases hg
        obtain ⟨v, h1, h2⟩ := h.2 k f hf
        obtain ⟨w, h3, h4⟩ := s_sbS h hg2
        exact ⟨c * v + w, s_ev_cons.mpr ⟨v, w, h1, h3, rfl⟩, s_addS (s_mulS h2) h4⟩
theorem s_sbFS (h : q_Th rv th rw) {f g : sF} (hg : s_sbF th f = some g) : ∃ v, s_val rw f = some v ∧ s_val rv g = some v := by
  unfold s_sbF at hg
  split at hg
  · cases hg
  · rename_i g2 hg2
    cases hg
    obtain ⟨v, h1, h2⟩ := s_sbS h hg2
    obtain ⟨w, h3, rfl⟩ := s_val_iff.mp h2
    exact ⟨w + g2.2 + f.2, s_val_iff.mpr ⟨_, h1, rfl⟩, s_val_iff.mpr ⟨w, h3, by show _ = w + (g2.2 + f.2); omega⟩⟩
theorem s_bLV {B : List pI} (hB : ∀ (k : Nat) (i : pI), B[k]? = some i → ∃ v, rv[k]? = some v ∧ i.1 ≤ v ∧ v ≤ i.2) : ∀ {t : sT} {i : pI}, s_bL B t = some i → ∃ v, s_ev rv t = some v
  | [], _, _ => ⟨0, rfl⟩
  | (k, c) :: t, i, h => by
    unfold s_bL at h
    split at h
    · cases h
    · rename_i l u hk
      split at h
      · cases h
      · rename_i a b hab
        obtain ⟨v, h1, -⟩ := hB k _ hk
        obtain ⟨w, h2⟩ := s_bLV hB hab
        exact ⟨_, s_ev_cons.mpr ⟨v, w, h1, h2, rfl⟩⟩
theorem s_bndV (hE : q_E rv E) {f : sF} {i : pI} (h : s_bnd E f = some i) : ∃ v, s_val rv f = some v := by
  unfold s_bnd at h
  split at h
  · cases h
  · rename_i l u hb
    obtain ⟨v, hv⟩ := s_bLV hE.2.1 hb
    exact ⟨_, s_val_iff.mpr ⟨v, hv, rfl⟩⟩
/-- is it within -/
noncomputable def s_inB (E : sE) (f : sF) (j : pI) : Bool := match s_bnd E f with
  | none => false
  | some i => (s_le j.1 i.1 || s_ge2 E f j.1) && (s_le i.2 j.2 || (s_ge2 E (s_mul (-1) f) (-j.2) || s_ge2 E (s_mul (-2) f) (-2 * j.2 - 1)))
theorem s_inBS (hE : q_E rv E) {f : sF} {j : pI} (h : s_inB E f j = true) : ∃ v, s_val rv f = some v ∧ j.1 ≤ v ∧ v ≤ j.2 := by
  unfold s_inB at h
  split at h
  · cases h
  · rename_i i hi
    obtain ⟨v, hv⟩ := s_bndV hE hi
    have b := s_bndS hE hi hv
    simp only [Bool.and_eq_true, Bool.or_eq_true] at h
    refine ⟨v, hv, ?_, ?_⟩
    · rcases h.1 with h | h
      · have := s_le_iff.mp h; omega
      · exact s_ge2S hE h hv
    · rcases h.2 with h | h | h
      · have := s_le_iff.mp h; omega
      · have := s_ge2S hE h (s_mulS hv); omega
      · have := s_ge2S hE h (s_mulS hv); omega
noncomputable def s_cB (E : sE) : List sF → List pI → Bool
  | [], [] => true
  | f :: r, i :: s => s_inB E f i && s_cB E r s
  | _, _ => false
/-- the values of the other's names -/
theorem s_cBS (hE : q_E rv E) : ∀ {th : List sF} {B : List pI}, s_cB E th B = true → ∃ rw, q_Th rv th rw ∧ rw.length = B.length ∧ ∀ (k : Nat) (i : pI), B[k]? = some i → ∃ v, rw[k]? = some v ∧ i.1 ≤ v ∧ v ≤ i.2
  | [], [], _ => ⟨[], ⟨rfl, fun k f h => by simp at h⟩, rfl, fun k i h => by simp at h⟩
  | [], _ :: _, h => by cases h
  | _ :: _, [], h => by cases h
  | f :: th, j :: B, h => by
    simp only [s_cB, Bool.and_eq_true] at h
    obtain ⟨v, h1, h2⟩ := s_inBS hE h.1
    obtain ⟨rw', h3, h4, h5⟩ := s_cBS hE h.2
    refine ⟨v :: rw', ⟨by simp [h3.1], fun k g hk => ?_⟩, by simp [h4], fun k i hk => ?_⟩
    · cases k with
      | zero => simp at hk; subst hk; exact ⟨v, rfl, h1⟩
      | succ k => simp at hk; obtain ⟨w, a, b⟩ := h3.2 k g hk; exact ⟨w, by simpa using a, b⟩
    · cases k with
      | zero => simp at hk; subst hk; exact ⟨v, rfl, h2⟩
      | succ k => simp at hk; obtain ⟨w, a, b⟩ := h5 k i hk; exact ⟨w, by simpa using a, b⟩
noncomputable def s_cCons (E : sE) (th : List sF) : List (sT × Int) → Bool
  | [] => true
  | q :: r => (match s_sbF th (q.1, 0) with
    | none => false
    | some f => s_ge2 E f q.2) && s_cCons E th r
theorem s_cConsS (hE : q_E rv E) (h : q_Th rv th rw) : ∀ {l : List (sT × Int)}, s_cCons E th l = true → ∀ q ∈ l, ∃ v, s_ev rw q.1 = some v ∧ q.2 ≤ v
  | [], _, q, hq => nomatch hq
  | q0 :: r, hc, q, hq => by
    simp only [s_cCons, Bool.and_eq_true] at hc
    rcases List.mem_cons.mp hq with rfl | hq
    · have hc := hc.1
      split at hc
      · cases hc
      · rename_i f hf
        obtain ⟨v, h1, h2⟩ := s_sbFS h hf
        obtain ⟨w, h3, rfl⟩ := s_val_iff.mp h1
        have := s_ge2S hE hc h2
        exact ⟨w, h3, by have e : w + (0 : Int) = w := by omega
                         rw [show (q.1, (0 : Int)).2 = 0 from rfl, e] at this; exact this⟩
    · exact s_cConsS hE h hc.2 q hq
noncomputable def s_nz0 (E : sE) (g : sF) : Bool := match s_bnd E g with
  | none => false
  | some i => s_le 1 i.1 || s_le i.2 (-1) || s_isNe g E.2.2.2
theorem s_nz0S (hE : q_E rv E) {g : sF} {v : Int} (h : s_nz0 E g = true) (hv : s_val rv g = some v) : v ≠ 0 := by
  unfold s_nz0 at h
  split at h
  · cases h
  · rename_i i hi
    have b := s_bndS hE hi hv
    simp only [Bool.or_eq_true] at h
    rcases h with (h | h) | h
    · have := s_le_iff.mp h; omega
    · have := s_le_iff.mp h; omega
    · exact s_isNeS hv hE.2.2.2 h
noncomputable def s_cNe (E : sE) (th : List sF) : List sF → Bool
  | [] => true
  | f :: r => (match s_sbF th f with
    | none => false
    | some g => s_nz0 E g) && s_cNe E th r
theorem s_cNeS (hE : q_E rv E) (h : q_Th rv th rw) : ∀ {l : List sF}, s_cNe E th l = true → ∀ f ∈ l, ∃ v, s_val rw f = some v ∧ v ≠ 0
  | [], _, q, hq => nomatch hq
  | q0 :: r, hc, q, hq => by
    simp only [s_cNe, Bool.and_eq_true] at hc
    rcases List.mem_cons.mp hq with rfl | hq
    · have hc := hc.1
      split at hc
      · cases hc
      · rename_i g hg
        obtain ⟨v, h1, h2⟩ := s_sbFS h hg
        exact ⟨v, h1, s_nz0S hE hc h2⟩
    · exact s_cNeS hE h hc.2 q hq
noncomputable def s_cE (E : sE) (th : List sF) (T : sE) : Bool := !T.1 && s_cB E th T.2.1 && s_cCons E th T.2.2.1 && s_cNe E th T.2.2.2
theorem s_cES (hE : q_E rv E) (h : s_cE E th T = true) : ∃ rw, q_Th rv th rw ∧ q_E rw T ∧ T.1 = false := by
  simp only [s_cE, Bool.and_eq_true, Bool.not_eq_true'] at h
  obtain ⟨⟨⟨h0, h1⟩, h2⟩, h3⟩ := h
  obtain ⟨rw', k1, k2, k3⟩ := s_cBS hE h1
  exact ⟨rw', k1, ⟨k2, k3, s_cConsS hE k1 h2, s_cNeS hE k1 h3⟩, h0⟩
/-- do two forms come to the same -/
noncomputable def s_eqv (E : sE) (f g : sF) : Bool := s_eqF f g || (match s_bnd E (s_sub g f) with
  | none => false
  | some i => s_ie i.1 0 && s_ie i.2 0)
theorem s_eqvS (hE : q_E rv E) {f g : sF} {v w : Int} (h : s_eqv E f g = true) (hf : s_val rv f = some v) (hg : s_val rv g = some w) : v = w := by
  simp only [s_eqv, Bool.or_eq_true] at h
  rcases h with h | h
  · rw [s_eqF_eq h, hg] at hf
    exact (Option.some.inj hf).symm
  · split at h
    · cases h
    · rename_i i hi
      have b := s_bndS hE hi (s_subS hg hf)
      simp only [Bool.and_eq_true] at h
      have e1 := s_ie_iff.mp h.1
      have e2 := s_ie_iff.mp h.2
      omega
/-- a form of the one is a form of the other -/
noncomputable def s_cF (E : sE) (th : List sF) (f g : sF) : Bool := match s_sbF th f with
  | none => false
  | some f2 => s_eqv E f2 g
theorem s_cFS (hE : q_E rv E) (h : q_Th rv th rw) {f g : sF} {v : Int} (hc : s_cF E th f g = true) (hg : s_val rv g = some v) : s_val rw f = some v := by
  unfold s_cF at hc
  split at hc
  · cases hc
  · rename_i f2 hf2
    obtain ⟨w, h1, h2⟩ := s_sbFS h hf2
    rw [h1, s_eqvS hE hc h2 hg]
noncomputable def s_cA (E : sE) (th : List sF) (t s : sA) : Bool := match t with
  | .inl f => (match s with
    | .inl g => s_cF E th f g
    | _ => false)
  | .inr (.inl o) => (match s with
    | .inr (.inl o2) => (match o, o2 with
      | none, none => true
      | some a, some b => Nat.beq a b
      | _, _ => false)
    | _ => false)
  | .inr (.inr (.inl z)) => (match s with
    | .inr (.inr (.inl y)) => (match z, y with
      | none, _ => true
      | some a, some b => s_ie a b
      | _, _ => false)
    | _ => false)
  | .inr (.inr (.inr _)) => Nat.beq (s_cat s) 1
theorem s_cAS {ad : Nat → Nat} (hE : q_E rv E) (h : q_Th rv th rw) {t s : sA} {v : Value} (hc : s_cA E th t s = true) (hs : q_A rv ad s v) : q_A rw ad t v := by
  rcases t with f | o | z | u
  · rcases s with g | o2 | y | u2
    · obtain ⟨y, rfl, hy⟩ := hs
      exact ⟨y, rfl, s_cFS hE h hc hy⟩
    · cases hc
    · cases hc
    · cases hc
  · rcases s with g | o2 | y | u2
    · cases hc
    · have e : o = o2 := by
        rcases o with _ | a <;> rcases o2 with _ | b
        · rfl
        · cases hc
        · cases hc
        · rw [Nat.eq_of_beq_eq_true hc]
      subst e
      exact hs
    · cases hc
    · cases hc
  · rcases s with g | o2 | y | u2
    · cases hc
    · cases hc
    · obtain ⟨x, rfl, hx⟩ := hs
      refine ⟨x, rfl, fun k hk => ?_⟩
      subst hk
      rcases y with _ | b
      · cases hc
      · have e := s_ie_iff.mp hc
        subst e
        exact hx _ rfl
    · cases hc
  · exact (q_cat hs).trans (Nat.eq_of_beq_eq_true hc)
noncomputable def s_cL (E : sE) (th : List sF) : List sA → List sA → Bool
  | [], [] => true
  | t :: r, s :: q => s_cA E th t s && s_cL E th r q
  | _, _ => false
theorem s_cLS {ad : Nat → Nat} (hE : q_E rv E) (h : q_Th rv th rw) : ∀ {ts ss : List sA} {vs : List Value}, s_cL E th ts ss = true → q_L rv ad ss vs → q_L rw ad ts vs
  | [], [], _, _, hs => hs
  | [], _ :: _, _, hc, _ => by cases hc
  | _ :: _, [], _, hc, _ => by cases hc
  | t :: ts, s :: ss, vs, hc, hs => by
    simp only [s_cL, Bool.and_eq_true] at hc
    obtain ⟨v, vs', rfl, h1, h2⟩ := hs
    exact ⟨v, vs', rfl, s_cAS hE h hc.1 h1, s_cLS hE h hc.2 h2⟩
noncomputable def s_cLo (E : sE) (th : List sF) (S : sL) : sL → Bool
  | [] => true
  | q :: r => (match s_lget S q.1 with
    | none => false
    | some b => s_cA E th q.2 b) && s_cLo E th S r
theorem s_cLoS {ad : Nat → Nat} {S : sL} {ls : Array Slot} {n : Nat} (hE : q_E rv E) (h : q_Th rv th rw) (hS : q_Lo rv ad S ls n) : ∀ {lo : sL}, s_cLo E th S lo = true → ∀ q ∈ lo, ∃ v, ls[q.1]? = some (.val v) ∧ q_A rw ad q.2 v
  | [], _, q, hq => nomatch hq
  | q0 :: r, hc, q, hq => by
    simp only [s_cLo, Bool.and_eq_true] at hc
    rcases List.mem_cons.mp hq with rfl | hq
    · have hc := hc.1
      split at hc
      · cases hc
      · rename_i b hb
        obtain ⟨v, h1, h2⟩ := hS.get hb
        exact ⟨v, h1, s_cAS hE h hc h2⟩
    · exact s_cLoS hE h hS hc.2 q hq
end Sub
