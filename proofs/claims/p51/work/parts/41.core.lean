/-! Rows of numbers, what a cloth becomes, what the class's cells say of such a row. -/
noncomputable def fu (g : Nat → Int) (i : Nat) (x : Int) : Nat → Int := fun j => if j = i then x else g j
theorem fu_ne {g : Nat → Int} {i j : Nat} {x : Int} (h : j ≠ i) : fu g i x j = g j := if_neg h
theorem fu_eq {g : Nat → Int} {i j : Nat} {x : Int} (h : j = i) : fu g i x j = x := if_pos h
theorem zu_dn {m : zM} {q c i j : Nat} {v : Int} (h : c ≠ q) : zu m q i v c j = m c j := zu_df (q_beqF h)
theorem zu_row {m : zM} {q i : Nat} {v : Int} : zu m q i v q = fu (m q) i v := by
  funext j
  rw [zu_at]
  rfl
/-- only such slots have changed -/
noncomputable def zFr (S : Nat → Nat → Bool) (m m1 : zM) : Prop := ∀ c j, S c j = false → m1 c j = m c j
theorem zFr.refl {S : Nat → Nat → Bool} {m : zM} : zFr S m m := fun _ _ _ => rfl
theorem zFr.trans {S : Nat → Nat → Bool} {m m1 m2 : zM} (h1 : zFr S m m1) (h2 : zFr S m1 m2) : zFr S m m2 := fun c j h => (h2 c j h).trans (h1 c j h)
theorem zFr.mono {S S2 : Nat → Nat → Bool} {m m1 : zM} (h : zFr S m m1) (hs : ∀ c j, S2 c j = false → S c j = false) : zFr S2 m m1 := fun c j q => h c j (hs c j q)
theorem zFr.set {S : Nat → Nat → Bool} {m m1 : zM} {q i : Nat} {v : Int} (h : zFr S m m1) (hs : S q i = true) : zFr S m (zu m1 q i v) := by
  intro c j hc
  by_cases e : c = q
  · subst e
    by_cases e2 : j = i
    · subst e2
      rw [hs] at hc
      cases hc
    · rw [zu_off e2]
      exact h c j hc
  · rw [zu_dn e]
    exact h c j hc
noncomputable abbrev zS : Type := (Nat → Int) × Int × Int × Int
/-- a cloth is made so long -/
noncomputable def mkA (h : Int) (a : zS) (c : Nat) (v : Int) : zS :=
  if a.1 (c + 12) = v then a
  else if a.1 (c + 12) + a.1 (c + 20) < v then (fu (fu (fu a.1 (c + 12) v) (c + 20) 0) (c + 28) (a.1 (c + 28) + 1), a.2.1 + (v - (a.1 (c + 12) + a.1 (c + 20))), a.2.2.1 + 3, a.2.2.2)
  else if v + h < a.1 (c + 12) + a.1 (c + 20) then ((if a.1 56 = 20 then fu (fu a.1 (c + 12) v) (c + 20) h else fu (fu (fu (fu a.1 (c + 12) v) (c + 20) h) (36 + a.1 56).toNat (a.1 (c + 12) + a.1 (c + 20) - v - h)) 56 (a.1 56 + 1)), a.2.1, a.2.2.1 + 2, a.2.2.2 + (a.1 (c + 12) + a.1 (c + 20) - v - h))
  else (fu (fu a.1 (c + 12) v) (c + 20) (a.1 (c + 12) + a.1 (c + 20) - v), a.2.1, a.2.2.1 + 1, a.2.2.2)
/-- the class's cells say what the row says, of so many people and cloths -/
noncomputable def Rel (n k : Nat) (m : zM) (g : Nat → Int) : Prop :=
  (∀ p, p < n → m 19 p = g p ∧ m 20 p = g (p + 6)) ∧ (∀ c, c < k → m 21 c = g (c + 12) ∧ m 22 c = g (c + 20) ∧ m 23 c = g (c + 28)) ∧ m 25 2 = g 56 ∧ (∀ i : Nat, (i : Int) < g 56 → m 26 i = g (i + 36)) ∧ m 17 11 = g 57 ∧ m 17 10 = g 58
noncomputable def RelA (n k : Nat) (m : zM) (a : zS) : Prop := Rel n k m a.1 ∧ m 17 12 = a.2.1 ∧ m 17 13 = a.2.2.1 ∧ m 17 14 = a.2.2.2
noncomputable def RelR (q : Nat) (m : zM) (a : zS) : Prop := m q = a.1 ∧ m 74 31 = a.2.1 ∧ m 74 32 = a.2.2.1 ∧ m 74 33 = a.2.2.2
noncomputable def tlW (c j : Nat) : Bool := (Nat.beq c 17 && (Nat.beq j 12 || (Nat.beq j 13 || Nat.beq j 14))) || (Nat.beq c 21 || (Nat.beq c 22 || (Nat.beq c 23 || ((Nat.beq c 25 && Nat.beq j 2) || Nat.beq c 26))))
noncomputable def mkW (q c j : Nat) : Bool := Nat.beq c q || (Nat.beq c 74 && (Nat.beq j 31 || (Nat.beq j 32 || Nat.beq j 33)))
section ZCore
variable {T : Nat → Nat → zG → (Option zA → zM → Prop) → Prop}
theorem z_tailor (hT : zRules T) {D : Nat} {κ : Option zA → zM → Prop} {m : zM} {c n k : Nat} {v : Int} {a : zS} (hB : zB m) (hn : n ≤ 6) (hk : k ≤ 8) (hc : c < k) (hv : 0 ≤ v ∧ v ≤ 99) (hR : RelA n k m a)
    (h : ∀ m1, zB m1 → zFr tlW m m1 → RelA n k m1 (mkA (m 24 0) a c v) → κ none m1) : T (D + 2) 38 (0, [(0, zr 17), (1, zi (c : Int)), (2, zi v)], [], m) κ := by
  obtain ⟨⟨r1, r2, r3, r4, r5, r6⟩, b1, b2, b3⟩ := hR
  obtain ⟨e1, e2, e3⟩ := r2 c hc
  have hB2 : 0 ≤ m 25 2 ∧ m 25 2 ≤ 20 := hB 25 2
  refine zb38_0 hT hB (by omega) hv ?_ ?_ ?_ ?_ ?_
  · intro a1 a2 a3 a4 hz
    refine h _ hz ((((zFr.refl.set rfl).set rfl).set rfl).set rfl) ?_
    have g56 : a.1 56 = 20 := by omega
    rw [mkA, if_neg (by omega), if_neg (by omega), if_pos (by omega), if_pos g56]
    refine ⟨⟨fun p hp => ?_, fun d hd => ?_, ?_, fun i hi => ?_, ?_, ?_⟩, ?_, ?_, ?_⟩
    · simp (disch := omega) only [zu_dn, fu_ne]
      exact r1 p hp
    · by_cases ed : d = c
      · subst ed
        simp (disch := omega) only [zu_dn, zu_sm, zu_off, fu_ne, fu_eq]
        exact ⟨trivial, by omega, e3⟩
      · simp (disch := omega) only [zu_dn, zu_sm, zu_off, fu_ne, fu_eq]
        exact r2 d hd
    · simp (disch := omega) only [zu_dn, fu_ne]
      exact r3
    · simp (disch := omega) only [zu_dn, fu_ne] at hi ⊢
      exact r4 i hi
    · simp (disch := omega) only [zu_dn, zu_off, fu_ne]
      exact r5
    · simp (disch := omega) only [zu_dn, zu_off, fu_ne]
      exact r6
    · simp (disch := omega) only [zu_dn, zu_off]
      exact b1
    · simp (disch := omega) only [zu_dn, zu_off, zu_sm]
      omega
    · simp (disch := omega) only [zu_dn, zu_off, zu_sm]
      omega
  · intro a1 a2 a3 a4 hz
    refine h _ hz ((((((zFr.refl.set rfl).set rfl).set rfl).set rfl).set rfl).set rfl) ?_
    have g56 : ¬ a.1 56 = 20 := by omega
    rw [mkA, if_neg (by omega), if_neg (by omega), if_pos (by omega), if_neg g56]
    refine ⟨⟨fun p hp => ?_, fun d hd => ?_, ?_, fun i hi => ?_, ?_, ?_⟩, ?_, ?_, ?_⟩
    · simp (disch := omega) only [zu_dn, fu_ne]
      exact r1 p hp
    · by_cases ed : d = c
      · subst ed
        simp (disch := omega) only [zu_dn, zu_sm, zu_off, fu_ne, fu_eq]
        exact ⟨trivial, by omega, e3⟩
      · simp (disch := omega) only [zu_dn, zu_sm, zu_off, fu_ne, fu_eq]
        exact r2 d hd
    · simp (disch := omega) only [zu_dn, zu_sm, fu_eq]
      omega
    · simp (disch := omega) only [zu_dn, fu_eq] at hi ⊢
      by_cases ei : i = (m 25 2).toNat
      · simp (disch := omega) only [zu_sm, fu_ne, fu_eq]
        omega
      · simp (disch := omega) only [zu_off, fu_ne]
        exact r4 i (by omega)
    · simp (disch := omega) only [zu_dn, zu_off, fu_ne]
      exact r5
    · simp (disch := omega) only [zu_dn, zu_off, fu_ne]
      exact r6
    · simp (disch := omega) only [zu_dn, zu_off]
      exact b1
    · simp (disch := omega) only [zu_dn, zu_off, zu_sm]
      omega
    · simp (disch := omega) only [zu_dn, zu_off, zu_sm]
      omega
  · intro a1 a2 a3 hz
    refine h _ hz (((zFr.refl.set rfl).set rfl).set rfl) ?_
    rw [mkA, if_neg (by omega), if_neg (by omega), if_neg (by omega)]
    refine ⟨⟨fun p hp => ?_, fun d hd => ?_, ?_, fun i hi => ?_, ?_, ?_⟩, ?_, ?_, ?_⟩
    · simp (disch := omega) only [zu_dn, fu_ne]
      exact r1 p hp
    · by_cases ed : d = c
      · subst ed
        simp (disch := omega) only [zu_dn, zu_sm, zu_off, fu_ne, fu_eq]
        exact ⟨trivial, by omega, e3⟩
      · simp (disch := omega) only [zu_dn, zu_sm, zu_off, fu_ne, fu_eq]
        exact r2 d hd
    · simp (disch := omega) only [zu_dn, fu_ne]
      exact r3
    · simp (disch := omega) only [zu_dn, fu_ne] at hi ⊢
      exact r4 i hi
    · simp (disch := omega) only [zu_dn, zu_off, fu_ne]
      exact r5
    · simp (disch := omega) only [zu_dn, zu_off, fu_ne]
      exact r6
    · simp (disch := omega) only [zu_dn, zu_off]
      exact b1
    · simp (disch := omega) only [zu_dn, zu_off, zu_sm]
      omega
    · simp (disch := omega) only [zu_dn, zu_off, zu_sm]
      omega
  · intro a1 a2 hz
    refine h _ hz (((((zFr.refl.set rfl).set rfl).set rfl).set rfl).set rfl) ?_
    rw [mkA, if_neg (by omega), if_pos (by omega)]
    refine ⟨⟨fun p hp => ?_, fun d hd => ?_, ?_, fun i hi => ?_, ?_, ?_⟩, ?_, ?_, ?_⟩
    · simp (disch := omega) only [zu_dn, fu_ne]
      exact r1 p hp
    · by_cases ed : d = c
      · subst ed
        simp (disch := omega) only [zu_dn, zu_sm, zu_off, fu_ne, fu_eq]
        exact ⟨trivial, by omega, by omega⟩
      · simp (disch := omega) only [zu_dn, zu_sm, zu_off, fu_ne, fu_eq]
        exact r2 d hd
    · simp (disch := omega) only [zu_dn, fu_ne]
      exact r3
    · simp (disch := omega) only [zu_dn, fu_ne] at hi ⊢
      exact r4 i hi
    · simp (disch := omega) only [zu_dn, zu_off, fu_ne]
      exact r5
    · simp (disch := omega) only [zu_dn, zu_off, fu_ne]
      exact r6
    · simp (disch := omega) only [zu_dn, zu_off, zu_sm]
      omega
    · simp (disch := omega) only [zu_dn, zu_off, zu_sm]
      omega
    · simp (disch := omega) only [zu_dn, zu_off]
      exact b3
  · intro a1
    refine h m hB zFr.refl ?_
    rw [mkA, if_pos (by omega)]
    exact ⟨⟨r1, r2, r3, r4, r5, r6⟩, b1, b2, b3⟩
end ZCore
