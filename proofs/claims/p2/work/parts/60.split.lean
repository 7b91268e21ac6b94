/-! A contract by the values of one of its names. -/
section Split
variable {l : Launch} {dC : Nat → ClassId} {dI : Nat → Nat → Nat} {dA : FieldType → ClassId} {Hb : Heap} {ad : Nat → Nat}
theorem q_split {c j K : Nat} {C : sK} {lo hi : Int} (hb : C.2.2.1.2.1[j]? = some (lo, hi)) (hz : ∀ z, lo ≤ z → z ≤ hi → q_KOK l dC dI dA Hb ad c (s_var C j z) K) : q_KOK l dC dI dA Hb ad c C K := by
  obtain ⟨dp, as, E, h, ends⟩ := C
  intro rw' H vs hdp hL hE hG
  dsimp only at hb hdp hL hE hG ⊢
  obtain ⟨v, v1, v2, v3⟩ := hE.2.1 j _ hb
  have hlt := (List.getElem?_eq_some_iff.mp hb).1
  refine hz v v2 v3 rw' H vs hdp hL ⟨?_, fun k i hk => ?_, hE.2.2.1, hE.2.2.2⟩ (hG.env rfl)
  · show rw'.length = (E.2.1.set j (v, v)).length
    rw [List.length_set]
    exact hE.1
  · have hk : (E.2.1.set j (v, v))[k]? = some i := hk
    by_cases e : j = k
    · subst e
      rw [List.getElem?_set_self hlt] at hk
      cases hk
      exact ⟨v, v1, Int.le_refl _, Int.le_refl _⟩
    · rw [List.getElem?_set_ne e] at hk
      exact hE.2.1 k i hk
end Split
