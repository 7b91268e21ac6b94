/-! almanac(). -/
/-- THE TEXT's signs, up to so many -/
noncomputable def sgT (m : zM) (mx : Int) (a : Nat) : Int := if (a : Int) < m 2 1 ∧ (a : Int) < mx then m 3 a else -1
theorem sT_R {m N : zM} {mx : Int} (hT : TextRel m) (h80 : ∀ j, N 80 j = m 80 j) (h14 : N 74 14 = m 2 1) (h15 : N 74 15 = mx) : sgR N 80 = sgT m mx := by
  funext a
  unfold sgR sgT
  rw [h14, h15, h80]
  split
  · rename_i q
    rw [z_and255, hT.2 a q.1]
  · rfl
theorem sT_C {m N : zM} {mx : Int} (h3 : ∀ j, N 3 j = m 3 j) (h22 : N 2 2 = if m 2 1 < mx then m 2 1 else mx) : sgC N = sgT m mx := by
  funext a
  unfold sgC sgT
  rw [h22, h3]
  by_cases q : m 2 1 < mx
  · rw [if_pos q]
    by_cases x : (a : Int) < m 2 1
    · rw [if_pos x, if_pos ⟨x, by omega⟩]
    · rw [if_neg x, if_neg (fun y => x y.1)]
  · rw [if_neg q]
    by_cases x : (a : Int) < mx
    · rw [if_pos x, if_pos ⟨by omega, x⟩]
    · rw [if_neg x, if_neg (fun y => x y.2)]
section ZAlmW
variable {T : Nat → Nat → zG → (Option zA → zM → Prop) → Prop} {B : Int}
theorem w_almanac (hT : zRules T) : Way T 114 205 [(0, zr 1)] [(0, zr 74)] 5 3 B B True := by
  rintro D m sc ⟨n, k, hI⟩ κ hκ
  have hI0 := hI
  obtain ⟨i1, i2, i3, i4, i5, i6, i7, i8, i9, i10, i11⟩ := hI
  have b21 : 0 ≤ m 2 1 ∧ m 2 1 ≤ 80 := i1 2 1
  obtain ⟨L, hL⟩ : ∃ L : Nat, m 2 1 = (L : Int) := ⟨(m 2 1).toNat, by omega⟩
  have hs : ∀ a, L ≤ a → sgT m 80 a = -1 := fun a ha => by
    unfold sgT
    rw [if_neg (by omega)]
  -- the reference behind the class: M1 is as m but for rpL and the lengths
  have ref : ∀ (r : Option zA) (M1 : zM), zB M1 → zFr (inL [(2, some 1), (2, some 2), (2, some 3), (4, some 4), (5, none), (6, none), (7, none), (8, none)]) m M1 → M1 2 1 = 0 →
      (∀ x, almP (sgT m 80) L 4 0 0 = .inl x → r = some (zi (-1 - (x : Int))) ∧ Agree KL m M1) →
      (∀ q, almP (sgT m 80) L 4 0 0 = .inr q → r = some (zi (q : Int)) ∧ M1 4 4 = (q : Int) ∧ ∀ i, i < q → placeOK (sgT m 80) (M1 6) (M1 5) i) → κ r M1 := by
    intro r M1 hB1 hF1 h21 hx hq
    refine hκ _ _ (fun D2 κ2 h2 => ?_)
    refine zb205_0 hT hB1 (fun hz => ?_)
    generalize hN : (zu (zu (zu (zu (zu (zu (zu M1 74 12 0) 74 13 80) 74 14 (M1 74 9)) 74 15 80) 74 16 0) 74 17 (-1)) 74 9 0) = N at hz ⊢
    have f13 : N 74 13 = 80 := by rw [← hN]; simp (disch := omega) only [zu_off, zu_sm]
    have f14 : N 74 14 = m 2 1 := by
      rw [← hN]
      simp (disch := omega) only [zu_off, zu_sm]
      rw [hF1 74 9 rfl]
      exact i2.1
    have f15 : N 74 15 = 80 := by rw [← hN]; simp (disch := omega) only [zu_off, zu_sm]
    have f16 : N 74 16 = 0 := by rw [← hN]; simp (disch := omega) only [zu_off, zu_sm]
    have f17 : N 74 17 = -1 := by rw [← hN]; simp (disch := omega) only [zu_off, zu_sm]
    have f9 : N 74 9 = 0 := by rw [← hN]; simp (disch := omega) only [zu_sm]
    have hFN : zFr (inL [(74, some 9), (74, some 12), (74, some 13), (74, some 14), (74, some 15), (74, some 16), (74, some 17)]) M1 N := by
      rw [← hN]
      exact ((((((zFr.refl.set rfl).set rfl).set rfl).set rfl).set rfl).set rfl).set rfl
    have e80 : ∀ j, N 80 j = m 80 j := fun j => (hFN 80 j rfl).trans (hF1 80 j rfl)
    have hsR := sT_R i2 e80 f14 f15
    refine z_almR (s := sgT m 80) (L := L) hT hz f13 hsR.symm (f14.trans hL) (by omega) hs f16 f17 (fun x M2 hal hB2 hF2 => ?_) (fun q M2 hal hq4 hB2 hF2 g1 g2 => ?_)
    · obtain ⟨hr, hAL⟩ := hx x hal
      have hF : zFr (inL [(2, some 1), (2, some 2), (2, some 3), (4, some 4), (5, none), (6, none), (7, none), (8, none), (74, some 9), (74, some 12), (74, some 13), (74, some 14), (74, some 15), (74, some 16), (74, some 17), (82, none), (83, none)]) m M2 := ((hF1.sub (inL_sub (by decide))).trans (hFN.sub (inL_sub (by decide)))).trans (hF2.sub (inL_sub (by decide)))
      have hAL2 : Agree KL m M2 := hAL.trans ((Agree.of hFN rfl).trans (.of hF2 rfl))
      refine h2 _ _ (fun _ => hr) ⟨n, k, hB2, ⟨?_, fun j hj => ?_⟩, hAL2.law.1 i3, House_fr (.of hF rfl) i4, Term_fr (.of hF rfl) i5, Undo_fr (.of hF rfl) i6, Kept_fr (.of hF rfl) i7, Seen_fr (.of hF rfl) i8, Job_fr (.of hF rfl) i9, Now_fr (.of hF rfl) i10, Scr_fr (.of hF rfl) i11⟩
      · rw [hF2 74 9 rfl, hF2 2 1 rfl, hFN 2 1 rfl, f9, h21]
      · rw [hF2 2 1 rfl, hFN 2 1 rfl, h21] at hj
        omega
    · obtain ⟨hr, h44, hpl⟩ := hq q hal
      have hF : zFr (inL [(2, some 1), (2, some 2), (2, some 3), (4, some 4), (5, none), (6, none), (7, none), (8, none), (74, some 1), (74, some 9), (74, some 12), (74, some 13), (74, some 14), (74, some 15), (74, some 16), (74, some 17), (76, none), (77, none), (82, none), (83, none)]) m M2 := ((hF1.sub (inL_sub (by decide))).trans (hFN.sub (inL_sub (by decide)))).trans (hF2.sub (inL_sub (by decide)))
      have d44 : M2 4 4 = (q : Int) := by rw [hF2 4 4 rfl, hFN 4 4 rfl]; exact h44
      have d5 : M2 5 = M1 5 := funext fun j => (hF2 5 j rfl).trans (hFN 5 j rfl)
      have d6 : M2 6 = M1 6 := funext fun j => (hF2 6 j rfl).trans (hFN 6 j rfl)
      refine h2 _ _ (fun _ => hr) ⟨n, k, hB2, ⟨?_, fun j hj => ?_⟩, ⟨⟨fun p hp => ?_, ?_⟩, ⟨?_, fun p hp => ?_⟩, ?_⟩, House_fr (.of hF rfl) i4, Term_fr (.of hF rfl) i5, Undo_fr (.of hF rfl) i6, Kept_fr (.of hF rfl) i7, Seen_fr (.of hF rfl) i8, Job_fr (.of hF rfl) i9, Now_fr (.of hF rfl) i10, Scr_fr (.of hF rfl) i11⟩
      · rw [hF2 74 9 rfl, hF2 2 1 rfl, hFN 2 1 rfl, f9, h21]
      · rw [hF2 2 1 rfl, hFN 2 1 rfl, h21] at hj
        omega
      · rw [d44] at hp
        obtain ⟨a1, a2, a3⟩ := hpl p (by omega)
        rw [d6, a1]
        omega
      · have ec : ∀ c, (c = 10 ∨ c = 11 ∨ c = 12) → M2 c = m c := fun c hc => by
          rcases hc with rfl | rfl | rfl <;> exact funext fun j => hF _ j rfl
        rw [ec 10 (by omega), ec 11 (by omega), ec 12 (by omega), hF 9 4 rfl]
        exact i3.1.2
      · rw [g1, d44]
      · rw [d44] at hp
        obtain ⟨a1, a2, a3⟩ := hpl p (by omega)
        obtain ⟨c1, c2, c3⟩ := g2 p (by omega)
        refine ⟨by rw [c1, d6, a1], fun t ht => ?_⟩
        rw [d6, a1] at ht
        rw [c3 t (by omega), d5, a3 t (by omega)]
      · have h9 : Agree [(9, some 4), (10, none), (11, none), (12, none), (74, some 25), (86, none)] m M2 := .of hF rfl
        have es : sQ M2 = sQ m := by
          funext x
          unfold sQ
          rw [h9 74 25 rfl, h9 86 x rfl]
        have er : ruleV M2 = ruleV m := by
          funext x
          unfold ruleV
          rw [h9 9 4 rfl, show M2 10 = m 10 from funext fun j => h9 10 j rfl, show M2 11 = m 11 from funext fun j => h9 11 j rfl, show M2 12 = m 12 from funext fun j => h9 12 j rfl]
        unfold RuleRel
        rw [h9 9 4 rfl, h9 74 25 rfl, es, er]
        exact i3.2.2
  refine zb114_0 hT i1 (fun hz => ?_)
  have hsC : sgC (zu (zu m 2 3 0) 2 2 (m 2 1)) = sgT m 80 := sT_C (fun _ => rfl) (by
    rw [zu_sm rfl]
    by_cases q : m 2 1 < 80
    · rw [if_pos q]
    · rw [if_neg q]
      omega)
  have hF0 : zFr (inL [(2, some 2), (2, some 3)]) m (zu (zu m 2 3 0) 2 2 (m 2 1)) := (zFr.refl.set rfl).set rfl
  refine z_readPlaces (s := sgT m 80) (L := L) hT hz hsC.symm hL (by omega) hs rfl (fun x M1 hal hB1 hF1 g1 => ?_) (fun q M1 hal hq4 hB1 hF1 g1 g2 => ?_)
  · refine zb114_21 hT rfl hB1 (by omega) (fun q => by omega) (fun _ hz1 => ?_)
    rw [g1]
    refine ref _ _ hz1 (((hF0.sub (inL_sub (by decide))).trans (hF1.sub (inL_sub (by decide)))).set rfl) (by rw [zu_sm rfl]) (fun y hy => ?_) (fun y hy => ?_)
    · rw [hal] at hy
      cases hy
      exact ⟨rfl, (Agree.of hF0 rfl).trans ((Agree.of hF1 rfl).trans (.of (L := [(2, some 1)]) (zFr.refl.set rfl) rfl))⟩
    · rw [hal] at hy
      cases hy
  · refine zb114_21 hT rfl hB1 (by omega) (fun _ hz1 => ?_) (fun q => by omega)
    refine ref _ _ hz1 (((hF0.sub (inL_sub (by decide))).trans (hF1.sub (inL_sub (by decide)))).set rfl) (by rw [zu_sm rfl]) (fun y hy => ?_) (fun y hy => ?_)
    · rw [hal] at hy
      cases hy
    · rw [hal] at hy
      cases hy
      exact ⟨rfl, g1, g2⟩
end ZAlmW
