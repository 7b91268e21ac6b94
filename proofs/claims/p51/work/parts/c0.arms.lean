/-! The law: its arms. -/
theorem zaix {L : Int} {m : zM} {i : Nat} {k : Int} (hs : m 110 0 = L) (hi : (i : Int) + 5 ≤ L) (hL : L ≤ 2560) (h0 : 0 ≤ k) (h4 : k ≤ 4) : z_ix ((i : Int) + k) (m 110 0) := by
  unfold z_ix
  rw [wr_id (by omega) (by omega), hs]
  omega
theorem zaval {L : Int} {xs : Nat → Int} {m m1 : zM} {i : Nat} {k : Int} (hs : m 110 0 = L ∧ ∀ j : Nat, (j : Int) < L → wr (m 0 j) = xs j) (hs1 : m1 110 0 = L ∧ ∀ j : Nat, (j : Int) < L → wr (m1 0 j) = xs j) (hi : (i : Int) + 5 ≤ L) (hL : L ≤ 2560) (h0 : 0 ≤ k) (h4 : k ≤ 4) : wr (m1 0 (wr ((i : Int) + k)).toNat) = wr (m 0 (wr ((i : Int) + k)).toNat) := by
  rw [wr_id (a := (i : Int) + k) (by omega) (by omega), hs.2 _ (by omega), hs1.2 _ (by omega)]
noncomputable def zmI (k : Nat) : Bool := match mR k with
  | some .int => true
  | some .boolean => true
  | _ => false
theorem z_ansE {k : Nat} {r : Option zA} (hk : zmI k = true) (h : z_ans k r) : ∃ v : Int, r = some (.inl v) ∧ (-2147483648 ≤ v ∧ v ≤ 2147483647) := by
  unfold z_ans at h
  unfold zmI at hk
  split at hk
  · rename_i e
    rw [e] at h
    exact h
  · rename_i e
    rw [e] at h
    exact h
  · cases hk
theorem Inv_up {B B2 : Int} {sc : zSc} {m : zM} (h : B ≤ B2) (hI : ∃ n k, Inv B sc n k m) : ∃ n k, Inv B2 sc n k m := by
  obtain ⟨n, k, hI⟩ := hI
  exact ⟨n, k, hI.up h⟩
theorem z_tabA {w : Int} {pc : Nat} {G : Nat → Prop} {d : Int} : ∀ (os : List Int) (z : Int), (∀ o ∈ os, G ((pc : Int) + o).toNat) → G ((pc : Int) + d).toNat → z_tab w pc G d z os
  | [], z, _, h => h
  | o :: os, z, h, hd => ⟨fun _ => h o List.mem_cons_self, fun _ => z_tabA os (z + 1) (fun q hq => h q (List.mem_cons_of_mem _ hq)) hd⟩
section ZArms
variable {T : Nat → Nat → zG → (Option zA → zM → Prop) → Prop} {TL : Nat → zG → Prop} {L : Int} {xs : Nat → Int} {B : Int} {sc : zSc}
theorem zarm_256 (hT : zRules T) (hL : zLRules T TL L xs) (hL2 : L ≤ 2560) {t i : Nat} {m : zM} (hi : (i : Int) + 5 ≤ L) (ht : t + 1 ≤ 520) (hB4 : B + 270 ≤ 400000) (hI : ∃ n k, Inv B sc n k m) (hN : ∀ m2, (∃ n k, Inv (B + 270) sc n k m2) → TL (t + 1) (23, lo0 ((i : Int) + 5), [], m2)) : TL t (256, lo0 (i : Int), [], m) := by
  refine hL.2.2.2 _ _ _ _ _ (fun hs => ?_)
  refine hL.1 30 t _ (And.intro (zaix hs.1 hi hL2 (k := 1) (by decide) (by decide)) ?_)
  show T 399 112 (0, [(0, zr 1), (1, zi (wr (m 0 (wr ((i : Int) + 1)).toNat)))], [], m) (fun r m1 => z_ans 112 r → TL t (266, lo0 (i : Int), r.toList ++ [], m1))
  refine w_sign hT (wrB _) 397 m sc hI _ ?_
  intro r m1 h ha
  obtain ⟨v, rfl, hv⟩ := z_ansE (k := 112) (by decide +kernel) ha
  refine hL.2.2.2 _ _ _ _ _ (fun hs1 => ?_)
  rw [← zaval hs hs1 hi hL2 (k := 1) (by decide) (by decide)] at h
  refine hL.1 30 t _ (And.intro (zaix hs1.1 hi hL2 (k := 1) (by decide) (by decide)) ?_)
  show T 399 195 (0, [(0, zr 74), (1, zi (wr (m1 0 (wr ((i : Int) + 1)).toNat)))], [], m1) (fun r m2 => z_ans 195 r → TL t (277, lo0 (i : Int), r.toList ++ [], m2))
  refine h 397 _ ?_
  intro r2 m2 hsame hI2 ha2
  obtain ⟨v2, rfl, hv2⟩ := z_ansE (k := 195) (by decide +kernel) ha2
  exact hL.1 4 t _ (hL.2.2.1 t _ ht (hN m2 (Inv_up (by omega) hI2)))
theorem zarm_281 (hT : zRules T) (hL : zLRules T TL L xs) (hL2 : L ≤ 2560) {t i : Nat} {m : zM} (hi : (i : Int) + 5 ≤ L) (ht : t + 1 ≤ 520) (hB4 : B + 270 ≤ 400000) (hI : ∃ n k, Inv B sc n k m) (hN : ∀ m2, (∃ n k, Inv (B + 270) sc n k m2) → TL (t + 1) (23, lo0 ((i : Int) + 5), [], m2)) : TL t (281, lo0 (i : Int), [], m) := by
  refine hL.2.2.2 _ _ _ _ _ (fun hs => ?_)
  refine hL.1 30 t _ (And.intro (zaix hs.1 hi hL2 (k := 1) (by decide) (by decide)) ?_)
  show T 399 113 (0, [(0, zr 1), (1, zi (wr (m 0 (wr ((i : Int) + 1)).toNat)))], [], m) (fun r m1 => z_ans 113 r → TL t (291, lo0 (i : Int), r.toList ++ [], m1))
  refine w_end hT (wrB _) 397 m sc hI _ ?_
  intro r m1 h ha
  obtain ⟨v, rfl, hv⟩ := z_ansE (k := 113) (by decide +kernel) ha
  refine hL.2.2.2 _ _ _ _ _ (fun hs1 => ?_)
  rw [← zaval hs hs1 hi hL2 (k := 1) (by decide) (by decide)] at h
  refine hL.1 30 t _ (And.intro (zaix hs1.1 hi hL2 (k := 1) (by decide) (by decide)) ?_)
  show T 399 196 (0, [(0, zr 74), (1, zi (wr (m1 0 (wr ((i : Int) + 1)).toNat)))], [], m1) (fun r m2 => z_ans 196 r → TL t (302, lo0 (i : Int), r.toList ++ [], m2))
  refine h 397 _ ?_
  intro r2 m2 hsame hI2 ha2
  obtain ⟨v2, rfl, hv2⟩ := z_ansE (k := 196) (by decide +kernel) ha2
  exact hL.1 4 t _ (hL.2.2.1 t _ ht (hN m2 (Inv_up (by omega) hI2)))
theorem zarm_306 (hT : zRules T) (hL : zLRules T TL L xs) (hL2 : L ≤ 2560) {t i : Nat} {m : zM} (hi : (i : Int) + 5 ≤ L) (ht : t + 1 ≤ 520) (hB4 : B + 270 ≤ 400000) (hI : ∃ n k, Inv B sc n k m) (hN : ∀ m2, (∃ n k, Inv (B + 270) sc n k m2) → TL (t + 1) (23, lo0 ((i : Int) + 5), [], m2)) : TL t (306, lo0 (i : Int), [], m) := by
  refine hL.2.2.2 _ _ _ _ _ (fun hs => ?_)
  refine hL.1 30 t _ ?_
  show T 399 114 (0, [(0, zr 1)], [], m) (fun r m1 => z_ans 114 r → TL t (310, lo0 (i : Int), r.toList ++ [], m1))
  refine w_almanac hT  394 m sc hI _ ?_
  intro r m1 h ha
  obtain ⟨v, rfl, hv⟩ := z_ansE (k := 114) (by decide +kernel) ha
  refine hL.2.2.2 _ _ _ _ _ (fun hs1 => ?_)
  refine hL.1 30 t _ ?_
  show T 399 205 (0, [(0, zr 74)], [], m1) (fun r m2 => z_ans 205 r → TL t (315, lo0 (i : Int), r.toList ++ [], m2))
  refine h 396 _ ?_
  intro r2 m2 hsame hI2 ha2
  obtain ⟨v2, rfl, hv2⟩ := z_ansE (k := 205) (by decide +kernel) ha2
  exact hL.1 4 t _ (hL.2.2.1 t _ ht (hN m2 (Inv_up (by omega) hI2)))
theorem zarm_319 (hT : zRules T) (hL : zLRules T TL L xs) (hL2 : L ≤ 2560) {t i : Nat} {m : zM} (hi : (i : Int) + 5 ≤ L) (ht : t + 1 ≤ 520) (hB4 : B + 270 ≤ 400000) (hI : ∃ n k, Inv B sc n k m) (hN : ∀ m2, (∃ n k, Inv (B + 270) sc n k m2) → TL (t + 1) (23, lo0 ((i : Int) + 5), [], m2)) : TL t (319, lo0 (i : Int), [], m) := by
  refine hL.2.2.2 _ _ _ _ _ (fun hs => ?_)
  refine hL.1 30 t _ ?_
  show T 399 115 (0, [(0, zr 1)], [], m) (fun r m1 => z_ans 115 r → TL t (323, lo0 (i : Int), r.toList ++ [], m1))
  refine w_house0 hT  392 m sc hI _ ?_
  intro r m1 h ha
  obtain ⟨v, rfl, hv⟩ := z_ansE (k := 115) (by decide +kernel) ha
  refine hL.2.2.2 _ _ _ _ _ (fun hs1 => ?_)
  refine hL.1 30 t _ ?_
  show T 399 206 (0, [(0, zr 74)], [], m1) (fun r m2 => z_ans 206 r → TL t (328, lo0 (i : Int), r.toList ++ [], m2))
  refine h 392 _ ?_
  intro r2 m2 hsame hI2 ha2
  obtain ⟨v2, rfl, hv2⟩ := z_ansE (k := 206) (by decide +kernel) ha2
  exact hL.1 4 t _ (hL.2.2.1 t _ ht (hN m2 (Inv_up (by omega) hI2)))
theorem zarm_332 (hT : zRules T) (hL : zLRules T TL L xs) (hL2 : L ≤ 2560) {t i : Nat} {m : zM} (hi : (i : Int) + 5 ≤ L) (ht : t + 1 ≤ 520) (hB4 : B + 270 ≤ 400000) (hI : ∃ n k, Inv B sc n k m) (hN : ∀ m2, (∃ n k, Inv (B + 270) sc n k m2) → TL (t + 1) (23, lo0 ((i : Int) + 5), [], m2)) : TL t (332, lo0 (i : Int), [], m) := by
  refine hL.2.2.2 _ _ _ _ _ (fun hs => ?_)
  refine hL.1 30 t _ ?_
  show T 399 116 (0, [(0, zr 1)], [], m) (fun r m1 => z_ans 116 r → TL t (336, lo0 (i : Int), r.toList ++ [], m1))
  refine w_rule hT  361 m sc hI _ ?_
  intro r m1 h ha
  obtain ⟨v, rfl, hv⟩ := z_ansE (k := 116) (by decide +kernel) ha
  refine hL.2.2.2 _ _ _ _ _ (fun hs1 => ?_)
  refine hL.1 30 t _ ?_
  show T 399 212 (0, [(0, zr 74)], [], m1) (fun r m2 => z_ans 212 r → TL t (341, lo0 (i : Int), r.toList ++ [], m2))
  refine h 230 _ ?_
  intro r2 m2 hsame hI2 ha2
  obtain ⟨v2, rfl, hv2⟩ := z_ansE (k := 212) (by decide +kernel) ha2
  exact hL.1 4 t _ (hL.2.2.1 t _ ht (hN m2 (Inv_up (by omega) hI2)))
theorem zarm_345 (hT : zRules T) (hL : zLRules T TL L xs) (hL2 : L ≤ 2560) {t i : Nat} {m : zM} (hi : (i : Int) + 5 ≤ L) (ht : t + 1 ≤ 520) (hB4 : B + 270 ≤ 400000) (hI : ∃ n k, Inv B sc n k m) (hN : ∀ m2, (∃ n k, Inv (B + 270) sc n k m2) → TL (t + 1) (23, lo0 ((i : Int) + 5), [], m2)) : TL t (345, lo0 (i : Int), [], m) := by
  refine hL.2.2.2 _ _ _ _ _ (fun hs => ?_)
  refine hL.1 30 t _ (And.intro (zaix hs.1 hi hL2 (k := 1) (by decide) (by decide)) (And.intro (zaix hs.1 hi hL2 (k := 2) (by decide) (by decide)) (And.intro ht ?_)))
  show zLHlp T TL t 298 [zr 1, zi (m 0 (wr ((i : Int) + 1)).toNat), zi (m 0 (wr ((i : Int) + 2)).toNat), zr 109] (362, lo0 (i : Int), [], m)
  refine Or.inl ⟨_, _, rfl, Or.inl ⟨rfl, ?_⟩⟩
  refine (n_person (B := B) hT (wrB _) (wrB _)).1 392 m sc hI _ ?_
  intro r m1 hr hI1
  have nxt : ∀ (kk : Int) (mm : zM), (∃ n k, Inv B sc n k mm) → TL (t + 1) (362, lo0 (i : Int), [zi kk], mm) := fun kk mm hIm => by
    refine hL.2.2.2 _ _ _ _ _ (fun hs1 => ?_)
    refine hL.1 30 (t + 1) _ (And.intro (zaix hs1.1 hi hL2 (k := 1) (by decide) (by decide)) (And.intro (zaix hs1.1 hi hL2 (k := 2) (by decide) (by decide)) ?_))
    show T 399 218 (0, [(0, zr 74), (1, zi (wr (mm 0 (wr ((i : Int) + 1)).toNat))), (2, zi (wr (mm 0 (wr ((i : Int) + 2)).toNat)))], [], mm) (fun r m1 => z_ans 218 r → TL (t + 1) (380, z_lset (lo0 (i : Int)) 5 (zi kk), r.toList ++ [], m1))
    refine (n_person (B := B) hT (wrB _) (wrB _)).2 227 mm sc hIm _ ?_
    intro r2 m2 hI2 ha2
    obtain ⟨v2, rfl, hv2⟩ := z_ansE (k := 218) (by decide +kernel) ha2
    exact hL.1 4 (t + 1) _ (hL.2.1 [0, 1, 2, 3, 4] _ _ _ _ _ (hN m2 (Inv_up (by omega) hI2)))
  exact ⟨fun _ => nxt 1 m1 hI1, fun v _ _ => nxt 0 _ (Inv_109 hI1)⟩
theorem zarm_385 (hT : zRules T) (hL : zLRules T TL L xs) (hL2 : L ≤ 2560) {t i : Nat} {m : zM} (hi : (i : Int) + 5 ≤ L) (ht : t + 1 ≤ 520) (hB4 : B + 270 ≤ 400000) (hI : ∃ n k, Inv B sc n k m) (hN : ∀ m2, (∃ n k, Inv (B + 270) sc n k m2) → TL (t + 1) (23, lo0 ((i : Int) + 5), [], m2)) : TL t (385, lo0 (i : Int), [], m) := by
  refine hL.2.2.2 _ _ _ _ _ (fun hs => ?_)
  refine hL.1 30 t _ (And.intro (zaix hs.1 hi hL2 (k := 1) (by decide) (by decide)) (And.intro (zaix hs.1 hi hL2 (k := 2) (by decide) (by decide)) (And.intro ht ?_)))
  show zLHlp T TL t 299 [zr 1, zi (m 0 (wr ((i : Int) + 1)).toNat), zi (m 0 (wr ((i : Int) + 2)).toNat), zr 109] (402, lo0 (i : Int), [], m)
  refine Or.inl ⟨_, _, rfl, Or.inr ⟨rfl, ?_⟩⟩
  refine (n_cloth (B := B) hT (wrB _) (wrB _)).1 395 m sc hI _ ?_
  intro r m1 hr hI1
  have nxt : ∀ (kk : Int) (mm : zM), (∃ n k, Inv B sc n k mm) → TL (t + 1) (402, lo0 (i : Int), [zi kk], mm) := fun kk mm hIm => by
    refine hL.2.2.2 _ _ _ _ _ (fun hs1 => ?_)
    refine hL.1 30 (t + 1) _ (And.intro (zaix hs1.1 hi hL2 (k := 1) (by decide) (by decide)) (And.intro (zaix hs1.1 hi hL2 (k := 2) (by decide) (by decide)) ?_))
    show T 399 219 (0, [(0, zr 74), (1, zi (wr (mm 0 (wr ((i : Int) + 1)).toNat))), (2, zi (wr (mm 0 (wr ((i : Int) + 2)).toNat)))], [], mm) (fun r m1 => z_ans 219 r → TL (t + 1) (420, z_lset (lo0 (i : Int)) 5 (zi kk), r.toList ++ [], m1))
    refine (n_cloth (B := B) hT (wrB _) (wrB _)).2 396 mm sc hIm _ ?_
    intro r2 m2 hI2 ha2
    obtain ⟨v2, rfl, hv2⟩ := z_ansE (k := 219) (by decide +kernel) ha2
    exact hL.1 4 (t + 1) _ (hL.2.1 [0, 1, 2, 3, 4] _ _ _ _ _ (hN m2 (Inv_up (by omega) hI2)))
  exact ⟨fun _ => nxt 1 m1 hI1, fun v _ _ => nxt 0 _ (Inv_109 hI1)⟩
theorem zarm_425 (hT : zRules T) (hL : zLRules T TL L xs) (hL2 : L ≤ 2560) {t i : Nat} {m : zM} (hi : (i : Int) + 5 ≤ L) (ht : t + 1 ≤ 520) (hB4 : B + 270 ≤ 400000) (hI : ∃ n k, Inv B sc n k m) (hN : ∀ m2, (∃ n k, Inv (B + 270) sc n k m2) → TL (t + 1) (23, lo0 ((i : Int) + 5), [], m2)) : TL t (425, lo0 (i : Int), [], m) := by
  refine hL.2.2.2 _ _ _ _ _ (fun hs => ?_)
  refine hL.1 30 t _ (And.intro (zaix hs.1 hi hL2 (k := 1) (by decide) (by decide)) (And.intro (zaix hs.1 hi hL2 (k := 2) (by decide) (by decide)) ?_))
  show T 399 119 (0, [(0, zr 1), (1, zi (wr (m 0 (wr ((i : Int) + 1)).toNat))), (2, zi (wr (m 0 (wr ((i : Int) + 2)).toNat)))], [], m) (fun r m1 => z_ans 119 r → TL t (441, lo0 (i : Int), r.toList ++ [], m1))
  refine w_light hT (wrB _) (wrB _) 397 m sc hI _ ?_
  intro r m1 h ha
  obtain ⟨v, rfl, hv⟩ := z_ansE (k := 119) (by decide +kernel) ha
  refine hL.2.2.2 _ _ _ _ _ (fun hs1 => ?_)
  rw [← zaval hs hs1 hi hL2 (k := 1) (by decide) (by decide)] at h
  rw [← zaval hs hs1 hi hL2 (k := 2) (by decide) (by decide)] at h
  refine hL.1 30 t _ (And.intro (zaix hs1.1 hi hL2 (k := 1) (by decide) (by decide)) (And.intro (zaix hs1.1 hi hL2 (k := 2) (by decide) (by decide)) ?_))
  show T 399 220 (0, [(0, zr 74), (1, zi (wr (m1 0 (wr ((i : Int) + 1)).toNat))), (2, zi (wr (m1 0 (wr ((i : Int) + 2)).toNat)))], [], m1) (fun r m2 => z_ans 220 r → TL t (458, lo0 (i : Int), r.toList ++ [], m2))
  refine h 397 _ ?_
  intro r2 m2 hsame hI2 ha2
  obtain ⟨v2, rfl, hv2⟩ := z_ansE (k := 220) (by decide +kernel) ha2
  exact hL.1 4 t _ (hL.2.2.1 t _ ht (hN m2 (Inv_up (by omega) hI2)))
theorem zarm_462 (hT : zRules T) (hL : zLRules T TL L xs) (hL2 : L ≤ 2560) {t i : Nat} {m : zM} (hi : (i : Int) + 5 ≤ L) (ht : t + 1 ≤ 520) (hB4 : B + 270 ≤ 400000) (hI : ∃ n k, Inv B sc n k m) (hN : ∀ m2, (∃ n k, Inv (B + 270) sc n k m2) → TL (t + 1) (23, lo0 ((i : Int) + 5), [], m2)) : TL t (462, lo0 (i : Int), [], m) := by
  refine hL.2.2.2 _ _ _ _ _ (fun hs => ?_)
  refine hL.1 30 t _ (And.intro (zaix hs.1 hi hL2 (k := 1) (by decide) (by decide)) (And.intro (zaix hs.1 hi hL2 (k := 2) (by decide) (by decide)) (And.intro (zaix hs.1 hi hL2 (k := 3) (by decide) (by decide)) ?_)))
  show T 399 120 (0, [(0, zr 1), (1, zi (wr (m 0 (wr ((i : Int) + 1)).toNat))), (2, zi (wr (m 0 (wr ((i : Int) + 2)).toNat))), (3, zi (wr (m 0 (wr ((i : Int) + 3)).toNat)))], [], m) (fun r m1 => z_ans 120 r → TL t (484, lo0 (i : Int), r.toList ++ [], m1))
  refine w_law hT (wrB _) (wrB _) (wrB _) 394 m sc hI _ ?_
  intro r m1 h ha
  obtain ⟨v, rfl, hv⟩ := z_ansE (k := 120) (by decide +kernel) ha
  refine hL.2.2.2 _ _ _ _ _ (fun hs1 => ?_)
  rw [← zaval hs hs1 hi hL2 (k := 1) (by decide) (by decide)] at h
  rw [← zaval hs hs1 hi hL2 (k := 2) (by decide) (by decide)] at h
  rw [← zaval hs hs1 hi hL2 (k := 3) (by decide) (by decide)] at h
  refine hL.1 30 t _ (And.intro (zaix hs1.1 hi hL2 (k := 1) (by decide) (by decide)) (And.intro (zaix hs1.1 hi hL2 (k := 2) (by decide) (by decide)) (And.intro (zaix hs1.1 hi hL2 (k := 3) (by decide) (by decide)) ?_)))
  show T 399 221 (0, [(0, zr 74), (1, zi (wr (m1 0 (wr ((i : Int) + 1)).toNat))), (2, zi (wr (m1 0 (wr ((i : Int) + 2)).toNat))), (3, zi (wr (m1 0 (wr ((i : Int) + 3)).toNat)))], [], m1) (fun r m2 => z_ans 221 r → TL t (507, lo0 (i : Int), r.toList ++ [], m2))
  refine h 228 _ ?_
  intro r2 m2 hsame hI2 ha2
  obtain ⟨v2, rfl, hv2⟩ := z_ansE (k := 221) (by decide +kernel) ha2
  exact hL.1 4 t _ (hL.2.2.1 t _ ht (hN m2 (Inv_up (by omega) hI2)))
theorem zarm_511 (hT : zRules T) (hL : zLRules T TL L xs) (hL2 : L ≤ 2560) {t i : Nat} {m : zM} (hi : (i : Int) + 5 ≤ L) (ht : t + 1 ≤ 520) (hB4 : B + 270 ≤ 400000) (hI : ∃ n k, Inv B sc n k m) (hN : ∀ m2, (∃ n k, Inv (B + 270) sc n k m2) → TL (t + 1) (23, lo0 ((i : Int) + 5), [], m2)) : TL t (511, lo0 (i : Int), [], m) := by
  refine hL.2.2.2 _ _ _ _ _ (fun hs => ?_)
  refine hL.1 30 t _ (And.intro (zaix hs.1 hi hL2 (k := 1) (by decide) (by decide)) (And.intro (zaix hs.1 hi hL2 (k := 2) (by decide) (by decide)) ?_))
  show T 399 121 (0, [(0, zr 1), (1, zi (wr (m 0 (wr ((i : Int) + 1)).toNat))), (2, zi (wr (m 0 (wr ((i : Int) + 2)).toNat)))], [], m) (fun r m1 => z_ans 121 r → TL t (527, lo0 (i : Int), r.toList ++ [], m1))
  refine w_set hT (wrB _) (wrB _) 397 m sc hI _ ?_
  intro r m1 h ha
  obtain ⟨v, rfl, hv⟩ := z_ansE (k := 121) (by decide +kernel) ha
  refine hL.2.2.2 _ _ _ _ _ (fun hs1 => ?_)
  rw [← zaval hs hs1 hi hL2 (k := 1) (by decide) (by decide)] at h
  rw [← zaval hs hs1 hi hL2 (k := 2) (by decide) (by decide)] at h
  refine hL.1 30 t _ (And.intro (zaix hs1.1 hi hL2 (k := 1) (by decide) (by decide)) (And.intro (zaix hs1.1 hi hL2 (k := 2) (by decide) (by decide)) ?_))
  show T 399 222 (0, [(0, zr 74), (1, zi (wr (m1 0 (wr ((i : Int) + 1)).toNat))), (2, zi (wr (m1 0 (wr ((i : Int) + 2)).toNat)))], [], m1) (fun r m2 => z_ans 222 r → TL t (544, lo0 (i : Int), r.toList ++ [], m2))
  refine h 397 _ ?_
  intro r2 m2 hsame hI2 ha2
  obtain ⟨v2, rfl, hv2⟩ := z_ansE (k := 222) (by decide +kernel) ha2
  exact hL.1 4 t _ (hL.2.2.1 t _ ht (hN m2 (Inv_up (by omega) hI2)))
theorem zarm_548 (hT : zRules T) (hL : zLRules T TL L xs) (hL2 : L ≤ 2560) {t i : Nat} {m : zM} (hi : (i : Int) + 5 ≤ L) (ht : t + 1 ≤ 520) (hB4 : B + 270 ≤ 400000) (hI : ∃ n k, Inv B sc n k m) (hN : ∀ m2, (∃ n k, Inv (B + 270) sc n k m2) → TL (t + 1) (23, lo0 ((i : Int) + 5), [], m2)) : TL t (548, lo0 (i : Int), [], m) := by
  refine hL.2.2.2 _ _ _ _ _ (fun hs => ?_)
  refine hL.1 30 t _ (And.intro (zaix hs.1 hi hL2 (k := 1) (by decide) (by decide)) (And.intro (zaix hs.1 hi hL2 (k := 2) (by decide) (by decide)) (And.intro (zaix hs.1 hi hL2 (k := 3) (by decide) (by decide)) (And.intro (zaix hs.1 hi hL2 (k := 4) (by decide) (by decide)) ?_))))
  show T 399 122 (0, [(0, zr 1), (1, zi (wr (m 0 (wr ((i : Int) + 1)).toNat))), (2, zi (wr (m 0 (wr ((i : Int) + 2)).toNat))), (3, zi (wr (m 0 (wr ((i : Int) + 3)).toNat))), (4, zi (wr (m 0 (wr ((i : Int) + 4)).toNat)))], [], m) (fun r m1 => z_ans 122 r → TL t (576, lo0 (i : Int), r.toList ++ [], m1))
  refine w_sheet hT (wrB _) (wrB _) (wrB _) (wrB _) 396 m sc hI _ ?_
  intro r m1 h ha
  obtain ⟨v, rfl, hv⟩ := z_ansE (k := 122) (by decide +kernel) ha
  refine hL.2.2.2 _ _ _ _ _ (fun hs1 => ?_)
  rw [← zaval hs hs1 hi hL2 (k := 1) (by decide) (by decide)] at h
  rw [← zaval hs hs1 hi hL2 (k := 2) (by decide) (by decide)] at h
  rw [← zaval hs hs1 hi hL2 (k := 3) (by decide) (by decide)] at h
  rw [← zaval hs hs1 hi hL2 (k := 4) (by decide) (by decide)] at h
  refine hL.1 30 t _ (And.intro (zaix hs1.1 hi hL2 (k := 1) (by decide) (by decide)) (And.intro (zaix hs1.1 hi hL2 (k := 2) (by decide) (by decide)) (And.intro (zaix hs1.1 hi hL2 (k := 3) (by decide) (by decide)) (And.intro (zaix hs1.1 hi hL2 (k := 4) (by decide) (by decide)) ?_))))
  show T 399 223 (0, [(0, zr 74), (1, zi (wr (m1 0 (wr ((i : Int) + 1)).toNat))), (2, zi (wr (m1 0 (wr ((i : Int) + 2)).toNat))), (3, zi (wr (m1 0 (wr ((i : Int) + 3)).toNat))), (4, zi (wr (m1 0 (wr ((i : Int) + 4)).toNat)))], [], m1) (fun r m2 => z_ans 223 r → TL t (605, lo0 (i : Int), r.toList ++ [], m2))
  refine h 397 _ ?_
  intro r2 m2 hsame hI2 ha2
  obtain ⟨v2, rfl, hv2⟩ := z_ansE (k := 223) (by decide +kernel) ha2
  exact hL.1 4 t _ (hL.2.2.1 t _ ht (hN m2 (Inv_up (by omega) hI2)))
theorem zarm_609 (hT : zRules T) (hL : zLRules T TL L xs) (hL2 : L ≤ 2560) {t i : Nat} {m : zM} (hi : (i : Int) + 5 ≤ L) (ht : t + 1 ≤ 520) (hB4 : B + 270 ≤ 400000) (hI : ∃ n k, Inv B sc n k m) (hN : ∀ m2, (∃ n k, Inv (B + 270) sc n k m2) → TL (t + 1) (23, lo0 ((i : Int) + 5), [], m2)) : TL t (609, lo0 (i : Int), [], m) := by
  refine hL.2.2.2 _ _ _ _ _ (fun hs => ?_)
  refine hL.1 30 t _ (And.intro (zaix hs.1 hi hL2 (k := 1) (by decide) (by decide)) (And.intro (zaix hs.1 hi hL2 (k := 2) (by decide) (by decide)) ?_))
  show T 399 123 (0, [(0, zr 1), (1, zi (wr (m 0 (wr ((i : Int) + 1)).toNat))), (2, zi (wr (m 0 (wr ((i : Int) + 2)).toNat)))], [], m) (fun r m1 => z_ans 123 r → TL t (625, lo0 (i : Int), r.toList ++ [], m1))
  refine w_wear hT (wrB _) (wrB _) 395 m sc hI _ ?_
  intro r m1 h ha
  obtain ⟨v, rfl, hv⟩ := z_ansE (k := 123) (by decide +kernel) ha
  refine hL.2.2.2 _ _ _ _ _ (fun hs1 => ?_)
  rw [← zaval hs hs1 hi hL2 (k := 1) (by decide) (by decide)] at h
  rw [← zaval hs hs1 hi hL2 (k := 2) (by decide) (by decide)] at h
  refine hL.1 30 t _ (And.intro (zaix hs1.1 hi hL2 (k := 1) (by decide) (by decide)) (And.intro (zaix hs1.1 hi hL2 (k := 2) (by decide) (by decide)) ?_))
  show T 399 231 (0, [(0, zr 74), (1, zi (wr (m1 0 (wr ((i : Int) + 1)).toNat))), (2, zi (wr (m1 0 (wr ((i : Int) + 2)).toNat)))], [], m1) (fun r m2 => z_ans 231 r → TL t (642, lo0 (i : Int), r.toList ++ [], m2))
  refine h 395 _ ?_
  intro r2 m2 hsame hI2 ha2
  obtain ⟨v2, rfl, hv2⟩ := z_ansE (k := 231) (by decide +kernel) ha2
  exact hL.1 4 t _ (hL.2.2.1 t _ ht (hN m2 (Inv_up (by omega) hI2)))
theorem zarm_646 (hT : zRules T) (hL : zLRules T TL L xs) (hL2 : L ≤ 2560) {t i : Nat} {m : zM} (hi : (i : Int) + 5 ≤ L) (ht : t + 1 ≤ 520) (hB4 : B + 270 ≤ 400000) (hI : ∃ n k, Inv B sc n k m) (hN : ∀ m2, (∃ n k, Inv (B + 270) sc n k m2) → TL (t + 1) (23, lo0 ((i : Int) + 5), [], m2)) : TL t (646, lo0 (i : Int), [], m) := by
  refine hL.2.2.2 _ _ _ _ _ (fun hs => ?_)
  refine hL.1 30 t _ (And.intro (zaix hs.1 hi hL2 (k := 1) (by decide) (by decide)) (And.intro (zaix hs.1 hi hL2 (k := 2) (by decide) (by decide)) ?_))
  show T 399 124 (0, [(0, zr 1), (1, zi (wr (m 0 (wr ((i : Int) + 1)).toNat))), (2, zi (wr (m 0 (wr ((i : Int) + 2)).toNat)))], [], m) (fun r m1 => z_ans 124 r → TL t (662, lo0 (i : Int), r.toList ++ [], m1))
  refine w_go hT (wrB _) (wrB _) 395 m sc hI _ ?_
  intro r m1 h ha
  obtain ⟨v, rfl, hv⟩ := z_ansE (k := 124) (by decide +kernel) ha
  refine hL.2.2.2 _ _ _ _ _ (fun hs1 => ?_)
  rw [← zaval hs hs1 hi hL2 (k := 1) (by decide) (by decide)] at h
  rw [← zaval hs hs1 hi hL2 (k := 2) (by decide) (by decide)] at h
  refine hL.1 30 t _ (And.intro (zaix hs1.1 hi hL2 (k := 1) (by decide) (by decide)) (And.intro (zaix hs1.1 hi hL2 (k := 2) (by decide) (by decide)) ?_))
  show T 399 232 (0, [(0, zr 74), (1, zi (wr (m1 0 (wr ((i : Int) + 1)).toNat))), (2, zi (wr (m1 0 (wr ((i : Int) + 2)).toNat)))], [], m1) (fun r m2 => z_ans 232 r → TL t (679, lo0 (i : Int), r.toList ++ [], m2))
  refine h 396 _ ?_
  intro r2 m2 hsame hI2 ha2
  obtain ⟨v2, rfl, hv2⟩ := z_ansE (k := 232) (by decide +kernel) ha2
  exact hL.1 4 t _ (hL.2.2.1 t _ ht (hN m2 (Inv_up (by omega) hI2)))
theorem zarm_683 (hT : zRules T) (hL : zLRules T TL L xs) (hL2 : L ≤ 2560) {t i : Nat} {m : zM} (hi : (i : Int) + 5 ≤ L) (ht : t + 1 ≤ 520) (hB4 : B + 270 ≤ 400000) (hI : ∃ n k, Inv B sc n k m) (hN : ∀ m2, (∃ n k, Inv (B + 270) sc n k m2) → TL (t + 1) (23, lo0 ((i : Int) + 5), [], m2)) : TL t (683, lo0 (i : Int), [], m) := by
  refine hL.2.2.2 _ _ _ _ _ (fun hs => ?_)
  refine hL.1 30 t _ (And.intro (zaix hs.1 hi hL2 (k := 1) (by decide) (by decide)) (And.intro (zaix hs.1 hi hL2 (k := 2) (by decide) (by decide)) ?_))
  show T 399 125 (0, [(0, zr 1), (1, zi (wr (m 0 (wr ((i : Int) + 1)).toNat))), (2, zi (wr (m 0 (wr ((i : Int) + 2)).toNat)))], [], m) (fun r m1 => z_ans 125 r → TL t (699, lo0 (i : Int), r.toList ++ [], m1))
  refine w_make hT (wrB _) (wrB _) 395 m sc hI _ ?_
  intro r m1 h ha
  obtain ⟨v, rfl, hv⟩ := z_ansE (k := 125) (by decide +kernel) ha
  refine hL.2.2.2 _ _ _ _ _ (fun hs1 => ?_)
  rw [← zaval hs hs1 hi hL2 (k := 1) (by decide) (by decide)] at h
  rw [← zaval hs hs1 hi hL2 (k := 2) (by decide) (by decide)] at h
  refine hL.1 30 t _ (And.intro (zaix hs1.1 hi hL2 (k := 1) (by decide) (by decide)) (And.intro (zaix hs1.1 hi hL2 (k := 2) (by decide) (by decide)) ?_))
  show T 399 234 (0, [(0, zr 74), (1, zi (wr (m1 0 (wr ((i : Int) + 1)).toNat))), (2, zi (wr (m1 0 (wr ((i : Int) + 2)).toNat)))], [], m1) (fun r m2 => z_ans 234 r → TL t (716, lo0 (i : Int), r.toList ++ [], m2))
  refine h 396 _ ?_
  intro r2 m2 hsame hI2 ha2
  obtain ⟨v2, rfl, hv2⟩ := z_ansE (k := 234) (by decide +kernel) ha2
  exact hL.1 4 t _ (hL.2.2.1 t _ ht (hN m2 (Inv_up (by omega) hI2)))
theorem zarm_720 (hT : zRules T) (hL : zLRules T TL L xs) (hL2 : L ≤ 2560) {t i : Nat} {m : zM} (hi : (i : Int) + 5 ≤ L) (ht : t + 1 ≤ 520) (hB4 : B + 270 ≤ 400000) (hI : ∃ n k, Inv B sc n k m) (hN : ∀ m2, (∃ n k, Inv (B + 270) sc n k m2) → TL (t + 1) (23, lo0 ((i : Int) + 5), [], m2)) : TL t (720, lo0 (i : Int), [], m) := by
  refine hL.2.2.2 _ _ _ _ _ (fun hs => ?_)
  refine hL.1 30 t _ ?_
  show T 399 126 (0, [(0, zr 1)], [], m) (fun r m1 => z_ans 126 r → TL t (724, lo0 (i : Int), r.toList ++ [], m1))
  refine w_week hT (by omega)  392 m sc hI _ ?_
  intro r m1 h ha
  obtain ⟨v, rfl, hv⟩ := z_ansE (k := 126) (by decide +kernel) ha
  refine hL.2.2.2 _ _ _ _ _ (fun hs1 => ?_)
  refine hL.1 30 t _ ?_
  show T 399 236 (0, [(0, zr 74)], [], m1) (fun r m2 => z_ans 236 r → TL t (729, lo0 (i : Int), r.toList ++ [], m2))
  refine h 226 _ ?_
  intro r2 m2 hsame hI2 ha2
  obtain ⟨v2, rfl, hv2⟩ := z_ansE (k := 236) (by decide +kernel) ha2
  exact hL.1 4 t _ (hL.2.2.1 t _ ht (hN m2 (Inv_up (by omega) hI2)))
theorem zarm_733 (hT : zRules T) (hL : zLRules T TL L xs) (hL2 : L ≤ 2560) {t i : Nat} {m : zM} (hi : (i : Int) + 5 ≤ L) (ht : t + 1 ≤ 520) (hB4 : B + 270 ≤ 400000) (hI : ∃ n k, Inv B sc n k m) (hN : ∀ m2, (∃ n k, Inv (B + 270) sc n k m2) → TL (t + 1) (23, lo0 ((i : Int) + 5), [], m2)) : TL t (733, lo0 (i : Int), [], m) := by
  refine hL.2.2.2 _ _ _ _ _ (fun hs => ?_)
  refine hL.1 30 t _ (And.intro (zaix hs.1 hi hL2 (k := 1) (by decide) (by decide)) ?_)
  show T 399 127 (0, [(0, zr 1), (1, zi (wr (m 0 (wr ((i : Int) + 1)).toNat)))], [], m) (fun r m1 => z_ans 127 r → TL t (743, lo0 (i : Int), r.toList ++ [], m1))
  refine w_weeks hT (by omega) (wrB _) 392 m sc hI _ ?_
  intro r m1 h ha
  obtain ⟨v, rfl, hv⟩ := z_ansE (k := 127) (by decide +kernel) ha
  refine hL.2.2.2 _ _ _ _ _ (fun hs1 => ?_)
  rw [← zaval hs hs1 hi hL2 (k := 1) (by decide) (by decide)] at h
  refine hL.1 30 t _ (And.intro (zaix hs1.1 hi hL2 (k := 1) (by decide) (by decide)) ?_)
  show T 399 237 (0, [(0, zr 74), (1, zi (wr (m1 0 (wr ((i : Int) + 1)).toNat)))], [], m1) (fun r m2 => z_ans 237 r → TL t (754, lo0 (i : Int), r.toList ++ [], m2))
  refine h 227 _ ?_
  intro r2 m2 hsame hI2 ha2
  obtain ⟨v2, rfl, hv2⟩ := z_ansE (k := 237) (by decide +kernel) ha2
  exact hL.1 4 t _ (hL.2.2.1 t _ ht (hN m2 (Inv_up (by omega) hI2)))
theorem zarm_758 (hT : zRules T) (hL : zLRules T TL L xs) (hL2 : L ≤ 2560) {t i : Nat} {m : zM} (hi : (i : Int) + 5 ≤ L) (ht : t + 1 ≤ 520) (hB4 : B + 270 ≤ 400000) (hI : ∃ n k, Inv B sc n k m) (hN : ∀ m2, (∃ n k, Inv (B + 270) sc n k m2) → TL (t + 1) (23, lo0 ((i : Int) + 5), [], m2)) : TL t (758, lo0 (i : Int), [], m) := by
  refine hL.2.2.2 _ _ _ _ _ (fun hs => ?_)
  refine hL.1 30 t _ ?_
  show T 399 128 (0, [(0, zr 1)], [], m) (fun r m1 => z_ans 128 r → TL t (762, lo0 (i : Int), r.toList ++ [], m1))
  refine w_year hT (by omega)  392 m sc hI _ ?_
  intro r m1 h ha
  obtain ⟨v, rfl, hv⟩ := z_ansE (k := 128) (by decide +kernel) ha
  refine hL.2.2.2 _ _ _ _ _ (fun hs1 => ?_)
  refine hL.1 30 t _ ?_
  show T 399 238 (0, [(0, zr 74)], [], m1) (fun r m2 => z_ans 238 r → TL t (767, lo0 (i : Int), r.toList ++ [], m2))
  refine h 226 _ ?_
  intro r2 m2 hsame hI2 ha2
  obtain ⟨v2, rfl, hv2⟩ := z_ansE (k := 238) (by decide +kernel) ha2
  exact hL.1 4 t _ (hL.2.2.1 t _ ht (hN m2 (Inv_up (by omega) hI2)))
theorem zarm_771 (hT : zRules T) (hL : zLRules T TL L xs) (hL2 : L ≤ 2560) {t i : Nat} {m : zM} (hi : (i : Int) + 5 ≤ L) (ht : t + 1 ≤ 520) (hB4 : B + 270 ≤ 400000) (hI : ∃ n k, Inv B sc n k m) (hN : ∀ m2, (∃ n k, Inv (B + 270) sc n k m2) → TL (t + 1) (23, lo0 ((i : Int) + 5), [], m2)) : TL t (771, lo0 (i : Int), [], m) := by
  refine hL.2.2.2 _ _ _ _ _ (fun hs => ?_)
  refine hL.1 30 t _ ?_
  show T 399 129 (0, [(0, zr 1)], [], m) (fun r m1 => z_ans 129 r → TL t (775, lo0 (i : Int), r.toList ++ [], m1))
  refine w_undo hT  396 m sc hI _ ?_
  intro r m1 h ha
  obtain ⟨v, rfl, hv⟩ := z_ansE (k := 129) (by decide +kernel) ha
  refine hL.2.2.2 _ _ _ _ _ (fun hs1 => ?_)
  refine hL.1 30 t _ ?_
  show T 399 241 (0, [(0, zr 74)], [], m1) (fun r m2 => z_ans 241 r → TL t (780, lo0 (i : Int), r.toList ++ [], m2))
  refine h 398 _ ?_
  intro r2 m2 hsame hI2 ha2
  obtain ⟨v2, rfl, hv2⟩ := z_ansE (k := 241) (by decide +kernel) ha2
  exact hL.1 4 t _ (hL.2.2.1 t _ ht (hN m2 (Inv_up (by omega) hI2)))
theorem zarm_784 (hT : zRules T) (hL : zLRules T TL L xs) (hL2 : L ≤ 2560) {t i : Nat} {m : zM} (hi : (i : Int) + 5 ≤ L) (ht : t + 1 ≤ 520) (hB4 : B + 270 ≤ 400000) (hI : ∃ n k, Inv B sc n k m) (hN : ∀ m2, (∃ n k, Inv (B + 270) sc n k m2) → TL (t + 1) (23, lo0 ((i : Int) + 5), [], m2)) : TL t (784, lo0 (i : Int), [], m) := by
  refine hL.2.2.2 _ _ _ _ _ (fun hs => ?_)
  refine hL.1 30 t _ (And.intro (zaix hs.1 hi hL2 (k := 1) (by decide) (by decide)) (And.intro ht ?_))
  show zLHlp T TL t 300 [zr 1, zi (m 0 (wr ((i : Int) + 1)).toNat), zr 109] (795, lo0 (i : Int), [], m)
  refine Or.inr ⟨_, rfl, Or.inl ⟨rfl, ?_⟩⟩
  refine (n_piece (B := B) hT (wrB _)).1 396 m sc hI _ ?_
  intro r m1 hr hI1
  have nxt : ∀ (kk : Int) (mm : zM), (∃ n k, Inv B sc n k mm) → TL (t + 1) (795, lo0 (i : Int), [zi kk], mm) := fun kk mm hIm => by
    refine hL.2.2.2 _ _ _ _ _ (fun hs1 => ?_)
    refine hL.1 30 (t + 1) _ (And.intro (zaix hs1.1 hi hL2 (k := 1) (by decide) (by decide)) ?_)
    show T 399 242 (0, [(0, zr 74), (1, zi (wr (mm 0 (wr ((i : Int) + 1)).toNat)))], [], mm) (fun r m1 => z_ans 242 r → TL (t + 1) (807, z_lset (lo0 (i : Int)) 5 (zi kk), r.toList ++ [], m1))
    refine (n_piece (B := B) hT (wrB _)).2 397 mm sc hIm _ ?_
    intro r2 m2 hI2 ha2
    obtain ⟨v2, rfl, hv2⟩ := z_ansE (k := 242) (by decide +kernel) ha2
    exact hL.1 4 (t + 1) _ (hL.2.1 [0, 1, 2, 3, 4] _ _ _ _ _ (hN m2 (Inv_up (by omega) hI2)))
  exact ⟨fun _ => nxt 1 m1 hI1, fun v _ _ => nxt 0 _ (Inv_109 hI1)⟩
theorem zarm_812 (hT : zRules T) (hL : zLRules T TL L xs) (hL2 : L ≤ 2560) {t i : Nat} {m : zM} (hi : (i : Int) + 5 ≤ L) (ht : t + 1 ≤ 520) (hB4 : B + 270 ≤ 400000) (hI : ∃ n k, Inv B sc n k m) (hN : ∀ m2, (∃ n k, Inv (B + 270) sc n k m2) → TL (t + 1) (23, lo0 ((i : Int) + 5), [], m2)) : TL t (812, lo0 (i : Int), [], m) := by
  refine hL.2.2.2 _ _ _ _ _ (fun hs => ?_)
  refine hL.1 30 t _ (And.intro (zaix hs.1 hi hL2 (k := 1) (by decide) (by decide)) (And.intro (zaix hs.1 hi hL2 (k := 2) (by decide) (by decide)) ?_))
  show T 399 131 (0, [(0, zr 1), (1, zi (wr (m 0 (wr ((i : Int) + 1)).toNat))), (2, zi (wr (m 0 (wr ((i : Int) + 2)).toNat)))], [], m) (fun r m1 => z_ans 131 r → TL t (828, lo0 (i : Int), r.toList ++ [], m1))
  refine w_sell hT (wrB _) (wrB _) 395 m sc hI _ ?_
  intro r m1 h ha
  obtain ⟨v, rfl, hv⟩ := z_ansE (k := 131) (by decide +kernel) ha
  refine hL.2.2.2 _ _ _ _ _ (fun hs1 => ?_)
  rw [← zaval hs hs1 hi hL2 (k := 1) (by decide) (by decide)] at h
  rw [← zaval hs hs1 hi hL2 (k := 2) (by decide) (by decide)] at h
  refine hL.1 30 t _ (And.intro (zaix hs1.1 hi hL2 (k := 1) (by decide) (by decide)) (And.intro (zaix hs1.1 hi hL2 (k := 2) (by decide) (by decide)) ?_))
  show T 399 244 (0, [(0, zr 74), (1, zi (wr (m1 0 (wr ((i : Int) + 1)).toNat))), (2, zi (wr (m1 0 (wr ((i : Int) + 2)).toNat)))], [], m1) (fun r m2 => z_ans 244 r → TL t (845, lo0 (i : Int), r.toList ++ [], m2))
  refine h 396 _ ?_
  intro r2 m2 hsame hI2 ha2
  obtain ⟨v2, rfl, hv2⟩ := z_ansE (k := 244) (by decide +kernel) ha2
  exact hL.1 4 t _ (hL.2.2.1 t _ ht (hN m2 (Inv_up (by omega) hI2)))
theorem zarm_849 (hT : zRules T) (hL : zLRules T TL L xs) (hL2 : L ≤ 2560) {t i : Nat} {m : zM} (hi : (i : Int) + 5 ≤ L) (ht : t + 1 ≤ 520) (hB4 : B + 270 ≤ 400000) (hI : ∃ n k, Inv B sc n k m) (hN : ∀ m2, (∃ n k, Inv (B + 270) sc n k m2) → TL (t + 1) (23, lo0 ((i : Int) + 5), [], m2)) : TL t (849, lo0 (i : Int), [], m) := by
  refine hL.2.2.2 _ _ _ _ _ (fun hs => ?_)
  refine hL.1 30 t _ (And.intro (zaix hs.1 hi hL2 (k := 1) (by decide) (by decide)) ?_)
  show T 399 132 (0, [(0, zr 1), (1, zi (wr (m 0 (wr ((i : Int) + 1)).toNat)))], [], m) (fun r m1 => z_ans 132 r → TL t (859, lo0 (i : Int), r.toList ++ [], m1))
  refine w_patches hT (wrB _) 394 m sc hI _ ?_
  intro r m1 h ha
  obtain ⟨v, rfl, hv⟩ := z_ansE (k := 132) (by decide +kernel) ha
  refine hL.2.2.2 _ _ _ _ _ (fun hs1 => ?_)
  rw [← zaval hs hs1 hi hL2 (k := 1) (by decide) (by decide)] at h
  refine hL.1 30 t _ (And.intro (zaix hs1.1 hi hL2 (k := 1) (by decide) (by decide)) ?_)
  show T 399 247 (0, [(0, zr 74), (1, zi (wr (m1 0 (wr ((i : Int) + 1)).toNat)))], [], m1) (fun r m2 => z_ans 247 r → TL t (870, lo0 (i : Int), r.toList ++ [], m2))
  refine h 395 _ ?_
  intro r2 m2 hsame hI2 ha2
  obtain ⟨v2, rfl, hv2⟩ := z_ansE (k := 247) (by decide +kernel) ha2
  exact hL.1 4 t _ (hL.2.2.1 t _ ht (hN m2 (Inv_up (by omega) hI2)))
theorem zarm_874 (hT : zRules T) (hL : zLRules T TL L xs) (hL2 : L ≤ 2560) {t i : Nat} {m : zM} (hi : (i : Int) + 5 ≤ L) (ht : t + 1 ≤ 520) (hB4 : B + 270 ≤ 400000) (hI : ∃ n k, Inv B sc n k m) (hN : ∀ m2, (∃ n k, Inv (B + 270) sc n k m2) → TL (t + 1) (23, lo0 ((i : Int) + 5), [], m2)) : TL t (874, lo0 (i : Int), [], m) := by
  refine hL.2.2.2 _ _ _ _ _ (fun hs => ?_)
  refine hL.1 30 t _ (And.intro (zaix hs.1 hi hL2 (k := 1) (by decide) (by decide)) ?_)
  show T 399 133 (0, [(0, zr 1), (1, zi (wr (m 0 (wr ((i : Int) + 1)).toNat)))], [], m) (fun r m1 => z_ans 133 r → TL t (884, lo0 (i : Int), r.toList ++ [], m1))
  refine w_quilt hT (wrB _) 394 m sc hI _ ?_
  intro r m1 h ha
  obtain ⟨v, rfl, hv⟩ := z_ansE (k := 133) (by decide +kernel) ha
  refine hL.2.2.2 _ _ _ _ _ (fun hs1 => ?_)
  rw [← zaval hs hs1 hi hL2 (k := 1) (by decide) (by decide)] at h
  refine hL.1 30 t _ (And.intro (zaix hs1.1 hi hL2 (k := 1) (by decide) (by decide)) ?_)
  show T 399 248 (0, [(0, zr 74), (1, zi (wr (m1 0 (wr ((i : Int) + 1)).toNat)))], [], m1) (fun r m2 => z_ans 248 r → TL t (895, lo0 (i : Int), r.toList ++ [], m2))
  refine h 395 _ ?_
  intro r2 m2 hsame hI2 ha2
  obtain ⟨v2, rfl, hv2⟩ := z_ansE (k := 248) (by decide +kernel) ha2
  exact hL.1 4 t _ (hL.2.2.1 t _ ht (hN m2 (Inv_up (by omega) hI2)))
theorem zarm_899 (hT : zRules T) (hL : zLRules T TL L xs) (hL2 : L ≤ 2560) {t i : Nat} {m : zM} (hi : (i : Int) + 5 ≤ L) (ht : t + 1 ≤ 520) (hB4 : B + 270 ≤ 400000) (hI : ∃ n k, Inv B sc n k m) (hN : ∀ m2, (∃ n k, Inv (B + 270) sc n k m2) → TL (t + 1) (23, lo0 ((i : Int) + 5), [], m2)) : TL t (899, lo0 (i : Int), [], m) := by
  refine hL.2.2.2 _ _ _ _ _ (fun hs => ?_)
  refine hL.1 30 t _ (And.intro (zaix hs.1 hi hL2 (k := 1) (by decide) (by decide)) ?_)
  show T 399 134 (0, [(0, zr 1), (1, zi (wr (m 0 (wr ((i : Int) + 1)).toNat)))], [], m) (fun r m1 => z_ans 134 r → TL t (909, lo0 (i : Int), r.toList ++ [], m1))
  refine w_ahead hT (by omega) (wrB _) 393 m sc hI _ ?_
  intro r m1 h ha
  obtain ⟨v, rfl, hv⟩ := z_ansE (k := 134) (by decide +kernel) ha
  refine hL.2.2.2 _ _ _ _ _ (fun hs1 => ?_)
  rw [← zaval hs hs1 hi hL2 (k := 1) (by decide) (by decide)] at h
  refine hL.1 30 t _ (And.intro (zaix hs1.1 hi hL2 (k := 1) (by decide) (by decide)) ?_)
  show T 399 249 (0, [(0, zr 74), (1, zi (wr (m1 0 (wr ((i : Int) + 1)).toNat)))], [], m1) (fun r m2 => z_ans 249 r → TL t (920, lo0 (i : Int), r.toList ++ [], m2))
  refine h 227 _ ?_
  intro r2 m2 hsame hI2 ha2
  obtain ⟨v2, rfl, hv2⟩ := z_ansE (k := 249) (by decide +kernel) ha2
  exact hL.1 4 t _ (hL.2.2.1 t _ ht (hN m2 (Inv_up (by omega) hI2)))
theorem zarm_924 (hT : zRules T) (hL : zLRules T TL L xs) (hL2 : L ≤ 2560) {t i : Nat} {m : zM} (hi : (i : Int) + 5 ≤ L) (ht : t + 1 ≤ 520) (hB4 : B + 270 ≤ 400000) (hI : ∃ n k, Inv B sc n k m) (hN : ∀ m2, (∃ n k, Inv (B + 270) sc n k m2) → TL (t + 1) (23, lo0 ((i : Int) + 5), [], m2)) : TL t (924, lo0 (i : Int), [], m) := by
  refine hL.2.2.2 _ _ _ _ _ (fun hs => ?_)
  refine hL.1 30 t _ (And.intro (zaix hs.1 hi hL2 (k := 1) (by decide) (by decide)) (And.intro (zaix hs.1 hi hL2 (k := 2) (by decide) (by decide)) (And.intro (zaix hs.1 hi hL2 (k := 3) (by decide) (by decide)) ?_)))
  show T 399 135 (0, [(0, zr 1), (1, zi (wr (m 0 (wr ((i : Int) + 1)).toNat))), (2, zi (wr (m 0 (wr ((i : Int) + 2)).toNat))), (3, zi (wr (m 0 (wr ((i : Int) + 3)).toNat)))], [], m) (fun r m1 => z_ans 135 r → TL t (946, lo0 (i : Int), r.toList ++ [], m1))
  refine w_longest hT (wrB _) (wrB _) (wrB _) 393 m sc hI _ ?_
  intro r m1 h ha
  obtain ⟨v, rfl, hv⟩ := z_ansE (k := 135) (by decide +kernel) ha
  refine hL.2.2.2 _ _ _ _ _ (fun hs1 => ?_)
  rw [← zaval hs hs1 hi hL2 (k := 1) (by decide) (by decide)] at h
  rw [← zaval hs hs1 hi hL2 (k := 2) (by decide) (by decide)] at h
  rw [← zaval hs hs1 hi hL2 (k := 3) (by decide) (by decide)] at h
  refine hL.1 30 t _ (And.intro (zaix hs1.1 hi hL2 (k := 1) (by decide) (by decide)) (And.intro (zaix hs1.1 hi hL2 (k := 2) (by decide) (by decide)) (And.intro (zaix hs1.1 hi hL2 (k := 3) (by decide) (by decide)) ?_)))
  show T 399 250 (0, [(0, zr 74), (1, zi (wr (m1 0 (wr ((i : Int) + 1)).toNat))), (2, zi (wr (m1 0 (wr ((i : Int) + 2)).toNat))), (3, zi (wr (m1 0 (wr ((i : Int) + 3)).toNat)))], [], m1) (fun r m2 => z_ans 250 r → TL t (969, lo0 (i : Int), r.toList ++ [], m2))
  refine h 228 _ ?_
  intro r2 m2 hsame hI2 ha2
  obtain ⟨v2, rfl, hv2⟩ := z_ansE (k := 250) (by decide +kernel) ha2
  exact hL.1 4 t _ (hL.2.2.1 t _ ht (hN m2 (Inv_up (by omega) hI2)))
theorem zarm_973 (hT : zRules T) (hL : zLRules T TL L xs) (hL2 : L ≤ 2560) {t i : Nat} {m : zM} (hi : (i : Int) + 5 ≤ L) (ht : t + 1 ≤ 520) (hB4 : B + 270 ≤ 400000) (hI : ∃ n k, Inv B sc n k m) (hN : ∀ m2, (∃ n k, Inv (B + 270) sc n k m2) → TL (t + 1) (23, lo0 ((i : Int) + 5), [], m2)) : TL t (973, lo0 (i : Int), [], m) := by
  refine hL.2.2.2 _ _ _ _ _ (fun hs => ?_)
  refine hL.1 30 t _ (And.intro (zaix hs.1 hi hL2 (k := 1) (by decide) (by decide)) (And.intro (zaix hs.1 hi hL2 (k := 2) (by decide) (by decide)) (And.intro (zaix hs.1 hi hL2 (k := 3) (by decide) (by decide)) ?_)))
  show T 399 136 (0, [(0, zr 1), (1, zi (wr (m 0 (wr ((i : Int) + 1)).toNat))), (2, zi (wr (m 0 (wr ((i : Int) + 2)).toNat))), (3, zi (wr (m 0 (wr ((i : Int) + 3)).toNat)))], [], m) (fun r m1 => z_ans 136 r → TL t (995, lo0 (i : Int), r.toList ++ [], m1))
  refine w_lengths hT (wrB _) (wrB _) (wrB _) 393 m sc hI _ ?_
  intro r m1 h ha
  obtain ⟨v, rfl, hv⟩ := z_ansE (k := 136) (by decide +kernel) ha
  refine hL.2.2.2 _ _ _ _ _ (fun hs1 => ?_)
  rw [← zaval hs hs1 hi hL2 (k := 1) (by decide) (by decide)] at h
  rw [← zaval hs hs1 hi hL2 (k := 2) (by decide) (by decide)] at h
  rw [← zaval hs hs1 hi hL2 (k := 3) (by decide) (by decide)] at h
  refine hL.1 30 t _ (And.intro (zaix hs1.1 hi hL2 (k := 1) (by decide) (by decide)) (And.intro (zaix hs1.1 hi hL2 (k := 2) (by decide) (by decide)) (And.intro (zaix hs1.1 hi hL2 (k := 3) (by decide) (by decide)) ?_)))
  show T 399 251 (0, [(0, zr 74), (1, zi (wr (m1 0 (wr ((i : Int) + 1)).toNat))), (2, zi (wr (m1 0 (wr ((i : Int) + 2)).toNat))), (3, zi (wr (m1 0 (wr ((i : Int) + 3)).toNat)))], [], m1) (fun r m2 => z_ans 251 r → TL t (1018, lo0 (i : Int), r.toList ++ [], m2))
  refine h 228 _ ?_
  intro r2 m2 hsame hI2 ha2
  obtain ⟨v2, rfl, hv2⟩ := z_ansE (k := 251) (by decide +kernel) ha2
  exact hL.1 4 t _ (hL.2.2.1 t _ ht (hN m2 (Inv_up (by omega) hI2)))
theorem zarm_1022 (hT : zRules T) (hL : zLRules T TL L xs) (hL2 : L ≤ 2560) {t i : Nat} {m : zM} (hi : (i : Int) + 5 ≤ L) (ht : t + 1 ≤ 520) (hB4 : B + 270 ≤ 400000) (hI : ∃ n k, Inv B sc n k m) (hN : ∀ m2, (∃ n k, Inv (B + 270) sc n k m2) → TL (t + 1) (23, lo0 ((i : Int) + 5), [], m2)) : TL t (1022, lo0 (i : Int), [], m) := by
  refine hL.2.2.2 _ _ _ _ _ (fun hs => ?_)
  refine hL.1 30 t _ (And.intro (zaix hs.1 hi hL2 (k := 1) (by decide) (by decide)) (And.intro (zaix hs.1 hi hL2 (k := 2) (by decide) (by decide)) (And.intro (zaix hs.1 hi hL2 (k := 3) (by decide) (by decide)) ?_)))
  show T 399 137 (0, [(0, zr 1), (1, zi (wr (m 0 (wr ((i : Int) + 1)).toNat))), (2, zi (wr (m 0 (wr ((i : Int) + 2)).toNat))), (3, zi (wr (m 0 (wr ((i : Int) + 3)).toNat)))], [], m) (fun r m1 => z_ans 137 r → TL t (1044, lo0 (i : Int), r.toList ++ [], m1))
  refine w_serves hT (wrB _) (wrB _) (wrB _) 393 m sc hI _ ?_
  intro r m1 h ha
  obtain ⟨v, rfl, hv⟩ := z_ansE (k := 137) (by decide +kernel) ha
  refine hL.2.2.2 _ _ _ _ _ (fun hs1 => ?_)
  rw [← zaval hs hs1 hi hL2 (k := 1) (by decide) (by decide)] at h
  rw [← zaval hs hs1 hi hL2 (k := 2) (by decide) (by decide)] at h
  rw [← zaval hs hs1 hi hL2 (k := 3) (by decide) (by decide)] at h
  refine hL.1 30 t _ (And.intro (zaix hs1.1 hi hL2 (k := 1) (by decide) (by decide)) (And.intro (zaix hs1.1 hi hL2 (k := 2) (by decide) (by decide)) (And.intro (zaix hs1.1 hi hL2 (k := 3) (by decide) (by decide)) ?_)))
  show T 399 253 (0, [(0, zr 74), (1, zi (wr (m1 0 (wr ((i : Int) + 1)).toNat))), (2, zi (wr (m1 0 (wr ((i : Int) + 2)).toNat))), (3, zi (wr (m1 0 (wr ((i : Int) + 3)).toNat)))], [], m1) (fun r m2 => z_ans 253 r → TL t (1067, lo0 (i : Int), r.toList ++ [], m2))
  refine h 227 _ ?_
  intro r2 m2 hsame hI2 ha2
  obtain ⟨v2, rfl, hv2⟩ := z_ansE (k := 253) (by decide +kernel) ha2
  exact hL.1 4 t _ (hL.2.2.1 t _ ht (hN m2 (Inv_up (by omega) hI2)))
theorem zarm_1071 (hT : zRules T) (hL : zLRules T TL L xs) (hL2 : L ≤ 2560) {t i : Nat} {m : zM} (hi : (i : Int) + 5 ≤ L) (ht : t + 1 ≤ 520) (hB4 : B + 270 ≤ 400000) (hI : ∃ n k, Inv B sc n k m) (hN : ∀ m2, (∃ n k, Inv (B + 270) sc n k m2) → TL (t + 1) (23, lo0 ((i : Int) + 5), [], m2)) : TL t (1071, lo0 (i : Int), [], m) := by
  refine hL.2.2.2 _ _ _ _ _ (fun hs => ?_)
  refine hL.1 30 t _ (And.intro (zaix hs.1 hi hL2 (k := 1) (by decide) (by decide)) (And.intro (zaix hs.1 hi hL2 (k := 2) (by decide) (by decide)) ?_))
  show T 399 138 (0, [(0, zr 1), (1, zi (wr (m 0 (wr ((i : Int) + 1)).toNat))), (2, zi (wr (m 0 (wr ((i : Int) + 2)).toNat)))], [], m) (fun r m1 => z_ans 138 r → TL t (1087, lo0 (i : Int), r.toList ++ [], m1))
  refine w_best hT (wrB _) (wrB _) 393 m sc hI _ ?_
  intro r m1 h ha
  obtain ⟨v, rfl, hv⟩ := z_ansE (k := 138) (by decide +kernel) ha
  refine hL.2.2.2 _ _ _ _ _ (fun hs1 => ?_)
  rw [← zaval hs hs1 hi hL2 (k := 1) (by decide) (by decide)] at h
  rw [← zaval hs hs1 hi hL2 (k := 2) (by decide) (by decide)] at h
  refine hL.1 30 t _ (And.intro (zaix hs1.1 hi hL2 (k := 1) (by decide) (by decide)) (And.intro (zaix hs1.1 hi hL2 (k := 2) (by decide) (by decide)) ?_))
  show T 399 254 (0, [(0, zr 74), (1, zi (wr (m1 0 (wr ((i : Int) + 1)).toNat))), (2, zi (wr (m1 0 (wr ((i : Int) + 2)).toNat)))], [], m1) (fun r m2 => z_ans 254 r → TL t (1104, lo0 (i : Int), r.toList ++ [], m2))
  refine h 227 _ ?_
  intro r2 m2 hsame hI2 ha2
  obtain ⟨v2, rfl, hv2⟩ := z_ansE (k := 254) (by decide +kernel) ha2
  exact hL.1 4 t _ (hL.2.2.1 t _ ht (hN m2 (Inv_up (by omega) hI2)))
theorem zarm_1108 (hT : zRules T) (hL : zLRules T TL L xs) (hL2 : L ≤ 2560) {t i : Nat} {m : zM} (hi : (i : Int) + 5 ≤ L) (ht : t + 1 ≤ 520) (hB4 : B + 270 ≤ 400000) (hI : ∃ n k, Inv B sc n k m) (hN : ∀ m2, (∃ n k, Inv (B + 270) sc n k m2) → TL (t + 1) (23, lo0 ((i : Int) + 5), [], m2)) : TL t (1108, lo0 (i : Int), [], m) := by
  refine hL.2.2.2 _ _ _ _ _ (fun hs => ?_)
  refine hL.1 30 t _ (And.intro (zaix hs.1 hi hL2 (k := 1) (by decide) (by decide)) ?_)
  show T 399 139 (0, [(0, zr 1), (1, zi (wr (m 0 (wr ((i : Int) + 1)).toNat)))], [], m) (fun r m1 => z_ans 139 r → TL t (1118, lo0 (i : Int), r.toList ++ [], m1))
  refine w_same hT (wrB _) 394 m sc hI _ ?_
  intro r m1 h ha
  obtain ⟨v, rfl, hv⟩ := z_ansE (k := 139) (by decide +kernel) ha
  refine hL.2.2.2 _ _ _ _ _ (fun hs1 => ?_)
  rw [← zaval hs hs1 hi hL2 (k := 1) (by decide) (by decide)] at h
  refine hL.1 30 t _ (And.intro (zaix hs1.1 hi hL2 (k := 1) (by decide) (by decide)) ?_)
  show T 399 255 (0, [(0, zr 74), (1, zi (wr (m1 0 (wr ((i : Int) + 1)).toNat)))], [], m1) (fun r m2 => z_ans 255 r → TL t (1129, lo0 (i : Int), r.toList ++ [], m2))
  refine h 227 _ ?_
  intro r2 m2 hsame hI2 ha2
  obtain ⟨v2, rfl, hv2⟩ := z_ansE (k := 255) (by decide +kernel) ha2
  exact hL.1 4 t _ (hL.2.2.1 t _ ht (hN m2 (Inv_up (by omega) hI2)))
theorem zarm_1133 (hT : zRules T) (hL : zLRules T TL L xs) (hL2 : L ≤ 2560) {t i : Nat} {m : zM} (hi : (i : Int) + 5 ≤ L) (ht : t + 1 ≤ 520) (hB4 : B + 270 ≤ 400000) (hI : ∃ n k, Inv B sc n k m) (hN : ∀ m2, (∃ n k, Inv (B + 270) sc n k m2) → TL (t + 1) (23, lo0 ((i : Int) + 5), [], m2)) : TL t (1133, lo0 (i : Int), [], m) := by
  refine hL.2.2.2 _ _ _ _ _ (fun hs => ?_)
  refine hL.1 30 t _ (And.intro (zaix hs.1 hi hL2 (k := 1) (by decide) (by decide)) (And.intro (zaix hs.1 hi hL2 (k := 2) (by decide) (by decide)) ?_))
  show T 399 140 (0, [(0, zr 1), (1, zi (wr (m 0 (wr ((i : Int) + 1)).toNat))), (2, zi (wr (m 0 (wr ((i : Int) + 2)).toNat)))], [], m) (fun r m1 => z_ans 140 r → TL t (1149, lo0 (i : Int), r.toList ++ [], m1))
  refine w_plan hT (wrB _) (wrB _) 392 m sc hI _ ?_
  intro r m1 h ha
  obtain ⟨v, rfl, hv⟩ := z_ansE (k := 140) (by decide +kernel) ha
  refine hL.2.2.2 _ _ _ _ _ (fun hs1 => ?_)
  rw [← zaval hs hs1 hi hL2 (k := 1) (by decide) (by decide)] at h
  rw [← zaval hs hs1 hi hL2 (k := 2) (by decide) (by decide)] at h
  refine hL.1 30 t _ (And.intro (zaix hs1.1 hi hL2 (k := 1) (by decide) (by decide)) (And.intro (zaix hs1.1 hi hL2 (k := 2) (by decide) (by decide)) ?_))
  show T 399 258 (0, [(0, zr 74), (1, zi (wr (m1 0 (wr ((i : Int) + 1)).toNat))), (2, zi (wr (m1 0 (wr ((i : Int) + 2)).toNat)))], [], m1) (fun r m2 => z_ans 258 r → TL t (1166, lo0 (i : Int), r.toList ++ [], m2))
  refine h 226 _ ?_
  intro r2 m2 hsame hI2 ha2
  obtain ⟨v2, rfl, hv2⟩ := z_ansE (k := 258) (by decide +kernel) ha2
  exact hL.1 4 t _ (hL.2.2.1 t _ ht (hN m2 (Inv_up (by omega) hI2)))
theorem zarm_1170 (hT : zRules T) (hL : zLRules T TL L xs) (hL2 : L ≤ 2560) {t i : Nat} {m : zM} (hi : (i : Int) + 5 ≤ L) (ht : t + 1 ≤ 520) (hB4 : B + 270 ≤ 400000) (hI : ∃ n k, Inv B sc n k m) (hN : ∀ m2, (∃ n k, Inv (B + 270) sc n k m2) → TL (t + 1) (23, lo0 ((i : Int) + 5), [], m2)) : TL t (1170, lo0 (i : Int), [], m) := by
  refine hL.2.2.2 _ _ _ _ _ (fun hs => ?_)
  refine hL.1 30 t _ (And.intro (zaix hs.1 hi hL2 (k := 1) (by decide) (by decide)) (And.intro (zaix hs.1 hi hL2 (k := 2) (by decide) (by decide)) (And.intro (zaix hs.1 hi hL2 (k := 3) (by decide) (by decide)) ?_)))
  show T 399 141 (0, [(0, zr 1), (1, zi (wr (m 0 (wr ((i : Int) + 1)).toNat))), (2, zi (wr (m 0 (wr ((i : Int) + 2)).toNat))), (3, zi (wr (m 0 (wr ((i : Int) + 3)).toNat)))], [], m) (fun r m1 => z_ans 141 r → TL t (1192, lo0 (i : Int), r.toList ++ [], m1))
  refine w_plain hT (wrB _) (wrB _) (wrB _) 393 m sc hI _ ?_
  intro r m1 h ha
  obtain ⟨v, rfl, hv⟩ := z_ansE (k := 141) (by decide +kernel) ha
  refine hL.2.2.2 _ _ _ _ _ (fun hs1 => ?_)
  rw [← zaval hs hs1 hi hL2 (k := 1) (by decide) (by decide)] at h
  rw [← zaval hs hs1 hi hL2 (k := 2) (by decide) (by decide)] at h
  rw [← zaval hs hs1 hi hL2 (k := 3) (by decide) (by decide)] at h
  refine hL.1 30 t _ (And.intro (zaix hs1.1 hi hL2 (k := 1) (by decide) (by decide)) (And.intro (zaix hs1.1 hi hL2 (k := 2) (by decide) (by decide)) (And.intro (zaix hs1.1 hi hL2 (k := 3) (by decide) (by decide)) ?_)))
  show T 399 259 (0, [(0, zr 74), (1, zi (wr (m1 0 (wr ((i : Int) + 1)).toNat))), (2, zi (wr (m1 0 (wr ((i : Int) + 2)).toNat))), (3, zi (wr (m1 0 (wr ((i : Int) + 3)).toNat)))], [], m1) (fun r m2 => z_ans 259 r → TL t (1215, lo0 (i : Int), r.toList ++ [], m2))
  refine h 227 _ ?_
  intro r2 m2 hsame hI2 ha2
  obtain ⟨v2, rfl, hv2⟩ := z_ansE (k := 259) (by decide +kernel) ha2
  exact hL.1 4 t _ (hL.2.2.1 t _ ht (hN m2 (Inv_up (by omega) hI2)))
theorem zarm_1219 (hT : zRules T) (hL : zLRules T TL L xs) (hL2 : L ≤ 2560) {t i : Nat} {m : zM} (hi : (i : Int) + 5 ≤ L) (ht : t + 1 ≤ 520) (hB4 : B + 270 ≤ 400000) (hI : ∃ n k, Inv B sc n k m) (hN : ∀ m2, (∃ n k, Inv (B + 270) sc n k m2) → TL (t + 1) (23, lo0 ((i : Int) + 5), [], m2)) : TL t (1219, lo0 (i : Int), [], m) := by
  refine hL.2.2.2 _ _ _ _ _ (fun hs => ?_)
  refine hL.1 30 t _ ?_
  show T 399 142 (0, [(0, zr 1)], [], m) (fun r m1 => z_ans 142 r → TL t (1223, lo0 (i : Int), r.toList ++ [], m1))
  refine w_idle hT  397 m sc hI _ ?_
  intro r m1 h ha
  obtain ⟨v, rfl, hv⟩ := z_ansE (k := 142) (by decide +kernel) ha
  refine hL.2.2.2 _ _ _ _ _ (fun hs1 => ?_)
  refine hL.1 30 t _ ?_
  show T 399 260 (0, [(0, zr 74)], [], m1) (fun r m2 => z_ans 260 r → TL t (1228, lo0 (i : Int), r.toList ++ [], m2))
  refine h 396 _ ?_
  intro r2 m2 hsame hI2 ha2
  obtain ⟨v2, rfl, hv2⟩ := z_ansE (k := 260) (by decide +kernel) ha2
  exact hL.1 4 t _ (hL.2.2.1 t _ ht (hN m2 (Inv_up (by omega) hI2)))
theorem zarm_1232 (hT : zRules T) (hL : zLRules T TL L xs) (hL2 : L ≤ 2560) {t i : Nat} {m : zM} (hi : (i : Int) + 5 ≤ L) (ht : t + 1 ≤ 520) (hB4 : B + 270 ≤ 400000) (hI : ∃ n k, Inv B sc n k m) (hN : ∀ m2, (∃ n k, Inv (B + 270) sc n k m2) → TL (t + 1) (23, lo0 ((i : Int) + 5), [], m2)) : TL t (1232, lo0 (i : Int), [], m) := by
  refine hL.2.2.2 _ _ _ _ _ (fun hs => ?_)
  refine hL.1 30 t _ (And.intro (zaix hs.1 hi hL2 (k := 1) (by decide) (by decide)) ?_)
  show T 399 143 (0, [(0, zr 1), (1, zi (wr (m 0 (wr ((i : Int) + 1)).toNat)))], [], m) (fun r m1 => z_ans 143 r → TL t (1242, lo0 (i : Int), r.toList ++ [], m1))
  refine w_nearest hT (wrB _) 394 m sc hI _ ?_
  intro r m1 h ha
  obtain ⟨v, rfl, hv⟩ := z_ansE (k := 143) (by decide +kernel) ha
  refine hL.2.2.2 _ _ _ _ _ (fun hs1 => ?_)
  rw [← zaval hs hs1 hi hL2 (k := 1) (by decide) (by decide)] at h
  refine hL.1 30 t _ (And.intro (zaix hs1.1 hi hL2 (k := 1) (by decide) (by decide)) ?_)
  show T 399 262 (0, [(0, zr 74), (1, zi (wr (m1 0 (wr ((i : Int) + 1)).toNat)))], [], m1) (fun r m2 => z_ans 262 r → TL t (1253, lo0 (i : Int), r.toList ++ [], m2))
  refine h 226 _ ?_
  intro r2 m2 hsame hI2 ha2
  obtain ⟨v2, rfl, hv2⟩ := z_ansE (k := 262) (by decide +kernel) ha2
  exact hL.1 4 t _ (hL.2.2.1 t _ ht (hN m2 (Inv_up (by omega) hI2)))
theorem zarm_1257 (hT : zRules T) (hL : zLRules T TL L xs) (hL2 : L ≤ 2560) {t i : Nat} {m : zM} (hi : (i : Int) + 5 ≤ L) (ht : t + 1 ≤ 520) (hB4 : B + 270 ≤ 400000) (hI : ∃ n k, Inv B sc n k m) (hN : ∀ m2, (∃ n k, Inv (B + 270) sc n k m2) → TL (t + 1) (23, lo0 ((i : Int) + 5), [], m2)) : TL t (1257, lo0 (i : Int), [], m) := by
  refine hL.2.2.2 _ _ _ _ _ (fun hs => ?_)
  refine hL.1 30 t _ (And.intro (zaix hs.1 hi hL2 (k := 1) (by decide) (by decide)) ?_)
  show T 399 144 (0, [(0, zr 1), (1, zi (wr (m 0 (wr ((i : Int) + 1)).toNat)))], [], m) (fun r m1 => z_ans 144 r → TL t (1267, lo0 (i : Int), r.toList ++ [], m1))
  refine w_dress hT (wrB _) 392 m sc hI _ ?_
  intro r m1 h ha
  obtain ⟨v, rfl, hv⟩ := z_ansE (k := 144) (by decide +kernel) ha
  refine hL.2.2.2 _ _ _ _ _ (fun hs1 => ?_)
  rw [← zaval hs hs1 hi hL2 (k := 1) (by decide) (by decide)] at h
  refine hL.1 30 t _ (And.intro (zaix hs1.1 hi hL2 (k := 1) (by decide) (by decide)) ?_)
  show T 399 264 (0, [(0, zr 74), (1, zi (wr (m1 0 (wr ((i : Int) + 1)).toNat)))], [], m1) (fun r m2 => z_ans 264 r → TL t (1278, lo0 (i : Int), r.toList ++ [], m2))
  refine h 226 _ ?_
  intro r2 m2 hsame hI2 ha2
  obtain ⟨v2, rfl, hv2⟩ := z_ansE (k := 264) (by decide +kernel) ha2
  exact hL.1 4 t _ (hL.2.2.1 t _ ht (hN m2 (Inv_up (by omega) hI2)))
theorem zarm_1282 (hT : zRules T) (hL : zLRules T TL L xs) (hL2 : L ≤ 2560) {t i : Nat} {m : zM} (hi : (i : Int) + 5 ≤ L) (ht : t + 1 ≤ 520) (hB4 : B + 270 ≤ 400000) (hI : ∃ n k, Inv B sc n k m) (hN : ∀ m2, (∃ n k, Inv (B + 270) sc n k m2) → TL (t + 1) (23, lo0 ((i : Int) + 5), [], m2)) : TL t (1282, lo0 (i : Int), [], m) := by
  refine hL.2.2.2 _ _ _ _ _ (fun hs => ?_)
  refine hL.1 30 t _ ?_
  show T 399 145 (0, [(0, zr 1)], [], m) (fun r m1 => z_ans 145 r → TL t (1286, lo0 (i : Int), r.toList ++ [], m1))
  refine w_ready hT  394 m sc hI _ ?_
  intro r m1 h ha
  obtain ⟨v, rfl, hv⟩ := z_ansE (k := 145) (by decide +kernel) ha
  refine hL.2.2.2 _ _ _ _ _ (fun hs1 => ?_)
  refine hL.1 30 t _ ?_
  show T 399 266 (0, [(0, zr 74)], [], m1) (fun r m2 => z_ans 266 r → TL t (1291, lo0 (i : Int), r.toList ++ [], m2))
  refine h 220 _ ?_
  intro r2 m2 hsame hI2 ha2
  obtain ⟨v2, rfl, hv2⟩ := z_ansE (k := 266) (by decide +kernel) ha2
  exact hL.1 4 t _ (hL.2.2.1 t _ ht (hN m2 (Inv_up (by omega) hI2)))
theorem zarm_1295 (hT : zRules T) (hL : zLRules T TL L xs) (hL2 : L ≤ 2560) {t i : Nat} {m : zM} (hi : (i : Int) + 5 ≤ L) (ht : t + 1 ≤ 520) (hB4 : B + 270 ≤ 400000) (hI : ∃ n k, Inv B sc n k m) (hN : ∀ m2, (∃ n k, Inv (B + 270) sc n k m2) → TL (t + 1) (23, lo0 ((i : Int) + 5), [], m2)) : TL t (1295, lo0 (i : Int), [], m) := by
  refine hL.2.2.2 _ _ _ _ _ (fun hs => ?_)
  refine hL.1 30 t _ (And.intro (zaix hs.1 hi hL2 (k := 1) (by decide) (by decide)) ?_)
  show T 399 146 (0, [(0, zr 1), (1, zi (wr (m 0 (wr ((i : Int) + 1)).toNat)))], [], m) (fun r m1 => z_ans 146 r → TL t (1305, lo0 (i : Int), r.toList ++ [], m1))
  refine w_way hT (wrB _) 392 m sc hI _ ?_
  intro r m1 h ha
  obtain ⟨v, rfl, hv⟩ := z_ansE (k := 146) (by decide +kernel) ha
  refine hL.2.2.2 _ _ _ _ _ (fun hs1 => ?_)
  rw [← zaval hs hs1 hi hL2 (k := 1) (by decide) (by decide)] at h
  refine hL.1 30 t _ (And.intro (zaix hs1.1 hi hL2 (k := 1) (by decide) (by decide)) ?_)
  show T 399 271 (0, [(0, zr 74), (1, zi (wr (m1 0 (wr ((i : Int) + 1)).toNat)))], [], m1) (fun r m2 => z_ans 271 r → TL t (1316, lo0 (i : Int), r.toList ++ [], m2))
  refine h 227 _ ?_
  intro r2 m2 hsame hI2 ha2
  obtain ⟨v2, rfl, hv2⟩ := z_ansE (k := 271) (by decide +kernel) ha2
  exact hL.1 4 t _ (hL.2.2.1 t _ ht (hN m2 (Inv_up (by omega) hI2)))
theorem zarm_1320 (hT : zRules T) (hL : zLRules T TL L xs) (hL2 : L ≤ 2560) {t i : Nat} {m : zM} (hi : (i : Int) + 5 ≤ L) (ht : t + 1 ≤ 520) (hB4 : B + 270 ≤ 400000) (hI : ∃ n k, Inv B sc n k m) (hN : ∀ m2, (∃ n k, Inv (B + 270) sc n k m2) → TL (t + 1) (23, lo0 ((i : Int) + 5), [], m2)) : TL t (1320, lo0 (i : Int), [], m) := by
  refine hL.2.2.2 _ _ _ _ _ (fun hs => ?_)
  refine hL.1 30 t _ (And.intro (zaix hs.1 hi hL2 (k := 1) (by decide) (by decide)) ?_)
  show T 399 147 (0, [(0, zr 1), (1, zi (wr (m 0 (wr ((i : Int) + 1)).toNat)))], [], m) (fun r m1 => z_ans 147 r → TL t (1330, lo0 (i : Int), r.toList ++ [], m1))
  refine w_trunk hT (wrB _) 392 m sc hI _ ?_
  intro r m1 h ha
  obtain ⟨v, rfl, hv⟩ := z_ansE (k := 147) (by decide +kernel) ha
  refine hL.2.2.2 _ _ _ _ _ (fun hs1 => ?_)
  rw [← zaval hs hs1 hi hL2 (k := 1) (by decide) (by decide)] at h
  refine hL.1 30 t _ (And.intro (zaix hs1.1 hi hL2 (k := 1) (by decide) (by decide)) ?_)
  show T 399 272 (0, [(0, zr 74), (1, zi (wr (m1 0 (wr ((i : Int) + 1)).toNat)))], [], m1) (fun r m2 => z_ans 272 r → TL t (1341, lo0 (i : Int), r.toList ++ [], m2))
  refine h 227 _ ?_
  intro r2 m2 hsame hI2 ha2
  obtain ⟨v2, rfl, hv2⟩ := z_ansE (k := 272) (by decide +kernel) ha2
  exact hL.1 4 t _ (hL.2.2.1 t _ ht (hN m2 (Inv_up (by omega) hI2)))
theorem zarm_1345 (hT : zRules T) (hL : zLRules T TL L xs) (hL2 : L ≤ 2560) {t i : Nat} {m : zM} (hi : (i : Int) + 5 ≤ L) (ht : t + 1 ≤ 520) (hB4 : B + 270 ≤ 400000) (hI : ∃ n k, Inv B sc n k m) (hN : ∀ m2, (∃ n k, Inv (B + 270) sc n k m2) → TL (t + 1) (23, lo0 ((i : Int) + 5), [], m2)) : TL t (1345, lo0 (i : Int), [], m) := by
  refine hL.2.2.2 _ _ _ _ _ (fun hs => ?_)
  refine hL.1 30 t _ (And.intro (zaix hs.1 hi hL2 (k := 1) (by decide) (by decide)) (And.intro (zaix hs.1 hi hL2 (k := 2) (by decide) (by decide)) (And.intro (zaix hs.1 hi hL2 (k := 3) (by decide) (by decide)) (And.intro (zaix hs.1 hi hL2 (k := 4) (by decide) (by decide)) ?_))))
  show T 399 148 (0, [(0, zr 1), (1, zi (wr (m 0 (wr ((i : Int) + 1)).toNat))), (2, zi (wr (m 0 (wr ((i : Int) + 2)).toNat))), (3, zi (wr (m 0 (wr ((i : Int) + 3)).toNat))), (4, zi (wr (m 0 (wr ((i : Int) + 4)).toNat)))], [], m) (fun r m1 => z_ans 148 r → TL t (1373, lo0 (i : Int), r.toList ++ [], m1))
  refine w_seen hT (wrB _) (wrB _) (wrB _) (wrB _) 397 m sc hI _ ?_
  intro r m1 h ha
  obtain ⟨v, rfl, hv⟩ := z_ansE (k := 148) (by decide +kernel) ha
  refine hL.2.2.2 _ _ _ _ _ (fun hs1 => ?_)
  rw [← zaval hs hs1 hi hL2 (k := 1) (by decide) (by decide)] at h
  rw [← zaval hs hs1 hi hL2 (k := 2) (by decide) (by decide)] at h
  rw [← zaval hs hs1 hi hL2 (k := 3) (by decide) (by decide)] at h
  rw [← zaval hs hs1 hi hL2 (k := 4) (by decide) (by decide)] at h
  refine hL.1 30 t _ (And.intro (zaix hs1.1 hi hL2 (k := 1) (by decide) (by decide)) (And.intro (zaix hs1.1 hi hL2 (k := 2) (by decide) (by decide)) (And.intro (zaix hs1.1 hi hL2 (k := 3) (by decide) (by decide)) (And.intro (zaix hs1.1 hi hL2 (k := 4) (by decide) (by decide)) ?_))))
  show T 399 273 (0, [(0, zr 74), (1, zi (wr (m1 0 (wr ((i : Int) + 1)).toNat))), (2, zi (wr (m1 0 (wr ((i : Int) + 2)).toNat))), (3, zi (wr (m1 0 (wr ((i : Int) + 3)).toNat))), (4, zi (wr (m1 0 (wr ((i : Int) + 4)).toNat)))], [], m1) (fun r m2 => z_ans 273 r → TL t (1402, lo0 (i : Int), r.toList ++ [], m2))
  refine h 397 _ ?_
  intro r2 m2 hsame hI2 ha2
  obtain ⟨v2, rfl, hv2⟩ := z_ansE (k := 273) (by decide +kernel) ha2
  exact hL.1 4 t _ (hL.2.2.1 t _ ht (hN m2 (Inv_up (by omega) hI2)))
theorem zarm_1406 (hT : zRules T) (hL : zLRules T TL L xs) (hL2 : L ≤ 2560) {t i : Nat} {m : zM} (hi : (i : Int) + 5 ≤ L) (ht : t + 1 ≤ 520) (hB4 : B + 270 ≤ 400000) (hI : ∃ n k, Inv B sc n k m) (hN : ∀ m2, (∃ n k, Inv (B + 270) sc n k m2) → TL (t + 1) (23, lo0 ((i : Int) + 5), [], m2)) : TL t (1406, lo0 (i : Int), [], m) := by
  refine hL.2.2.2 _ _ _ _ _ (fun hs => ?_)
  refine hL.1 30 t _ ?_
  show T 399 149 (0, [(0, zr 1)], [], m) (fun r m1 => z_ans 149 r → TL t (1410, lo0 (i : Int), r.toList ++ [], m1))
  refine w_forget hT  397 m sc hI _ ?_
  intro r m1 h ha
  obtain ⟨v, rfl, hv⟩ := z_ansE (k := 149) (by decide +kernel) ha
  refine hL.2.2.2 _ _ _ _ _ (fun hs1 => ?_)
  refine hL.1 30 t _ ?_
  show T 399 274 (0, [(0, zr 74)], [], m1) (fun r m2 => z_ans 274 r → TL t (1415, lo0 (i : Int), r.toList ++ [], m2))
  refine h 397 _ ?_
  intro r2 m2 hsame hI2 ha2
  obtain ⟨v2, rfl, hv2⟩ := z_ansE (k := 274) (by decide +kernel) ha2
  exact hL.1 4 t _ (hL.2.2.1 t _ ht (hN m2 (Inv_up (by omega) hI2)))
theorem zarm_1419 (hT : zRules T) (hL : zLRules T TL L xs) (hL2 : L ≤ 2560) {t i : Nat} {m : zM} (hi : (i : Int) + 5 ≤ L) (ht : t + 1 ≤ 520) (hB4 : B + 270 ≤ 400000) (hI : ∃ n k, Inv B sc n k m) (hN : ∀ m2, (∃ n k, Inv (B + 270) sc n k m2) → TL (t + 1) (23, lo0 ((i : Int) + 5), [], m2)) : TL t (1419, lo0 (i : Int), [], m) := by
  refine hL.2.2.2 _ _ _ _ _ (fun hs => ?_)
  refine hL.1 30 t _ (And.intro (zaix hs.1 hi hL2 (k := 1) (by decide) (by decide)) ?_)
  show T 399 150 (0, [(0, zr 1), (1, zi (wr (m 0 (wr ((i : Int) + 1)).toNat)))], [], m) (fun r m1 => z_ans 150 r → TL t (1429, lo0 (i : Int), r.toList ++ [], m1))
  refine w_fines hT (wrB _) 392 m sc hI _ ?_
  intro r m1 h ha
  obtain ⟨v, rfl, hv⟩ := z_ansE (k := 150) (by decide +kernel) ha
  refine hL.2.2.2 _ _ _ _ _ (fun hs1 => ?_)
  rw [← zaval hs hs1 hi hL2 (k := 1) (by decide) (by decide)] at h
  refine hL.1 30 t _ (And.intro (zaix hs1.1 hi hL2 (k := 1) (by decide) (by decide)) ?_)
  show T 399 275 (0, [(0, zr 74), (1, zi (wr (m1 0 (wr ((i : Int) + 1)).toNat)))], [], m1) (fun r m2 => z_ans 275 r → TL t (1440, lo0 (i : Int), r.toList ++ [], m2))
  refine h 228 _ ?_
  intro r2 m2 hsame hI2 ha2
  obtain ⟨v2, rfl, hv2⟩ := z_ansE (k := 275) (by decide +kernel) ha2
  exact hL.1 4 t _ (hL.2.2.1 t _ ht (hN m2 (Inv_up (by omega) hI2)))
theorem zarm_1444 (hT : zRules T) (hL : zLRules T TL L xs) (hL2 : L ≤ 2560) {t i : Nat} {m : zM} (hi : (i : Int) + 5 ≤ L) (ht : t + 1 ≤ 520) (hB4 : B + 270 ≤ 400000) (hI : ∃ n k, Inv B sc n k m) (hN : ∀ m2, (∃ n k, Inv (B + 270) sc n k m2) → TL (t + 1) (23, lo0 ((i : Int) + 5), [], m2)) : TL t (1444, lo0 (i : Int), [], m) := by
  refine hL.2.2.2 _ _ _ _ _ (fun hs => ?_)
  refine hL.1 30 t _ ?_
  show T 399 151 (0, [(0, zr 1)], [], m) (fun r m1 => z_ans 151 r → TL t (1448, lo0 (i : Int), r.toList ++ [], m1))
  refine w_lags hT  391 m sc hI _ ?_
  intro r m1 h ha
  obtain ⟨v, rfl, hv⟩ := z_ansE (k := 151) (by decide +kernel) ha
  refine hL.2.2.2 _ _ _ _ _ (fun hs1 => ?_)
  refine hL.1 30 t _ ?_
  show T 399 276 (0, [(0, zr 74)], [], m1) (fun r m2 => z_ans 276 r → TL t (1453, lo0 (i : Int), r.toList ++ [], m2))
  refine h 228 _ ?_
  intro r2 m2 hsame hI2 ha2
  obtain ⟨v2, rfl, hv2⟩ := z_ansE (k := 276) (by decide +kernel) ha2
  exact hL.1 4 t _ (hL.2.2.1 t _ ht (hN m2 (Inv_up (by omega) hI2)))
theorem zarm_1457 (hT : zRules T) (hL : zLRules T TL L xs) (hL2 : L ≤ 2560) {t i : Nat} {m : zM} (hi : (i : Int) + 5 ≤ L) (ht : t + 1 ≤ 520) (hB4 : B + 270 ≤ 400000) (hI : ∃ n k, Inv B sc n k m) (hN : ∀ m2, (∃ n k, Inv (B + 270) sc n k m2) → TL (t + 1) (23, lo0 ((i : Int) + 5), [], m2)) : TL t (1457, lo0 (i : Int), [], m) := by
  refine hL.2.2.2 _ _ _ _ _ (fun hs => ?_)
  refine hL.1 30 t _ (And.intro (zaix hs.1 hi hL2 (k := 1) (by decide) (by decide)) ?_)
  show T 399 152 (0, [(0, zr 1), (1, zi (wr (m 0 (wr ((i : Int) + 1)).toNat)))], [], m) (fun r m1 => z_ans 152 r → TL t (1467, lo0 (i : Int), r.toList ++ [], m1))
  refine w_heights hT (wrB _) 393 m sc hI _ ?_
  intro r m1 h ha
  obtain ⟨v, rfl, hv⟩ := z_ansE (k := 152) (by decide +kernel) ha
  refine hL.2.2.2 _ _ _ _ _ (fun hs1 => ?_)
  rw [← zaval hs hs1 hi hL2 (k := 1) (by decide) (by decide)] at h
  refine hL.1 30 t _ (And.intro (zaix hs1.1 hi hL2 (k := 1) (by decide) (by decide)) ?_)
  show T 399 277 (0, [(0, zr 74), (1, zi (wr (m1 0 (wr ((i : Int) + 1)).toNat)))], [], m1) (fun r m2 => z_ans 277 r → TL t (1478, lo0 (i : Int), r.toList ++ [], m2))
  refine h 229 _ ?_
  intro r2 m2 hsame hI2 ha2
  obtain ⟨v2, rfl, hv2⟩ := z_ansE (k := 277) (by decide +kernel) ha2
  exact hL.1 4 t _ (hL.2.2.1 t _ ht (hN m2 (Inv_up (by omega) hI2)))
theorem zarm_1482 (hT : zRules T) (hL : zLRules T TL L xs) (hL2 : L ≤ 2560) {t i : Nat} {m : zM} (hi : (i : Int) + 5 ≤ L) (ht : t + 1 ≤ 520) (hB4 : B + 270 ≤ 400000) (hI : ∃ n k, Inv B sc n k m) (hN : ∀ m2, (∃ n k, Inv (B + 270) sc n k m2) → TL (t + 1) (23, lo0 ((i : Int) + 5), [], m2)) : TL t (1482, lo0 (i : Int), [], m) := by
  refine hL.2.2.2 _ _ _ _ _ (fun hs => ?_)
  refine hL.1 30 t _ (And.intro (zaix hs.1 hi hL2 (k := 1) (by decide) (by decide)) (And.intro (zaix hs.1 hi hL2 (k := 2) (by decide) (by decide)) ?_))
  show T 399 153 (0, [(0, zr 1), (1, zi (wr (m 0 (wr ((i : Int) + 1)).toNat))), (2, zi (wr (m 0 (wr ((i : Int) + 2)).toNat)))], [], m) (fun r m1 => z_ans 153 r → TL t (1498, lo0 (i : Int), r.toList ++ [], m1))
  refine w_job hT (wrB _) (wrB _) 397 m sc hI _ ?_
  intro r m1 h ha
  obtain ⟨v, rfl, hv⟩ := z_ansE (k := 153) (by decide +kernel) ha
  refine hL.2.2.2 _ _ _ _ _ (fun hs1 => ?_)
  rw [← zaval hs hs1 hi hL2 (k := 1) (by decide) (by decide)] at h
  rw [← zaval hs hs1 hi hL2 (k := 2) (by decide) (by decide)] at h
  refine hL.1 30 t _ (And.intro (zaix hs1.1 hi hL2 (k := 1) (by decide) (by decide)) (And.intro (zaix hs1.1 hi hL2 (k := 2) (by decide) (by decide)) ?_))
  show T 399 278 (0, [(0, zr 74), (1, zi (wr (m1 0 (wr ((i : Int) + 1)).toNat))), (2, zi (wr (m1 0 (wr ((i : Int) + 2)).toNat)))], [], m1) (fun r m2 => z_ans 278 r → TL t (1515, lo0 (i : Int), r.toList ++ [], m2))
  refine h 397 _ ?_
  intro r2 m2 hsame hI2 ha2
  obtain ⟨v2, rfl, hv2⟩ := z_ansE (k := 278) (by decide +kernel) ha2
  exact hL.1 4 t _ (hL.2.2.1 t _ ht (hN m2 (Inv_up (by omega) hI2)))
theorem zarm_1519 (hT : zRules T) (hL : zLRules T TL L xs) (hL2 : L ≤ 2560) {t i : Nat} {m : zM} (hi : (i : Int) + 5 ≤ L) (ht : t + 1 ≤ 520) (hB4 : B + 270 ≤ 400000) (hI : ∃ n k, Inv B sc n k m) (hN : ∀ m2, (∃ n k, Inv (B + 270) sc n k m2) → TL (t + 1) (23, lo0 ((i : Int) + 5), [], m2)) : TL t (1519, lo0 (i : Int), [], m) := by
  refine hL.2.2.2 _ _ _ _ _ (fun hs => ?_)
  refine hL.1 30 t _ ?_
  show T 399 154 (0, [(0, zr 1)], [], m) (fun r m1 => z_ans 154 r → TL t (1523, lo0 (i : Int), r.toList ++ [], m1))
  refine w_rest hT  397 m sc hI _ ?_
  intro r m1 h ha
  obtain ⟨v, rfl, hv⟩ := z_ansE (k := 154) (by decide +kernel) ha
  refine hL.2.2.2 _ _ _ _ _ (fun hs1 => ?_)
  refine hL.1 30 t _ ?_
  show T 399 279 (0, [(0, zr 74)], [], m1) (fun r m2 => z_ans 279 r → TL t (1528, lo0 (i : Int), r.toList ++ [], m2))
  refine h 397 _ ?_
  intro r2 m2 hsame hI2 ha2
  obtain ⟨v2, rfl, hv2⟩ := z_ansE (k := 279) (by decide +kernel) ha2
  exact hL.1 4 t _ (hL.2.2.1 t _ ht (hN m2 (Inv_up (by omega) hI2)))
theorem zarm_1532 (hT : zRules T) (hL : zLRules T TL L xs) (hL2 : L ≤ 2560) {t i : Nat} {m : zM} (hi : (i : Int) + 5 ≤ L) (ht : t + 1 ≤ 520) (hB4 : B + 270 ≤ 400000) (hI : ∃ n k, Inv B sc n k m) (hN : ∀ m2, (∃ n k, Inv (B + 270) sc n k m2) → TL (t + 1) (23, lo0 ((i : Int) + 5), [], m2)) : TL t (1532, lo0 (i : Int), [], m) := by
  refine hL.2.2.2 _ _ _ _ _ (fun hs => ?_)
  refine hL.1 30 t _ ?_
  show T 399 155 (0, [(0, zr 1)], [], m) (fun r m1 => z_ans 155 r → TL t (1536, lo0 (i : Int), r.toList ++ [], m1))
  refine w_late hT  394 m sc hI _ ?_
  intro r m1 h ha
  obtain ⟨v, rfl, hv⟩ := z_ansE (k := 155) (by decide +kernel) ha
  refine hL.2.2.2 _ _ _ _ _ (fun hs1 => ?_)
  refine hL.1 30 t _ ?_
  show T 399 281 (0, [(0, zr 74)], [], m1) (fun r m2 => z_ans 281 r → TL t (1541, lo0 (i : Int), r.toList ++ [], m2))
  refine h 390 _ ?_
  intro r2 m2 hsame hI2 ha2
  obtain ⟨v2, rfl, hv2⟩ := z_ansE (k := 281) (by decide +kernel) ha2
  exact hL.1 4 t _ (hL.2.2.1 t _ ht (hN m2 (Inv_up (by omega) hI2)))
theorem zarm_1545 (hT : zRules T) (hL : zLRules T TL L xs) (hL2 : L ≤ 2560) {t i : Nat} {m : zM} (hi : (i : Int) + 5 ≤ L) (ht : t + 1 ≤ 520) (hB4 : B + 270 ≤ 400000) (hI : ∃ n k, Inv B sc n k m) (hN : ∀ m2, (∃ n k, Inv (B + 270) sc n k m2) → TL (t + 1) (23, lo0 ((i : Int) + 5), [], m2)) : TL t (1545, lo0 (i : Int), [], m) := by
  refine hL.2.2.2 _ _ _ _ _ (fun hs => ?_)
  refine hL.1 30 t _ ?_
  show T 399 156 (0, [(0, zr 1)], [], m) (fun r m1 => z_ans 156 r → TL t (1549, lo0 (i : Int), r.toList ++ [], m1))
  refine w_timely hT  394 m sc hI _ ?_
  intro r m1 h ha
  obtain ⟨v, rfl, hv⟩ := z_ansE (k := 156) (by decide +kernel) ha
  refine hL.2.2.2 _ _ _ _ _ (fun hs1 => ?_)
  refine hL.1 30 t _ ?_
  show T 399 283 (0, [(0, zr 74)], [], m1) (fun r m2 => z_ans 283 r → TL t (1554, lo0 (i : Int), r.toList ++ [], m2))
  refine h 396 _ ?_
  intro r2 m2 hsame hI2 ha2
  obtain ⟨v2, rfl, hv2⟩ := z_ansE (k := 283) (by decide +kernel) ha2
  exact hL.1 4 t _ (hL.2.2.1 t _ ht (hN m2 (Inv_up (by omega) hI2)))
theorem zarm_1558 (hT : zRules T) (hL : zLRules T TL L xs) (hL2 : L ≤ 2560) {t i : Nat} {m : zM} (hi : (i : Int) + 5 ≤ L) (ht : t + 1 ≤ 520) (hB4 : B + 270 ≤ 400000) (hI : ∃ n k, Inv B sc n k m) (hN : ∀ m2, (∃ n k, Inv (B + 270) sc n k m2) → TL (t + 1) (23, lo0 ((i : Int) + 5), [], m2)) : TL t (1558, lo0 (i : Int), [], m) := by
  refine hL.2.2.2 _ _ _ _ _ (fun hs => ?_)
  refine hL.1 30 t _ (And.intro (zaix hs.1 hi hL2 (k := 1) (by decide) (by decide)) ?_)
  show T 399 157 (0, [(0, zr 1), (1, zi (wr (m 0 (wr ((i : Int) + 1)).toNat)))], [], m) (fun r m1 => z_ans 157 r → TL t (1568, lo0 (i : Int), r.toList ++ [], m1))
  refine w_hired hT (wrB _) 394 m sc hI _ ?_
  intro r m1 h ha
  obtain ⟨v, rfl, hv⟩ := z_ansE (k := 157) (by decide +kernel) ha
  refine hL.2.2.2 _ _ _ _ _ (fun hs1 => ?_)
  rw [← zaval hs hs1 hi hL2 (k := 1) (by decide) (by decide)] at h
  refine hL.1 30 t _ (And.intro (zaix hs1.1 hi hL2 (k := 1) (by decide) (by decide)) ?_)
  show T 399 285 (0, [(0, zr 74), (1, zi (wr (m1 0 (wr ((i : Int) + 1)).toNat)))], [], m1) (fun r m2 => z_ans 285 r → TL t (1579, lo0 (i : Int), r.toList ++ [], m2))
  refine h 390 _ ?_
  intro r2 m2 hsame hI2 ha2
  obtain ⟨v2, rfl, hv2⟩ := z_ansE (k := 285) (by decide +kernel) ha2
  exact hL.1 4 t _ (hL.2.2.1 t _ ht (hN m2 (Inv_up (by omega) hI2)))
theorem zarm_1583 (hT : zRules T) (hL : zLRules T TL L xs) (hL2 : L ≤ 2560) {t i : Nat} {m : zM} (hi : (i : Int) + 5 ≤ L) (ht : t + 1 ≤ 520) (hB4 : B + 270 ≤ 400000) (hI : ∃ n k, Inv B sc n k m) (hN : ∀ m2, (∃ n k, Inv (B + 270) sc n k m2) → TL (t + 1) (23, lo0 ((i : Int) + 5), [], m2)) : TL t (1583, lo0 (i : Int), [], m) := by
  refine hL.2.2.2 _ _ _ _ _ (fun hs => ?_)
  refine hL.1 30 t _ (And.intro (zaix hs.1 hi hL2 (k := 1) (by decide) (by decide)) (And.intro (zaix hs.1 hi hL2 (k := 2) (by decide) (by decide)) (And.intro (zaix hs.1 hi hL2 (k := 3) (by decide) (by decide)) ?_)))
  show T 399 158 (0, [(0, zr 1), (1, zi (wr (m 0 (wr ((i : Int) + 1)).toNat))), (2, zi (wr (m 0 (wr ((i : Int) + 2)).toNat))), (3, zi (wr (m 0 (wr ((i : Int) + 3)).toNat)))], [], m) (fun r m1 => z_ans 158 r → TL t (1605, lo0 (i : Int), r.toList ++ [], m1))
  refine w_draw hT (wrB _) (wrB _) (wrB _) 397 m sc hI _ ?_
  intro r m1 h ha
  obtain ⟨v, rfl, hv⟩ := z_ansE (k := 158) (by decide +kernel) ha
  refine hL.2.2.2 _ _ _ _ _ (fun hs1 => ?_)
  rw [← zaval hs hs1 hi hL2 (k := 1) (by decide) (by decide)] at h
  rw [← zaval hs hs1 hi hL2 (k := 2) (by decide) (by decide)] at h
  rw [← zaval hs hs1 hi hL2 (k := 3) (by decide) (by decide)] at h
  refine hL.1 30 t _ (And.intro (zaix hs1.1 hi hL2 (k := 1) (by decide) (by decide)) (And.intro (zaix hs1.1 hi hL2 (k := 2) (by decide) (by decide)) (And.intro (zaix hs1.1 hi hL2 (k := 3) (by decide) (by decide)) ?_)))
  show T 399 286 (0, [(0, zr 74), (1, zi (wr (m1 0 (wr ((i : Int) + 1)).toNat))), (2, zi (wr (m1 0 (wr ((i : Int) + 2)).toNat))), (3, zi (wr (m1 0 (wr ((i : Int) + 3)).toNat)))], [], m1) (fun r m2 => z_ans 286 r → TL t (1628, lo0 (i : Int), r.toList ++ [], m2))
  refine h 397 _ ?_
  intro r2 m2 hsame hI2 ha2
  obtain ⟨v2, rfl, hv2⟩ := z_ansE (k := 286) (by decide +kernel) ha2
  exact hL.1 4 t _ (hL.2.2.1 t _ ht (hN m2 (Inv_up (by omega) hI2)))
theorem zarm_1632 (hT : zRules T) (hL : zLRules T TL L xs) (hL2 : L ≤ 2560) {t i : Nat} {m : zM} (hi : (i : Int) + 5 ≤ L) (ht : t + 1 ≤ 520) (hB4 : B + 270 ≤ 400000) (hI : ∃ n k, Inv B sc n k m) (hN : ∀ m2, (∃ n k, Inv (B + 270) sc n k m2) → TL (t + 1) (23, lo0 ((i : Int) + 5), [], m2)) : TL t (1632, lo0 (i : Int), [], m) := by
  refine hL.2.2.2 _ _ _ _ _ (fun hs => ?_)
  refine hL.1 30 t _ (And.intro (zaix hs.1 hi hL2 (k := 1) (by decide) (by decide)) ?_)
  show T 399 159 (0, [(0, zr 1), (1, zi (wr (m 0 (wr ((i : Int) + 1)).toNat)))], [], m) (fun r m1 => z_ans 159 r → TL t (1642, lo0 (i : Int), r.toList ++ [], m1))
  refine w_keep hT (wrB _) 395 m sc hI _ ?_
  intro r m1 h ha
  obtain ⟨v, rfl, hv⟩ := z_ansE (k := 159) (by decide +kernel) ha
  refine hL.2.2.2 _ _ _ _ _ (fun hs1 => ?_)
  rw [← zaval hs hs1 hi hL2 (k := 1) (by decide) (by decide)] at h
  refine hL.1 30 t _ (And.intro (zaix hs1.1 hi hL2 (k := 1) (by decide) (by decide)) ?_)
  show T 399 287 (0, [(0, zr 74), (1, zi (wr (m1 0 (wr ((i : Int) + 1)).toNat)))], [], m1) (fun r m2 => z_ans 287 r → TL t (1653, lo0 (i : Int), r.toList ++ [], m2))
  refine h 397 _ ?_
  intro r2 m2 hsame hI2 ha2
  obtain ⟨v2, rfl, hv2⟩ := z_ansE (k := 287) (by decide +kernel) ha2
  exact hL.1 4 t _ (hL.2.2.1 t _ ht (hN m2 (Inv_up (by omega) hI2)))
theorem zarm_1657 (hT : zRules T) (hL : zLRules T TL L xs) (hL2 : L ≤ 2560) {t i : Nat} {m : zM} (hi : (i : Int) + 5 ≤ L) (ht : t + 1 ≤ 520) (hB4 : B + 270 ≤ 400000) (hI : ∃ n k, Inv B sc n k m) (hN : ∀ m2, (∃ n k, Inv (B + 270) sc n k m2) → TL (t + 1) (23, lo0 ((i : Int) + 5), [], m2)) : TL t (1657, lo0 (i : Int), [], m) := by
  refine hL.2.2.2 _ _ _ _ _ (fun hs => ?_)
  refine hL.1 30 t _ (And.intro (zaix hs.1 hi hL2 (k := 1) (by decide) (by decide)) ?_)
  show T 399 160 (0, [(0, zr 1), (1, zi (wr (m 0 (wr ((i : Int) + 1)).toNat)))], [], m) (fun r m1 => z_ans 160 r → TL t (1667, lo0 (i : Int), r.toList ++ [], m1))
  refine w_again hT (wrB _) 395 m sc hI _ ?_
  intro r m1 h ha
  obtain ⟨v, rfl, hv⟩ := z_ansE (k := 160) (by decide +kernel) ha
  refine hL.2.2.2 _ _ _ _ _ (fun hs1 => ?_)
  rw [← zaval hs hs1 hi hL2 (k := 1) (by decide) (by decide)] at h
  refine hL.1 30 t _ (And.intro (zaix hs1.1 hi hL2 (k := 1) (by decide) (by decide)) ?_)
  show T 399 288 (0, [(0, zr 74), (1, zi (wr (m1 0 (wr ((i : Int) + 1)).toNat)))], [], m1) (fun r m2 => z_ans 288 r → TL t (1678, lo0 (i : Int), r.toList ++ [], m2))
  refine h 397 _ ?_
  intro r2 m2 hsame hI2 ha2
  obtain ⟨v2, rfl, hv2⟩ := z_ansE (k := 288) (by decide +kernel) ha2
  exact hL.1 4 t _ (hL.2.2.1 t _ ht (hN m2 (Inv_up (by omega) hI2)))
theorem zarm_1682 (hT : zRules T) (hL : zLRules T TL L xs) (hL2 : L ≤ 2560) {t i : Nat} {m : zM} (hi : (i : Int) + 5 ≤ L) (ht : t + 1 ≤ 520) (hB4 : B + 270 ≤ 400000) (hI : ∃ n k, Inv B sc n k m) (hN : ∀ m2, (∃ n k, Inv (B + 270) sc n k m2) → TL (t + 1) (23, lo0 ((i : Int) + 5), [], m2)) : TL t (1682, lo0 (i : Int), [], m) := by
  refine hL.2.2.2 _ _ _ _ _ (fun hs => ?_)
  refine hL.1 30 t _ (And.intro (zaix hs.1 hi hL2 (k := 1) (by decide) (by decide)) ?_)
  show T 399 161 (0, [(0, zr 1), (1, zi (wr (m 0 (wr ((i : Int) + 1)).toNat)))], [], m) (fun r m1 => z_ans 161 r → TL t (1692, lo0 (i : Int), r.toList ++ [], m1))
  refine w_count2 hT (wrB _) 397 m sc hI _ ?_
  intro r m1 h ha
  obtain ⟨v, rfl, hv⟩ := z_ansE (k := 161) (by decide +kernel) ha
  refine hL.2.2.2 _ _ _ _ _ (fun hs1 => ?_)
  rw [← zaval hs hs1 hi hL2 (k := 1) (by decide) (by decide)] at h
  refine hL.1 30 t _ (And.intro (zaix hs1.1 hi hL2 (k := 1) (by decide) (by decide)) ?_)
  show T 399 290 (0, [(0, zr 74), (1, zi (wr (m1 0 (wr ((i : Int) + 1)).toNat)))], [], m1) (fun r m2 => z_ans 290 r → TL t (1702, lo0 (i : Int), r.toList ++ [zi v], m2))
  refine h 397 _ ?_
  intro r2 m2 hsame hI2 ha2
  obtain ⟨v2, rfl, hv2⟩ := z_ansE (k := 290) (by decide +kernel) ha2
  have ev : v = v2 := Sum.inl.inj (Option.some.inj (hsame trivial))
  subst ev
  exact hL.1 3 t _ (And.intro (fun _ => hL.2.2.1 t _ ht (hN m2 (Inv_up (by omega) hI2))) (fun hne => absurd rfl hne))
theorem zarm_1707 (hT : zRules T) (hL : zLRules T TL L xs) (hL2 : L ≤ 2560) {t i : Nat} {m : zM} (hi : (i : Int) + 5 ≤ L) (ht : t + 1 ≤ 520) (hB4 : B + 270 ≤ 400000) (hI : ∃ n k, Inv B sc n k m) (hN : ∀ m2, (∃ n k, Inv (B + 270) sc n k m2) → TL (t + 1) (23, lo0 ((i : Int) + 5), [], m2)) : TL t (1707, lo0 (i : Int), [], m) := by
  refine hL.2.2.2 _ _ _ _ _ (fun hs => ?_)
  refine hL.1 30 t _ (And.intro (zaix hs.1 hi hL2 (k := 1) (by decide) (by decide)) (And.intro ht ?_))
  show zLHlp T TL t 301 [zr 1, zi (m 0 (wr ((i : Int) + 1)).toNat), zr 109] (1718, lo0 (i : Int), [], m)
  refine Or.inr ⟨_, rfl, Or.inr ⟨rfl, ?_⟩⟩
  refine (n_row (B := B) hT (wrB _)).1 396 m sc hI _ ?_
  intro r m1 hr hI1
  have nxt : ∀ (kk : Int) (mm : zM), (∃ n k, Inv B sc n k mm) → TL (t + 1) (1718, lo0 (i : Int), [zi kk], mm) := fun kk mm hIm => by
    refine hL.2.2.2 _ _ _ _ _ (fun hs1 => ?_)
    refine hL.1 30 (t + 1) _ (And.intro (zaix hs1.1 hi hL2 (k := 1) (by decide) (by decide)) ?_)
    show T 399 291 (0, [(0, zr 74), (1, zi (wr (mm 0 (wr ((i : Int) + 1)).toNat)))], [], mm) (fun r m1 => z_ans 291 r → TL (t + 1) (1730, z_lset (lo0 (i : Int)) 5 (zi kk), r.toList ++ [], m1))
    refine (n_row (B := B) hT (wrB _)).2 397 mm sc hIm _ ?_
    intro r2 m2 hI2 ha2
    obtain ⟨v2, rfl, hv2⟩ := z_ansE (k := 291) (by decide +kernel) ha2
    exact hL.1 4 (t + 1) _ (hL.2.1 [0, 1, 2, 3, 4] _ _ _ _ _ (hN m2 (Inv_up (by omega) hI2)))
  exact ⟨fun _ => nxt 1 m1 hI1, fun v _ _ => nxt 0 _ (Inv_109 hI1)⟩
noncomputable def zarmB (a : Nat) : Bool := Nat.beq a 256 || (Nat.beq a 281 || (Nat.beq a 306 || (Nat.beq a 319 || (Nat.beq a 332 || (Nat.beq a 345 || (Nat.beq a 385 || (Nat.beq a 425 || (Nat.beq a 462 || (Nat.beq a 511 || (Nat.beq a 548 || (Nat.beq a 609 || (Nat.beq a 646 || (Nat.beq a 683 || (Nat.beq a 720 || (Nat.beq a 733 || (Nat.beq a 758 || (Nat.beq a 771 || (Nat.beq a 784 || (Nat.beq a 812 || (Nat.beq a 849 || (Nat.beq a 874 || (Nat.beq a 899 || (Nat.beq a 924 || (Nat.beq a 973 || (Nat.beq a 1022 || (Nat.beq a 1071 || (Nat.beq a 1108 || (Nat.beq a 1133 || (Nat.beq a 1170 || (Nat.beq a 1219 || (Nat.beq a 1232 || (Nat.beq a 1257 || (Nat.beq a 1282 || (Nat.beq a 1295 || (Nat.beq a 1320 || (Nat.beq a 1345 || (Nat.beq a 1406 || (Nat.beq a 1419 || (Nat.beq a 1444 || (Nat.beq a 1457 || (Nat.beq a 1482 || (Nat.beq a 1519 || (Nat.beq a 1532 || (Nat.beq a 1545 || (Nat.beq a 1558 || (Nat.beq a 1583 || (Nat.beq a 1632 || (Nat.beq a 1657 || (Nat.beq a 1682 || (Nat.beq a 1707))))))))))))))))))))))))))))))))))))))))))))))))))
theorem zarm_all {l : List Int} {o : Int} (hl : l.all (fun o => zarmB (((39 : Nat) : Int) + o).toNat) = true) (ho : o ∈ l) : zarmB (((39 : Nat) : Int) + o).toNat = true := List.all_eq_true.mp hl o ho
theorem zarm (hT : zRules T) (hL : zLRules T TL L xs) (hL2 : L ≤ 2560) {t i : Nat} {m : zM} (hi : (i : Int) + 5 ≤ L) (ht : t + 1 ≤ 520) (hB4 : B + 270 ≤ 400000) (hI : ∃ n k, Inv B sc n k m) (hN : ∀ m2, (∃ n k, Inv (B + 270) sc n k m2) → TL (t + 1) (23, lo0 ((i : Int) + 5), [], m2)) (a : Nat) (ha : zarmB a = true) : TL t (a, lo0 (i : Int), [], m) := by
  unfold zarmB at ha
  rw [Bool.or_eq_true] at ha
  rcases ha with ha | ha
  · rw [Nat.eq_of_beq_eq_true ha]
    exact zarm_256 hT hL hL2 hi ht hB4 hI hN
  rw [Bool.or_eq_true] at ha
  rcases ha with ha | ha
  · rw [Nat.eq_of_beq_eq_true ha]
    exact zarm_281 hT hL hL2 hi ht hB4 hI hN
  rw [Bool.or_eq_true] at ha
  rcases ha with ha | ha
  · rw [Nat.eq_of_beq_eq_true ha]
    exact zarm_306 hT hL hL2 hi ht hB4 hI hN
  rw [Bool.or_eq_true] at ha
  rcases ha with ha | ha
  · rw [Nat.eq_of_beq_eq_true ha]
    exact zarm_319 hT hL hL2 hi ht hB4 hI hN
  rw [Bool.or_eq_true] at ha
  rcases ha with ha | ha
  · rw [Nat.eq_of_beq_eq_true ha]
    exact zarm_332 hT hL hL2 hi ht hB4 hI hN
  rw [Bool.or_eq_true] at ha
  rcases ha with ha | ha
  · rw [Nat.eq_of_beq_eq_true ha]
    exact zarm_345 hT hL hL2 hi ht hB4 hI hN
  rw [Bool.or_eq_true] at ha
  rcases ha with ha | ha
  · rw [Nat.eq_of_beq_eq_true ha]
    exact zarm_385 hT hL hL2 hi ht hB4 hI hN
  rw [Bool.or_eq_true] at ha
  rcases ha with ha | ha
  · rw [Nat.eq_of_beq_eq_true ha]
    exact zarm_425 hT hL hL2 hi ht hB4 hI hN
  rw [Bool.or_eq_true] at ha
  rcases ha with ha | ha
  · rw [Nat.eq_of_beq_eq_true ha]
    exact zarm_462 hT hL hL2 hi ht hB4 hI hN
  rw [Bool.or_eq_true] at ha
  rcases ha with ha | ha
  · rw [Nat.eq_of_beq_eq_true ha]
    exact zarm_511 hT hL hL2 hi ht hB4 hI hN
  rw [Bool.or_eq_true] at ha
  rcases ha with ha | ha
  · rw [Nat.eq_of_beq_eq_true ha]
    exact zarm_548 hT hL hL2 hi ht hB4 hI hN
  rw [Bool.or_eq_true] at ha
  rcases ha with ha | ha
  · rw [Nat.eq_of_beq_eq_true ha]
    exact zarm_609 hT hL hL2 hi ht hB4 hI hN
  rw [Bool.or_eq_true] at ha
  rcases ha with ha | ha
  · rw [Nat.eq_of_beq_eq_true ha]
    exact zarm_646 hT hL hL2 hi ht hB4 hI hN
  rw [Bool.or_eq_true] at ha
  rcases ha with ha | ha
  · rw [Nat.eq_of_beq_eq_true ha]
    exact zarm_683 hT hL hL2 hi ht hB4 hI hN
  rw [Bool.or_eq_true] at ha
  rcases ha with ha | ha
  · rw [Nat.eq_of_beq_eq_true ha]
    exact zarm_720 hT hL hL2 hi ht hB4 hI hN
  rw [Bool.or_eq_true] at ha
  rcases ha with ha | ha
  · rw [Nat.eq_of_beq_eq_true ha]
    exact zarm_733 hT hL hL2 hi ht hB4 hI hN
  rw [Bool.or_eq_true] at ha
  rcases ha with ha | ha
  · rw [Nat.eq_of_beq_eq_true ha]
    exact zarm_758 hT hL hL2 hi ht hB4 hI hN
  rw [Bool.or_eq_true] at ha
  rcases ha with ha | ha
  · rw [Nat.eq_of_beq_eq_true ha]
    exact zarm_771 hT hL hL2 hi ht hB4 hI hN
  rw [Bool.or_eq_true] at ha
  rcases ha with ha | ha
  · rw [Nat.eq_of_beq_eq_true ha]
    exact zarm_784 hT hL hL2 hi ht hB4 hI hN
  rw [Bool.or_eq_true] at ha
  rcases ha with ha | ha
  · rw [Nat.eq_of_beq_eq_true ha]
    exact zarm_812 hT hL hL2 hi ht hB4 hI hN
  rw [Bool.or_eq_true] at ha
  rcases ha with ha | ha
  · rw [Nat.eq_of_beq_eq_true ha]
    exact zarm_849 hT hL hL2 hi ht hB4 hI hN
  rw [Bool.or_eq_true] at ha
  rcases ha with ha | ha
  · rw [Nat.eq_of_beq_eq_true ha]
    exact zarm_874 hT hL hL2 hi ht hB4 hI hN
  rw [Bool.or_eq_true] at ha
  rcases ha with ha | ha
  · rw [Nat.eq_of_beq_eq_true ha]
    exact zarm_899 hT hL hL2 hi ht hB4 hI hN
  rw [Bool.or_eq_true] at ha
  rcases ha with ha | ha
  · rw [Nat.eq_of_beq_eq_true ha]
    exact zarm_924 hT hL hL2 hi ht hB4 hI hN
  rw [Bool.or_eq_true] at ha
  rcases ha with ha | ha
  · rw [Nat.eq_of_beq_eq_true ha]
    exact zarm_973 hT hL hL2 hi ht hB4 hI hN
  rw [Bool.or_eq_true] at ha
  rcases ha with ha | ha
  · rw [Nat.eq_of_beq_eq_true ha]
    exact zarm_1022 hT hL hL2 hi ht hB4 hI hN
  rw [Bool.or_eq_true] at ha
  rcases ha with ha | ha
  · rw [Nat.eq_of_beq_eq_true ha]
    exact zarm_1071 hT hL hL2 hi ht hB4 hI hN
  rw [Bool.or_eq_true] at ha
  rcases ha with ha | ha
  · rw [Nat.eq_of_beq_eq_true ha]
    exact zarm_1108 hT hL hL2 hi ht hB4 hI hN
  rw [Bool.or_eq_true] at ha
  rcases ha with ha | ha
  · rw [Nat.eq_of_beq_eq_true ha]
    exact zarm_1133 hT hL hL2 hi ht hB4 hI hN
  rw [Bool.or_eq_true] at ha
  rcases ha with ha | ha
  · rw [Nat.eq_of_beq_eq_true ha]
    exact zarm_1170 hT hL hL2 hi ht hB4 hI hN
  rw [Bool.or_eq_true] at ha
  rcases ha with ha | ha
  · rw [Nat.eq_of_beq_eq_true ha]
    exact zarm_1219 hT hL hL2 hi ht hB4 hI hN
  rw [Bool.or_eq_true] at ha
  rcases ha with ha | ha
  · rw [Nat.eq_of_beq_eq_true ha]
    exact zarm_1232 hT hL hL2 hi ht hB4 hI hN
  rw [Bool.or_eq_true] at ha
  rcases ha with ha | ha
  · rw [Nat.eq_of_beq_eq_true ha]
    exact zarm_1257 hT hL hL2 hi ht hB4 hI hN
  rw [Bool.or_eq_true] at ha
  rcases ha with ha | ha
  · rw [Nat.eq_of_beq_eq_true ha]
    exact zarm_1282 hT hL hL2 hi ht hB4 hI hN
  rw [Bool.or_eq_true] at ha
  rcases ha with ha | ha
  · rw [Nat.eq_of_beq_eq_true ha]
    exact zarm_1295 hT hL hL2 hi ht hB4 hI hN
  rw [Bool.or_eq_true] at ha
  rcases ha with ha | ha
  · rw [Nat.eq_of_beq_eq_true ha]
    exact zarm_1320 hT hL hL2 hi ht hB4 hI hN
  rw [Bool.or_eq_true] at ha
  rcases ha with ha | ha
  · rw [Nat.eq_of_beq_eq_true ha]
    exact zarm_1345 hT hL hL2 hi ht hB4 hI hN
  rw [Bool.or_eq_true] at ha
  rcases ha with ha | ha
  · rw [Nat.eq_of_beq_eq_true ha]
    exact zarm_1406 hT hL hL2 hi ht hB4 hI hN
  rw [Bool.or_eq_true] at ha
  rcases ha with ha | ha
  · rw [Nat.eq_of_beq_eq_true ha]
    exact zarm_1419 hT hL hL2 hi ht hB4 hI hN
  rw [Bool.or_eq_true] at ha
  rcases ha with ha | ha
  · rw [Nat.eq_of_beq_eq_true ha]
    exact zarm_1444 hT hL hL2 hi ht hB4 hI hN
  rw [Bool.or_eq_true] at ha
  rcases ha with ha | ha
  · rw [Nat.eq_of_beq_eq_true ha]
    exact zarm_1457 hT hL hL2 hi ht hB4 hI hN
  rw [Bool.or_eq_true] at ha
  rcases ha with ha | ha
  · rw [Nat.eq_of_beq_eq_true ha]
    exact zarm_1482 hT hL hL2 hi ht hB4 hI hN
  rw [Bool.or_eq_true] at ha
  rcases ha with ha | ha
  · rw [Nat.eq_of_beq_eq_true ha]
    exact zarm_1519 hT hL hL2 hi ht hB4 hI hN
  rw [Bool.or_eq_true] at ha
  rcases ha with ha | ha
  · rw [Nat.eq_of_beq_eq_true ha]
    exact zarm_1532 hT hL hL2 hi ht hB4 hI hN
  rw [Bool.or_eq_true] at ha
  rcases ha with ha | ha
  · rw [Nat.eq_of_beq_eq_true ha]
    exact zarm_1545 hT hL hL2 hi ht hB4 hI hN
  rw [Bool.or_eq_true] at ha
  rcases ha with ha | ha
  · rw [Nat.eq_of_beq_eq_true ha]
    exact zarm_1558 hT hL hL2 hi ht hB4 hI hN
  rw [Bool.or_eq_true] at ha
  rcases ha with ha | ha
  · rw [Nat.eq_of_beq_eq_true ha]
    exact zarm_1583 hT hL hL2 hi ht hB4 hI hN
  rw [Bool.or_eq_true] at ha
  rcases ha with ha | ha
  · rw [Nat.eq_of_beq_eq_true ha]
    exact zarm_1632 hT hL hL2 hi ht hB4 hI hN
  rw [Bool.or_eq_true] at ha
  rcases ha with ha | ha
  · rw [Nat.eq_of_beq_eq_true ha]
    exact zarm_1657 hT hL hL2 hi ht hB4 hI hN
  rw [Bool.or_eq_true] at ha
  rcases ha with ha | ha
  · rw [Nat.eq_of_beq_eq_true ha]
    exact zarm_1682 hT hL hL2 hi ht hB4 hI hN
  rw [Nat.eq_of_beq_eq_true ha]
  exact zarm_1707 hT hL hL2 hi ht hB4 hI hN
theorem zhead (hT : zRules T) (hL : zLRules T TL L xs) (hL0 : 0 ≤ L) (hL2 : L ≤ 2560) {t i : Nat} {m : zM} (hi2 : (i : Int) ≤ 2560) (ht : t + 1 ≤ 520) (hB4 : (i : Int) + 5 ≤ L → B + 270 ≤ 400000) (hI : ∃ n k, Inv B sc n k m) (hN : (i : Int) + 5 ≤ L → ∀ m2, (∃ n k, Inv (B + 270) sc n k m2) → TL (t + 1) (23, lo0 ((i : Int) + 5), [], m2)) : TL t (23, lo0 (i : Int), [], m) := by
  refine hL.2.2.2 _ _ _ _ _ (fun hs => ?_)
  refine hL.1 12 t _ (And.intro (fun _ => And.intro (z_b01L rfl) rfl) (fun hng => ?_))
  have hi : (i : Int) + 5 ≤ L := by
    have hng : ¬ wr (m 110 0 - 5) < wr (i : Int) := hng
    rw [hs.1, wr_id (by omega) (by omega), wr_id (by omega) (by omega)] at hng
    omega
  refine And.intro ?_ ?_
  · have := zaix hs.1 hi hL2 (k := 0) (by decide) (by decide)
    rw [Int.add_zero] at this
    exact this
  · refine z_tabA _ _ ?_ ?_
    · intro o ho
      exact zarm hT hL hL2 hi ht (hB4 hi) hI (hN hi) _ (zarm_all (by decide +kernel) ho)
    · show TL t (1735, lo0 (i : Int), [], m)
      exact hL.1 2 t _ (hL.2.2.1 t _ ht (hN hi m (Inv_up (by omega) hI)))
theorem zloop (hT : zRules T) (hL : zLRules T TL L xs) (hL0 : 0 ≤ L) (hL2 : L ≤ 2560) : ∀ (n i t : Nat) (m : zM), L - (i : Int) < (n : Int) → 5 * t ≤ i → (i : Int) ≤ 2560 → (∃ n k, Inv (270 * (t : Int)) sc n k m) → TL t (23, lo0 (i : Int), [], m) := by
  intro n
  induction n with
  | zero =>
    intro i t m hn h5 hi2 hI
    exact zhead hT hL hL0 hL2 hi2 (by omega) (fun h => by omega) hI (fun h => by omega)
  | succ n ih =>
    intro i t m hn h5 hi2 hI
    refine zhead hT hL hL0 hL2 hi2 (by omega) (fun h => by omega) hI (fun h m2 hI2 => ?_)
    have := ih (i + 5) (t + 1) m2 (by omega) (by omega) (by omega) (by
      rw [show 270 * ((t + 1 : Nat) : Int) = 270 * (t : Int) + 270 by omega]
      exact hI2)
    rw [show ((i + 5 : Nat) : Int) = (i : Int) + 5 by omega] at this
    exact this
end ZArms
