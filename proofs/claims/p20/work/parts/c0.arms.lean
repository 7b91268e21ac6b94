/-! The law: its arms. -/
theorem zaix {L : Int} {m : zM} {i : Nat} {k : Int} (hs : m 110 0 = L) (hi : (i : Int) + 5 ≤ L) (hL : L ≤ 2560) (h0 : 0 ≤ k) (h4 : k ≤ 4) : z_ix ((i : Int) + k) (m 110 0) := by
  unfold z_ix
  rw [wr_id (by omega) (by omega), hs]
  omega
theorem zaval {L : Int} {xs : Nat → Int} {m m1 : zM} {i : Nat} {k : Int} (hs : m 110 0 = L ∧ ∀ j : Nat, (j : Int) < L → wr (m 0 j) = xs j) (hs1 : m1 110 0 = L ∧ ∀ j : Nat, (j : Int) < L → wr (m1 0 j) = xs j) (hi : (i : Int) + 5 ≤ L) (hL : L ≤ 2560) (h0 : 0 ≤ k) (h4 : k ≤ 4) : wr (m1 0 (wr ((i : Int) + k)).toNat) = wr (m 0 (wr ((i : Int) + k)).toNat) := by
  rw [wr_id (a := (i : Int) + k) (by omega) (by omega), hs.2 _ (by omega), hs1.2 _ (by omega)]
noncomputable def zmI (k : Nat) : Bool := match mR k with
  | some .int => true
  | some .boolean => true
  | _ => false
theorem z_ansE {k : Nat} {r : Option zA} (hk : zmI k = true) (h : z_ans k r) : ∃ v : Int, r = some (.inl v) ∧ (-2147483648 ≤ v ∧ v ≤ 2147483647) := by
  unfold z_ans at h
  unfold zmI at hk
  split at hk
  · rename_i e
    rw [e] at h
    exact h
  · rename_i e
    rw [e] at h
    exact h
  · cases hk
theorem Inv_up {B B2 : Int} {sc : zSc} {m : zM} (h : B ≤ B2) (hI : ∃ n k, Inv B sc n k m) : ∃ n k, Inv B2 sc n k m := by
  obtain ⟨n, k, hI⟩ := hI
  exact ⟨n, k, hI.up h⟩
theorem z_tabA {w : Int} {pc : Nat} {G : Nat → Prop} {d : Int} : ∀ (os : List Int) (z : Int), (∀ o ∈ os, G ((pc : Int) + o).toNat) → G ((pc : Int) + d).toNat → z_tab w pc G d z os
  | [], z, _, h => h
  | o :: os, z, h, hd => ⟨fun _ => h o List.mem_cons_self, fun _ => z_tabA os (z + 1) (fun q hq => h q (List.mem_cons_of_mem _ hq)) hd⟩
section ZArms
variable {T : Nat → Nat → zG → (Option zA → zM → Prop) → Prop} {TL : Nat → zG → Prop} {L : Int} {xs : Nat → Int} {B : Int} {sc : zSc}
theorem zarm_256 (hT : zRules T) (hL : zLRules T TL L xs) (hL2 : L ≤ 2560) {t i : Nat} {m : zM} (hi : (i : Int) + 5 ≤ L) (ht : t + 1 ≤ 520) (hB4 : B + 270 ≤ 400000) (hI : ∃ n k, Inv B sc n k m) (hN : ∀ m2, (∃ n k, Inv (B + 270) sc n k m2) → TL (t + 1) (23, lo0 ((i : Int) + 5), [], m2)) : TL t (256, lo0 (i : Int), [], m) := by
  refine hL.2.2.2 _ _ _ _ _ (fun hs => ?_)
  refine hL.1 30 t _ (And.intro (zaix hs.1 hi hL2 (k := 1) (by decide) (by decide)) ?_)
  show T 399 112 (0, [(0, zr 1), (1, zi (wr (m 0 (wr ((i : Int) + 1)).toNat)))], [], m) (fun r m1 => z_ans 112 r → TL t (266, lo0 (i : Int), r.toList ++ [], m1))
  refine w_sign hT (wrB _) 397 m sc hI _ ?_
  intro r m1 h ha
  obtain ⟨v, rfl, hv⟩ := z_ansE (k := 112) (by decide +kernel) ha
  refine hL.2.2.2 _ _ _ _ _ (fun hs1 => ?_)
  rw [← zaval hs hs1 hi hL2 (k := 1) (by decide) (by decide)] at h
  refine hL.1 30 t _ (And.intro (zaix hs1.1 hi hL2 (k := 1) (by decide) (by decide)) ?_)
  show T 399 195 (0, [(0, zr 74), (1, zi (wr (m1 0 (wr ((i : Int) + 1)).toNat)))], [], m1) (fun r m2 => z_ans 195 r → TL t (277, lo0 (i : Int), r.toList ++ [], m2))
  refine h 397 _ ?_
  intro r2 m2 hsame hI2 ha2
  obtain ⟨v2, rfl, hv2⟩ := z_ansE (k := 195) (by decide +kernel) ha2
  exact hL.1 4 t _ (hL.2.2.1 t _ ht (hN m2 (Inv_up (by omega) hI2)))
theorem zarm_281 (hT : zRules T) (hL : zLRules T TL L xs) (hL2 : L ≤ 2560) {t i : Nat} {m : zM} (hi : (i : Int) + 5 ≤ L) (ht : t + 1 ≤ 520) (hB4 : B + 270 ≤ 400000) (hI : ∃ n k, Inv B sc n k m) (hN : ∀ m2, (∃ n k, Inv (B + 270) sc n k m2) → TL (t + 1) (23, lo0 ((i : Int) + 5), [], m2)) : TL t (281, lo0 (i : Int), [], m) := by
  refine hL.2.2.2 _ _ _ _ _ (fun hs => ?_)
  refine hL.1 30 t _ (And.intro (zaix hs.1 hi hL2 (k := 1) (by decide) (by decide)) ?_)
  show T 399 113 (0, [(0, zr 1), (1, zi (wr (m 0 (wr ((i : Int) + 1)).toNat)))], [], m) (fun r m1 => z_ans 113 r → TL t (291, lo0 (i : Int), r.toList ++ [], m1))
  refine w_end hT (wrB _) 397 m sc hI _ ?_
  intro r m1 h ha
  obtain ⟨v, rfl, hv⟩ := z_ansE (k := 113) (by decide +kernel) ha
  refine hL.2.2.2 _ _ _ _ _ (fun hs1 => ?_)
  rw [← zaval hs hs1 hi hL2 (k := 1) (by decide) (by decide)] at h
  refine hL.1 30 t _ (And.intro (zaix hs1.1 hi hL2 (k := 1) (by decide) (by decide)) ?_)
  show T 399 196 (0, [(0, zr 74), (1, zi (wr (m1 0 (wr ((i : Int) + 1)).toNat)))], [], m1) (fun r m2 => z_ans 196 r → TL t (302, lo0 (i : Int), r.toList ++ [], m2))
  refine h 397 _ ?_
  intro r2 m2 hsame hI2 ha2
  obtain ⟨v2, rfl, hv2⟩ := z_ansE (k := 196) (by decide +kernel) ha2
  exact hL.1 4 t _ (hL.2.2.1 t _ ht (hN m2 (Inv_up (by omega) hI2)))
theorem zarm_306 (hT : zRules T) (hL : zLRules T TL L xs) (hL2 : L ≤ 2560) {t i : Nat} {m : zM} (hi : (i : Int) + 5 ≤ L) (ht : t + 1 ≤ 520) (hB4 : B + 270 ≤ 400000) (hI : ∃ n k, Inv B sc n k m) (hN : ∀ m2, (∃ n k, Inv (B + 270) sc n k m2) → TL (t + 1) (23, lo0 ((i : Int) + 5), [], m2)) : TL t (306, lo0 (i : Int), [], m) := by
  refine hL.2.2.2 _ _ _ _ _ (fun hs => ?_)
  refine hL.1 30 t _ ?_
  show T 399 114 (0, [(0, zr 1)], [], m) (fun r m1 => z_ans 114 r → TL t (310, lo0 (i : Int), r.toList ++ [], m1))
  refine w_almanac hT  394 m sc hI _ ?_
  intro r m1 h ha
  obtain ⟨v, rfl, hv⟩ := z_ansE (k := 114) (by decide +kernel) ha
  refine hL.2.2.2 _ _ _ _ _ (fun hs1 => ?_)
  refine hL.1 30 t _ ?_
  show T 399 205 (0, [(0, zr 74)], [], m1) (fun r m2 => z_ans 205 r → TL t (315, lo0 (i : Int), r.toList ++ [], m2))
  refine h 396 _ ?_
  intro r2 m2 hsame hI2 ha2
  obtain ⟨v2, rfl, hv2⟩ := z_ansE (k := 205) (by decide +kernel) ha2
  exact hL.1 4 t _ (hL.2.2.1 t _ ht (hN m2 (Inv_up (by omega) hI2)))
theorem zarm_319 (hT : zRules T) (hL : zLRules T TL L xs) (hL2 : L ≤ 2560) {t i : Nat} {m : zM} (hi : (i : Int) + 5 ≤ L) (ht : t + 1 ≤ 520) (hB4 : B + 270 ≤ 400000) (hI : ∃ n k, Inv B sc n k m) (hN : ∀ m2, (∃ n k, Inv (B + 270) sc n k m2) → TL (t + 1) (23, lo0 ((i : Int) + 5), [], m2)) : TL t (319, lo0 (i : Int), [], m) := by
  refine hL.2.2.2 _ _ _ _ _ (fun hs => ?_)
  refine hL.1 30 t _ ?_
  show T 399 115 (0, [(0, zr 1)], [], m) (fun r m1 => z_ans 115 r → TL t (323, lo0 (i : Int), r.toList ++ [], m1))
  refine w_house0 hT  392 m sc hI _ ?_
  intro r m1 h ha
  obtain ⟨v, rfl, hv⟩ := z_ansE (k := 115) (by decide +kernel) ha
  refine hL.2.2.2 _ _ _ _ _ (fun hs1 => ?_)
  refine hL.1 30 t _ ?_
  show T 399 206 (0, [(0, zr 74)], [], m1) (fun r m2 => z_ans 206 r → TL t (328, lo0 (i : Int), r.toList ++ [], m2))
  refine h 392 _ ?_
  intro r2 m2 hsame hI2 ha2
  obtain ⟨v2, rfl, hv2⟩ := z_ansE (k := 206) (by decide +kernel) ha2
  exact hL.1 4 t _ (hL.2.2.1 t _ ht (hN m2 (Inv_up (by omega) hI2)))
theorem zarm_332 (hT : zRules T) (hL : zLRules T TL L xs) (hL2 : L ≤ 2560) {t i : Nat} {m : zM} (hi : (i : Int) + 5 ≤ L) (ht : t + 1 ≤ 520) (hB4 : B + 270 ≤ 400000) (hI : ∃ n k, Inv B sc n k m) (hN : ∀ m2, (∃ n k, Inv (B + 270) sc n k m2) → TL (t + 1) (23, lo0 ((i : Int) + 5), [], m2)) : TL t (332, lo0 (i : Int), [], m) := by
  refine hL.2.2.2 _ _ _ _ _ (fun hs => ?_)
  refine hL.1 30 t _ ?_
  show T 399 116 (0, [(0, zr 1)], [], m) (fun r m1 => z_ans 116 r → TL t (336, lo0 (i : Int), r.toList ++ [], m1))
  refine w_rule hT  361 m sc hI _ ?_
  intro r m1 h ha
  obtain ⟨v, rfl, hv⟩ := z_ansE (k := 116) (by decide +kernel) ha
  refine hL.2.2.2 _ _ _ _ _ (fun hs1 => ?_)
  refine hL.1 30 t _ ?_
  show T 399 212 (0, [(0, zr 74)], [], m1) (fun r m2 => z_ans 212 r → TL t (341, lo0 (i : Int), r.toList ++ [], m2))
  refine h 230 _ ?_
  intro r2 m2 hsame hI2 ha2
  obtain ⟨v2, rfl, hv2⟩ := z_ansE (k := 212) (by decide +kernel) ha2
  exact hL.1 4 t _ (hL.2.2.1 t _ ht (hN m2 (Inv_up (by omega) hI2)))
theorem zarm_345 (hT : zRules T) (hL : zLRules T TL L xs) (hL2 : L ≤ 2560) {t i : Nat} {m : zM} (hi : (i : Int) + 5 ≤ L) (ht : t + 1 ≤ 520) (hB4 : B + 270 ≤ 400000) (hI : ∃ n k, Inv B sc n k m) (hN : ∀ m2, (∃ n k, Inv (B + 270) sc n k m2) → TL (t + 1) (23, lo0 ((i : Int) + 5), [], m2)) : TL t (345, lo0 (i : Int), [], m) := by
  refine hL.2.2.2 _ _ _ _ _ (fun hs => ?_)
  refine hL.1 30 t _ (And.intro (zaix hs.1 hi hL2 (k := 1) (by decide) (by decide)) (And.intro (zaix hs.1 hi hL2 (k := 2) (by decide) (by decide)) (And.intro ht ?_)))
  show zLHlp T TL t 299 [zr 1, zi (m 0 (wr ((i : Int) + 1)).toNat), zi (m 0 (wr ((i : Int) + 2)).toNat), zr 109] (362, lo0 (i : Int), [], m)
  refine Or.inl ⟨_, _, rfl, Or.inl ⟨rfl, ?_⟩⟩
  refine (n_person (B := B) hT (wrB _) (wrB _)).1 392 m sc hI _ ?_
  intro r m1 hr hI1
  have nxt : ∀ (kk : Int) (mm : zM), (∃ n k, Inv B sc n k mm) → TL (t + 1) (362, lo0 (i : Int), [zi kk], mm) := fun kk mm hIm => by
    refine hL.2.2.2 _ _ _ _ _ (fun hs1 => ?_)
    refine hL.1 30 (t + 1) _ (And.intro (zaix hs1.1 hi hL2 (k := 1) (by decide) (by decide)) (And.intro (zaix hs1.1 hi hL2 (k := 2) (by decide) (by decide)) ?_))
    show T 399 218 (0, [(0, zr 74), (1, zi (wr (mm 0 (wr ((i : Int) + 1)).toNat))), (2, zi (wr (mm 0 (wr ((i : Int) + 2)).toNat)))], [], mm) (fun r m1 => z_ans 218 r → TL (t + 1) (380, z_lset (lo0 (i : Int)) 5 (zi kk), r.toList ++ [], m1))
    refine (n_person (B := B) hT (wrB _) (wrB _)).2 227 mm sc hIm _ ?_
    intro r2 m2 hI2 ha2
    obtain ⟨v2, rfl, hv2⟩ := z_ansE (k := 218) (by decide +kernel) ha2
    exact hL.1 4 (t + 1) _ (hL.2.1 [0, 1, 2, 3, 4] _ _ _ _ _ (hN m2 (Inv_up (by omega) hI2)))
  exact ⟨fun _ => nxt 1 m1 hI1, fun v _ _ => nxt 0 _ (Inv_109 hI1)⟩
theorem zarm_385 (hT : zRules T) (hL : zLRules T TL L xs) (hL2 : L ≤ 2560) {t i : Nat} {m : zM} (hi : (i : Int) + 5 ≤ L) (ht : t + 1 ≤ 520) (hB4 : B + 270 ≤ 400000) (hI : ∃ n k, Inv B sc n k m) (hN : ∀ m2, (∃ n k, Inv (B + 270) sc n k m2) → TL (t + 1) (23, lo0 ((i : Int) + 5), [], m2)) : TL t (385, lo0 (i : Int), [], m) := by
  refine hL.2.2.2 _ _ _ _ _ (fun hs => ?_)
  refine hL.1 30 t _ (And.intro (zaix hs.1 hi hL2 (k := 1) (by decide) (by decide)) (And.intro (zaix hs.1 hi hL2 (k := 2) (by decide) (by decide)) (And.intro ht ?_)))
  show zLHlp T TL t 300 [zr 1, zi (m 0 (wr ((i : Int) + 1)).toNat), zi (m 0 (wr ((i : Int) + 2)).toNat), zr 109] (402, lo0 (i : Int), [], m)
  refine Or.inl ⟨_, _, rfl, Or.inr ⟨rfl, ?_⟩⟩
  refine (n_cloth (B := B) hT (wrB _) (wrB _)).1 395 m sc hI _ ?_
  intro r m1 hr hI1
  have nxt : ∀ (kk : Int) (mm : zM), (∃ n k, Inv B sc n k mm) → TL (t + 1) (402, lo0 (i : Int), [zi kk], mm) := fun kk mm hIm => by
    refine hL.2.2.2 _ _ _ _ _ (fun hs1 => ?_)
    refine hL.1 30 (t + 1) _ (And.intro (zaix hs1.1 hi hL2 (k := 1) (by decide) (by decide)) (And.intro (zaix hs1.1 hi hL2 (k := 2) (by decide) (by decide)) ?_))
    show T 399 219 (0, [(0, zr 74), (1, zi (wr (mm 0 (wr ((i : Int) + 1)).toNat))), (2, zi (wr (mm 0 (wr ((i : Int) + 2)).toNat)))], [], mm) (fun r m1 => z_ans 219 r → TL (t + 1) (420, z_lset (lo0 (i : Int)) 5 (zi kk), r.toList ++ [], m1))
    refine (n_cloth (B := B) hT (wrB _) (wrB _)).2 396 mm sc hIm _ ?_
    intro r2 m2 hI2 ha2
    obtain ⟨v2, rfl, hv2⟩ := z_ansE (k := 219) (by decide +kernel) ha2
    exact hL.1 4 (t + 1) _ (hL.2.1 [0, 1, 2, 3, 4] _ _ _ _ _ (hN m2 (Inv_up (by omega) hI2)))
  exact ⟨fun _ => nxt 1 m1 hI1, fun v _ _ => nxt 0 _ (Inv_109 hI1)⟩
theorem zarm_425 (hT : zRules T) (hL : zLRules T TL L xs) (hL2 : L ≤ 2560) {t i : Nat} {m : zM} (hi : (i : Int) + 5 ≤ L) (ht : t + 1 ≤ 520) (hB4 : B + 270 ≤ 400000) (hI : ∃ n k, Inv B sc n k m) (hN : ∀ m2, (∃ n k, Inv (B + 270) sc n k m2) → TL (t + 1) (23, lo0 ((i : Int) + 5), [], m2)) : TL t (425, lo0 (i : Int), [], m) := by
  refine hL.2.2.2 _ _ _ _ _ (fun hs => ?_)
  refine hL.1 30 t _ (And.intro (zaix hs.1 hi hL2 (k := 1) (by decide) (by decide)) (And.intro (zaix hs.1 hi hL2 (k := 2) (by decide) (by decide)) ?_))
  show T 399 119 (0, [(0, zr 1), (1, zi (wr (m 0 (wr ((i : Int) + 1)).toNat))), (2, zi (wr (m 0 (wr ((i : Int) + 2)).toNat)))], [], m) (fun r m1 => z_ans 119 r → TL t (441, lo0 (i : Int), r.toList ++ [], m1))
  refine w_light hT (wrB _) (wrB _) 397 m sc hI _ ?_
  intro r m1 h ha
  obtain ⟨v, rfl, hv⟩ := z_ansE (k := 119) (by decide +kernel) ha
  refine hL.2.2.2 _ _ _ _ _ (fun hs1 => ?_)
  rw [← zaval hs hs1 hi hL2 (k := 1) (by decide) (by decide)] at h
  rw [← zaval hs hs1 hi hL2 (k := 2) (by decide) (by decide)] at h
  refine hL.1 30 t _ (And.intro (zaix hs1.1 hi hL2 (k := 1) (by decide) (by decide)) (And.intro (zaix hs1.1 hi hL2 (k := 2) (by decide) (by decide)) ?_))
  show T 399 220 (0, [(0, zr 74), (1, zi (wr (m1 0 (wr ((i : Int) + 1)).toNat))), (2, zi (wr (m1 0 (wr ((i : Int) + 2)).toNat)))], [], m1) (fun r m2 => z_ans 220 r → TL t (458, lo0 (i : Int), r.toList ++ [], m2))
  refine h 397 _ ?_
  intro r2 m2 hsame hI2 ha2
  obtain ⟨v2, rfl, hv2⟩ := z_ansE (k := 220) (by decide +kernel) ha2
  exact hL.1 4 t _ (hL.2.2.1 t _ ht (hN m2 (Inv_up (by omega) hI2)))
theorem zarm_462 (hT : zRules T) (hL : zLRules T TL L xs) (hL2 : L ≤ 2560) {t i : Nat} {m : zM} (hi : (i : Int) + 5 ≤ L) (ht : t + 1 ≤ 520) (hB4 : B + 270 ≤ 400000) (hI : ∃ n k, Inv B sc n k m) (hN : ∀ m2, (∃ n k, Inv (B + 270) sc n k m2) → TL (t + 1) (23, lo0 ((i : Int) + 5), [], m2)) : TL t (462, lo0 (i : Int), [], m) := by
  refine hL.2.2.2 _ _ _ _ _ (fun hs => ?_)
  refine hL.1 30 t _ (And.intro (zaix hs.1 hi hL2 (k := 1) (by decide) (by decide)) (And.intro (zaix hs.1 hi hL2 (k := 2) (by decide) (by decide)) (And.intro (zaix hs.1 hi hL2 (k := 3) (by decide) (by decide)) ?_)))
  show T 399 120 (0, [(0, zr 1), (1, zi (wr (m 0 (wr ((i : Int) + 1)).toNat))), (2, zi (wr (m 0 (wr ((i : Int) + 2)).toNat))), (3, zi (wr (m 0 (wr ((i : Int) + 3)).toNat)))], [], m) (fun r m1 => z_ans 120 r → TL t (484, lo0 (i : Int), r.toList ++ [], m1))
  refine w_law hT (wrB _) (wrB _) (wrB _) 394 m sc hI _ ?_
  intro r m1 h ha
  obtain ⟨v, rfl, hv⟩ := z_ansE (k := 120) (by decide +kernel) ha
  refine hL.2.2.2 _ _ _ _ _ (fun hs1 => ?_)
  rw [← zaval hs hs1 hi hL2 (k := 1) (by decide) (by decide)] at h
  rw [← zaval hs hs1 hi hL2 (k := 2) (by decide) (by decide)] at h
  rw [← zaval hs hs1 hi hL2 (k := 3) (by decide) (by decide)] at h
  refine hL.1 30 t _ (And.intro (zaix hs1.1 hi hL2 (k := 1) (by decide) (by decide)) (And.intro (zaix hs1.1 hi hL2 (k := 2) (by decide) (by decide)) (And.intro (zaix hs1.1 hi hL2 (k := 3) (by decide) (by decide)) ?_)))
  show T 399 221 (0, [(0, zr 74), (1, zi (wr (m1 0 (wr ((i : Int) + 1)).toNat))), (2, zi (wr (m1 0 (wr ((i : Int) + 2)).toNat))), (3, zi (wr (m1 0 (wr ((i : Int) + 3)).toNat)))], [], m1) (fun r m2 => z_ans 221 r → TL t (507, lo0 (i : Int), r.toList ++ [], m2))
  refine h 228 _ ?_
  intro r2 m2 hsame hI2 ha2
  obtain ⟨v2, rfl, hv2⟩ := z_ansE (k := 221) (by decide +kernel) ha2
  exact hL.1 4 t _ (hL.2.2.1 t _ ht (hN m2 (Inv_up (by omega) hI2)))
theorem zarm_511 (hT : zRules T) (hL : zLRules T TL L xs) (hL2 : L ≤ 2560) {t i : Nat} {m : zM} (hi : (i : Int) + 5 ≤ L) (ht : t + 1 ≤ 520) (hB4 : B + 270 ≤ 400000) (hI : ∃ n k, Inv B sc n k m) (hN : ∀ m2, (∃ n k, Inv (B + 270) sc n k m2) → TL (t + 1) (23, lo0 ((i : Int) + 5), [], m2)) : TL t (511, lo0 (i : Int), [], m) := by
  refine hL.2.2.2 _ _ _ _ _ (fun hs => ?_)
  refine hL.1 30 t _ (And.intro (zaix hs.1 hi hL2 (k := 1) (by decide) (by decide)) (And.intro (zaix hs.1 hi hL2 (k := 2) (by decide) (by decide)) ?_))
  show T 399 121 (0, [(0, zr 1), (1, zi (wr (m 0 (wr ((i : Int) + 1)).toNat))), (2, zi (wr (m 0 (wr ((i : Int) + 2)).toNat)))], [], m) (fun r m1 => z_ans 121 r → TL t (527, lo0 (i : Int), r.toList ++ [], m1))
  refine w_set hT (wrB _) (wrB _) 397 m sc hI _ ?_
  intro r m1 h ha
  obtain ⟨v, rfl, hv⟩ := z_ansE (k := 121) (by decide +kernel) ha
  refine hL.2.2.2 _ _ _ _ _ (fun hs1 => ?_)
  rw [← zaval hs hs1 hi hL2 (k := 1) (by decide) (by decide)] at h
  rw [← zaval hs hs1 hi hL2 (k := 2) (by decide) (by decide)] at h
  refine hL.1 30 t _ (And.intro (zaix hs1.1 hi hL2 (k := 1) (by decide) (by decide)) (And.intro (zaix hs1.1 hi hL2 (k := 2) (by decide) (by decide)) ?_))
  show T 399 222 (0, [(0, zr 74), (1, zi (wr (m1 0 (wr ((i : Int) + 1)).toNat))), (2, zi (wr (m1 0 (wr ((i : Int) + 2)).toNat)))], [], m1) (fun r m2 => z_ans 222 r → TL t (544, lo0 (i : Int), r.toList ++ [], m2))
  refine h 397 _ ?_
  intro r2 m2 hsame hI2 ha2
  obtain ⟨v2, rfl, hv2⟩ := z_ansE (k := 222) (by decide +kernel) ha2
  exact hL.1 4 t _ (hL.2.2.1 t _ ht (hN m2 (Inv_up (by omega) hI2)))
theorem zarm_548 (hT : zRules T) (hL : zLRules T TL L xs) (hL2 : L ≤ 2560) {t i : Nat} {m : zM} (hi : (i : Int) + 5 ≤ L) (ht : t + 1 ≤ 520) (hB4 : B + 270 ≤ 400000) (hI : ∃ n k, Inv B sc n k m) (hN : ∀ m2, (∃ n k, Inv (B + 270) sc n k m2) → TL (t + 1) (23, lo0 ((i : Int) + 5), [], m2)) : TL t (548, lo0 (i : Int), [], m) := by
  refine hL.2.2.2 _ _ _ _ _ (fun hs => ?_)
  refine hL.1 30 t _ (And.intro (zaix hs.1 hi hL2 (k := 1) (by decide) (by decide)) (And.intro (zaix hs.1 hi hL2 (k := 2) (by decide) (by decide)) (And.intro (zaix hs.1 hi hL2 (k := 3) (by decide) (by decide)) (And.intro (zaix hs.1 hi hL2 (k := 4) (by decide) (by decide)) ?_))))
  show T 399 122 (0, [(0, zr 1), (1, zi (wr (m 0 (wr ((i : Int) + 1)).toNat))), (2, zi (wr (m 0 (wr ((i : Int) + 2)).toNat))), (3, zi (wr (m 0 (wr ((i : Int) + 3)).toNat))), (4, zi (wr (m 0 (wr ((i : Int) + 4)).toNat)))], [], m) (fun r m1 => z_ans 122 r → TL t (576, lo0 (i : Int), r.toList ++ [], m1))
  refine w_sheet hT (wrB _) (wrB _) (wrB _) (wrB _) 396 m sc hI _ ?_
  intro r m1 h ha
  obtain ⟨v, rfl, hv⟩ := z_ansE (k := 122) (by decide +kernel) ha
  refine hL.2.2.2 _ _ _ _ _ (fun hs1 => ?_)
  rw [← zaval hs hs1 hi hL2 (k := 1) (by decide) (by decide)] at h
  rw [← zaval hs hs1 hi hL2 (k := 2) (by decide) (by decide)] at h
  rw [← zaval hs hs1 hi hL2 (k := 3) (by decide) (by decide)] at h
  rw [← zaval hs hs1 hi hL2 (k := 4) (by decide) (by decide)] at h
  refine hL.1 30 t _ (And.intro (zaix hs1.1 hi hL2 (k := 1) (by decide) (by decide)) (And.intro (zaix hs1.1 hi hL2 (k := 2) (by decide) (by decide)) (And.intro (zaix hs1.1 hi hL2 (k := 3) (by decide) (by decide)) (And.intro (zaix hs1.1 hi hL2 (k := 4) (by decide) (by decide)) ?_))))
  show T 399 223 (0, [(0, zr 74), (1, zi (wr (m1 0 (wr ((i : Int) + 1)).toNat))), (2, zi (wr (m1 0 (wr ((i : Int) + 2)).toNat))), (3, zi (wr (m1 0 (wr ((i : Int) + 3)).toNat))), (4, zi (wr (m1 0 (wr ((i : Int) + 4)).toNat)))], [], m1) (fun r m2 => z_ans 223 r → TL t (605, lo0 (i : Int), r.toList ++ [], m2))
  refine h 397 _ ?_
  intro r2 m2 hsame hI2 ha2
  obtain ⟨v2, rfl, hv2⟩ := z_ansE (k := 223) (by decide +kernel) ha2
  exact hL.1 4 t _ (hL.2.2.1 t _ ht (hN m2 (Inv_up (by omega) hI2)))
theorem zarm_609 (hT : zRules T) (hL : zLRules T TL L xs) (hL2 : L ≤ 2560) {t i : Nat} {m : zM} (hi : (i : Int) + 5 ≤ L) (ht : t + 1 ≤ 520) (hB4 : B + 270 ≤ 400000) (hI : ∃ n k, Inv B sc n k m) (hN : ∀ m2, (∃ n k, Inv (B + 270) sc n k m2) → TL (t + 1) (23, lo0 ((i : Int) + 5), [], m2)) : TL t (609, lo0 (i : Int), [], m) := by
  refine hL.2.2.2 _ _ _ _ _ (fun hs => ?_)
  refine hL.1 30 t _ (And.intro (zaix hs.1 hi hL2 (k := 1) (by decide) (by decide)) (And.intro (zaix hs.1 hi hL2 (k := 2) (by decide) (by decide)) ?_))
  show T 399 123 (0, [(0, zr 1), (1, zi (wr (m 0 (wr ((i : Int) + 1)).toNat))), (2, zi (wr (m 0 (wr ((i : Int) + 2)).toNat)))], [], m) (fun r m1 => z_ans 123 r → TL t (625, lo0 (i : Int), r.toList ++ [], m1))
  refine w_wear hT (wrB _) (wrB _) 395 m sc hI _ ?_
  intro r m1 h ha
  obtain ⟨v, rfl, hv⟩ := z_ansE (k := 123) (by decide +kernel) ha
  refine hL.2.2.2 _ _ _ _ _ (fun hs1 => ?_)
  rw [← zaval hs hs1 hi hL2 (k := 1) (by decide) (by decide)] at h
  rw [← zaval hs hs1 hi hL2 (k := 2) (by decide) (by decide)] at h
  refine hL.1 30 t _ (And.intro (zaix hs1.1 hi hL2 (k := 1) (by decide) (by decide)) (And.intro (zaix hs1.1 hi hL2 (k := 2) (by decide) (by decide)) ?_))
  show T 399 231 (0, [(0, zr 74), (1, zi (wr (m1 0 (wr ((i : Int) + 1)).toNat))), (2, zi (wr (m1 0 (wr ((i : Int) + 2)).toNat)))], [], m1) (fun r m2 => z_ans 231 r → TL t (642, lo0 (i : Int), r.toList ++ [], m2))
  refine h 395 _ ?_
  intro r2 m2 hsame hI2 ha2
  obtain ⟨v2, rfl, hv2⟩ := z_ansE (k := 231) (by decide +kernel) ha2
  exact hL.1 4 t _ (hL.2.2.1 t _ ht (hN m2 (Inv_up (by omega) hI2)))
theorem zarm_646 (hT : zRules T) (hL : zLRules T TL L xs) (hL2 : L ≤ 2560) {t i : Nat} {m : zM} (hi : (i : Int) + 5 ≤ L) (ht : t + 1 ≤ 520) (hB4 : B + 270 ≤ 400000) (hI : ∃ n k, Inv B sc n k m) (hN : ∀ m2, (∃ n k, Inv (B + 270) sc n k m2) → TL (t + 1) (23, lo0 ((i : Int) + 5), [], m2)) : TL t (646, lo0 (i : Int), [], m) := by
  refine hL.2.2.2 _ _ _ _ _ (fun hs => ?_)
  refine hL.1 30 t _ (And.intro (zaix hs.1 hi hL2 (k := 1) (by decide) (by decide)) (And.intro (zaix hs.1 hi hL2 (k := 2) (by decide) (by decide)) ?_))
  show T 399 124 (0, [(0, zr 1), (1, zi (wr (m 0 (wr ((i : Int) + 1)).toNat))), (2, zi (wr (m 0 (wr ((i : Int) + 2)).toNat)))], [], m) (fun r m1 => z_ans 124 r → TL t (662, lo0 (i : Int), r.toList ++ [], m1))
  refine w_go hT (wrB _) (wrB _) 395 m sc hI _ ?_
  intro r m1 h ha
  obtain ⟨v, rfl, hv⟩ := z_ansE (k := 124) (by decide +kernel) ha
  refine hL.2.2.2 _ _ _ _ _ (fun hs1 => ?_)
  rw [← zaval hs hs1 hi hL2 (k := 1) (by decide) (by decide)] at h
  rw [← zaval hs hs1 hi hL2 (k := 2) (by decide) (by decide)] at h
  refine hL.1 30 t _ (And.intro (zaix hs1.1 hi hL2 (k := 1) (by decide) (by decide)) (And.intro (zaix hs1.1 hi hL2 (k := 2) (by decide) (by decide)) ?_))
  show T 399 232 (0, [(0, zr 74), (1, zi (wr (m1 0 (wr ((i : Int) + 1)).toNat))), (2, zi (wr (m1 0 (wr ((i : Int) + 2)).toNat)))], [], m1) (fun r m2 => z_ans 232 r → TL t (679, lo0 (i : Int), r.toList ++ [], m2))
  refine h 396 _ ?_
  intro r2 m2 hsame hI2 ha2
  obtain ⟨v2, rfl, hv2⟩ := z_ansE (k := 232) (by decide +kernel) ha2
  exact hL.1 4 t _ (hL.2.2.1 t _ ht (hN m2 (Inv_up (by omega) hI2)))
theorem zarm_683 (hT : zRules T) (hL : zLRules T TL L xs) (hL2 : L ≤ 2560) {t i : Nat} {m : zM} (hi : (i : Int) + 5 ≤ L) (ht : t + 1 ≤ 520) (hB4 : B + 270 ≤ 400000) (hI : ∃ n k, Inv B sc n k m) (hN : ∀ m2, (∃ n k, Inv (B + 270) sc n k m2) → TL (t + 1) (23, lo0 ((i : Int) + 5), [], m2)) : TL t (683, lo0 (i : Int), [], m) := by
  refine hL.2.2.2 _ _ _ _ _ (fun hs => ?_)
  refine hL.1 30 t _ (And.intro (zaix hs.1 hi hL2 (k := 1) (by decide) (by decide)) (And.intro (zaix hs.1 hi hL2 (k := 2) (by decide) (by decide)) ?_))
  show T 399 125 (0, [(0, zr 1), (1, zi (wr (m 0 (wr ((i : Int) + 1)).toNat))), (2, zi (wr (m 0 (wr ((i : Int) + 2)).toNat)))], [], m) (fun r m1 => z_ans 125 r → TL t (699, lo0 (i : Int), r.toList ++ [], m1))
  refine w_make hT (wrB _) (wrB _) 395 m sc hI _ ?_
  intro r m1 h ha
  obtain ⟨v, rfl, hv⟩ := z_ansE (k := 125) (by decide +kernel) ha
  refine hL.2.2.2 _ _ _ _ _ (fun hs1 => ?_)
  rw [← zaval hs hs1 hi hL2 (k := 1) (by decide) (by decide)] at h
  rw [← zaval hs hs1 hi hL2 (k := 2) (by decide) (by decide)] at h
  refine hL.1 30 t _ (And.intro (zaix hs1.1 hi hL2 (k := 1) (by decide) (by decide)) (And.intro (zaix hs1.1 hi hL2 (k := 2) (by decide) (by decide)) ?_))
  show T 399 234 (0, [(0, zr 74), (1, zi (wr (m1 0 (wr ((i : Int) + 1)).toNat))), (2, zi (wr (m1 0 (wr ((i : Int) + 2)).toNat)))], [], m1) (fun r m2 => z_ans 234 r → TL t (716, lo0 (i : Int), r.toList ++ [], m2))
  refine h 396 _ ?_
  intro r2 m2 hsame hI2 ha2
  obtain ⟨v2, rfl, hv2⟩ := z_ansE (k := 234) (by decide +kernel) ha2
  exact hL.1 4 t _ (hL.2.2.1 t _ ht (hN m2 (Inv_up (by omega) hI2)))
theorem zarm_720 (hT : zRules T) (hL : zLRules T TL L xs) (hL2 : L ≤ 2560) {t i : Nat} {m : zM} (hi : (i : Int) + 5 ≤ L) (ht : t + 1 ≤ 520) (hB4 : B + 270 ≤ 400000) (hI : ∃ n k, Inv B sc n k m) (hN : ∀ m2, (∃ n k, Inv (B + 270) sc n k m2) → TL (t + 1) (23, lo0 ((i : Int) + 5), [], m2)) : TL t (720, lo0 (i : Int), [], m) := by
  refine hL.2.2.2 _ _ _ _ _ (fun hs => ?_)
  refine hL.1 30 t _ ?_
  show T 399 126 (0, [(0, zr 1)], [], m) (fun r m1 => z_ans 126 r → TL t (724, lo0 (i : Int), r.toList ++ [], m1))
  refine w_week hT (by omega)  392 m sc hI _ ?_
  intro r m1 h ha
  obtain ⟨v, rfl, hv⟩ := z_ansE (k := 126) (by decide +kernel) ha
  refine hL.2.2.2 _ _ _ _ _ (fun hs1 => ?_)
  refine hL.1 30 t _ ?_
  show T 399 236 (0, [(0, zr 74)], [], m1) (fun r m2 => z_ans 236 r → TL t (729, lo0 (i : Int), r.toList ++ [], m2))
  refine h 226 _ ?_
  intro r2 m2 hsame hI2 ha2
  obtain ⟨v2, rfl, hv2⟩ := z_ansE (k := 236) (by decide +kernel) ha2
  exact hL.1 4 t _ (hL.2.2.1 t _ ht (hN m2 (Inv_up (by omega) hI2)))
theorem zarm_733 (hT : zRules T) (hL : zLRules T TL L xs) (hL2 : L ≤ 2560) {t i : Nat} {m : zM} (hi : (i : Int) + 5 ≤ L) (ht : t + 1 ≤ 520) (hB4 : B + 270 ≤ 400000) (hI : ∃ n k, Inv B sc n k m) (hN : ∀ m2, (∃ n k, Inv (B + 270) sc n k m2) → TL (t + 1) (23, lo0 ((i : Int) + 5), [], m2)) : TL t (733, lo0 (i : Int), [], m) := by
  refine hL.2.2.2 _ _ _ _ _ (fun hs => ?_)
  refine hL.1 30 t _ (And.intro (zaix hs.1 hi hL2 (k := 1) (by decide) (by decide)) ?_)
  show T 399 127 (0, [(0, zr 1), (1, zi (wr (m 0 (wr ((i : Int) + 1)).toNat)))], [], m) (fun r m1 => z_ans 127 r → TL t (743, lo0 (i : Int), r.toList ++ [], m1))
  refine w_weeks hT (by omega) (wrB _) 392 m sc hI _ ?_
  intro r m1 h ha
  obtain ⟨v, rfl, hv⟩ := z_ansE (k := 127) (by decide +kernel) ha
  refine hL.2.2.2 _ _ _ _ _ (fun hs1 => ?_)
  rw [← zaval hs hs1 hi hL2 (k := 1) (by decide) (by decide)] at h
  refine hL.1 30 t _ (And.intro (zaix hs1.1 hi hL2 (k := 1) (by decide) (by decide)) ?_)
  show T 399 237 (0, [(0, zr 74), (1, zi (wr (m1 0 (wr ((i : Int) + 1)).toNat)))], [], m1) (fun r m2 => z_ans 237 r → TL t (754, lo0 (i : Int), r.toList ++ [], m2))
  refine h 227 _ ?_
  intro r2 m2 hsame hI2 ha2
  obtain ⟨v2, rfl, hv2⟩ := z_ansE (k := 237) (by decide +kernel) ha2
  exact hL.1 4 t _ (hL.2.2.1 t _ ht (hN m2 (Inv_up (by omega) hI2)))
theorem zarm_758 (hT : zRules T) (hL : zLRules T TL L xs) (hL2 : L ≤ 2560) {t i : Nat} {m : zM} (hi : (i : Int) + 5 ≤ L) (ht : t + 1 ≤ 520) (hB4 : B + 270 ≤ 400000) (hI : ∃ n k, Inv B sc n k m) (hN : ∀ m2, (∃ n k, Inv (B + 270) sc n k m2) → TL (t + 1) (23, lo0 ((i : Int) + 5), [], m2)) : TL t (758, lo0 (i : Int), [], m) := by
  refine hL.2.2.2 _ _ _ _ _ (fun hs => ?_)
  refine hL.1 30 t _ ?_
  show T 399 128 (0, [(0, zr 1)], [], m) (fun r m1 => z_ans 128 r → TL t (762, lo0 (i : Int), r.toList ++ [], m1))
  refine w_year hT (by omega)  392 m sc hI _ ?_
  intro r m1 h ha
  obtain ⟨v, rfl, hv⟩ := z_ansE (k := 128) (by decide +kernel) ha
  refine hL.2.2.2 _ _ _ _ _ (fun hs1 => ?_)
  refine hL.1 30 t _ ?_
  show T 399 238 (0, [(0, zr 74)], [], m1) (fun r m2 => z_ans 238 r → TL t (767, lo0 (i : Int), r.toList ++ [], m2))
  refine h 226 _ ?_
  intro r2 m2 hsame hI2 ha2
  obtain ⟨v2, rfl, hv2⟩ := z_ansE (k := 238) (by decide +kernel) ha2
  exact hL.1 4 t _ (hL.2.2.1 t _ ht (hN m2 (Inv_up (by omega) hI2)))
theorem zarm_771 (hT : zRules T) (hL : zLRules T TL L xs) (hL2 : L ≤ 2560) {t i : Nat} {m : zM} (hi : (i : Int) + 5 ≤ L) (ht : t + 1 ≤ 520) (hB4 : B + 270 ≤ 400000) (hI : ∃ n k, Inv B sc n k m) (hN : ∀ m2, (∃ n k, Inv (B + 270) sc n k m2) → TL (t + 1) (23, lo0 ((i : Int) + 5), [], m2)) : TL t (771, lo0 (i : Int), [], m) := by
  refine hL.2.2.2 _ _ _ _ _ (fun hs => ?_)
  refine hL.1 30 t _ ?_
  show T 399 129 (0, [(0, zr 1)], [], m) (fun r m1 => z_ans 129 r → TL t (775, lo0 (i : Int), r.toList ++ [], m1))
  refine w_undo hT  396 m sc hI _ ?_
  intro r m1 h ha
  obtain ⟨v, rfl, hv⟩ := z_ansE (k := 129) (by decide +kernel) ha
  refine hL.2.2.2 _ _ _ _ _ (fun hs1 => ?_)
  refine hL.1 30 t _ ?_
  show T 399 241 (0, [(0, zr 74)], [], m1) (fun r m2 => z_ans 241 r → TL t (780, lo0 (i : Int), r.toList ++ [], m2))
  refine h 398 _ ?_
  intro r2 m2 hsame hI2 ha2
  obtain ⟨v2, rfl, hv2⟩ := z_ansE (k := 241) (by decide +kernel) ha2
  exact hL.1 4 t _ (hL.2.2.1 t _ ht (hN m2 (Inv_up (by omega) hI2)))
theorem z_lc0 (a : Int) : z_lc a a = 0 := by
  unfold z_lc
  rw [if_neg (Int.lt_irrefl _), if_pos rfl]
theorem z_thrown (hT : zRules T) {κ : Option zA → zM → Prop} {m : zM} (h : κ (some (zi (wr (m 74 12)))) m) : T 399 298 (0, [(0, zr 74)], [], m) κ := hT.1 [] 6 399 298 _ κ h
theorem zxt (hT : zRules T) (hL : zLRules T TL L xs) {t i : Nat} {m2 : zM} {kk v2 : Int} (h12 : m2 74 12 = kk) (hk : kk = 1 ∨ (kk = 0 ∧ m2 109 0 = v2)) (hv2 : -2147483648 ≤ v2 ∧ v2 ≤ 2147483647) (hfin : TL (t + 1) (23, lo0 ((i : Int) + 5), [], m2)) : TL (t + 1) (807, z_lset (lo0 (i : Int)) 5 (zi kk), [zi v2], m2) := by
  have fin : TL (t + 1) (837, z_lset (z_lset (lo0 (i : Int)) 5 (zi kk)) 6 (zi v2), [], m2) := hL.1 3 (t + 1) _ (hL.2.1 [0, 1, 2, 3, 4] _ _ _ _ _ hfin)
  refine hL.1 30 (t + 1) _ ?_
  show T 399 298 (0, [(0, zr 74)], [], m2) (fun r m1 => z_ans 298 r → TL (t + 1) (813, z_lset (z_lset (lo0 (i : Int)) 5 (zi kk)) 6 (zi v2), r.toList ++ [], m1))
  refine z_thrown hT (fun _ => ?_)
  have eth : wr (wr (m2 74 12)) = wr kk := by
    rw [h12, wr_id (a := wr kk) (wrB kk).1 (wrB kk).2]
  refine hL.1 2 (t + 1) _ (And.intro (fun _ => ?_) (fun hne => absurd eth hne))
  refine hL.1 2 (t + 1) _ (And.intro (fun _ => fin) (fun hz => ?_))
  have hz : ¬ ¬ wr kk = 0 := hz
  refine hL.1 7 (t + 1) _ (And.intro (z_ixL rfl) (And.intro (fun _ => fin) (fun hne => absurd ?_ hne)))
  show wr (z_lc (m2 109 0) (wr v2)) = 0
  rcases hk with rfl | ⟨rfl, h9⟩
  · exact absurd (by decide) hz
  · rw [h9, wr_id (a := v2) hv2.1 hv2.2, z_lc0]
    rfl
theorem zarm_784 (hT : zRules T) (hL : zLRules T TL L xs) (hL2 : L ≤ 2560) {t i : Nat} {m : zM} (hi : (i : Int) + 5 ≤ L) (ht : t + 1 ≤ 520) (hB4 : B + 270 ≤ 400000) (hI : ∃ n k, Inv B sc n k m) (hN : ∀ m2, (∃ n k, Inv (B + 270) sc n k m2) → TL (t + 1) (23, lo0 ((i : Int) + 5), [], m2)) : TL t (784, lo0 (i : Int), [], m) := by
  refine hL.2.2.2 _ _ _ _ _ (fun hs => ?_)
  refine hL.1 30 t _ (And.intro (zaix hs.1 hi hL2 (k := 1) (by decide) (by decide)) (And.intro ht ?_))
  show zLHlp T TL t 301 [zr 1, zi (m 0 (wr ((i : Int) + 1)).toNat), zr 109] (795, lo0 (i : Int), [], m)
  refine Or.inr ⟨_, rfl, Or.inl ⟨rfl, ?_⟩⟩
  obtain ⟨n, k, hI⟩ := hI
  refine xc_piece hT (wrB _) hI 396 _ (fun m1 hB1 hF1 => ?_)
  have nxt : ∀ (kk : Int) (mm : zM), Inv B sc n k mm → pvI mm (wr (m 0 (wr ((i : Int) + 1)).toNat)) = pvI m (wr (m 0 (wr ((i : Int) + 1)).toNat)) → ((kk = 1 ∧ pvI m (wr (m 0 (wr ((i : Int) + 1)).toNat)) = none) ∨ (kk = 0 ∧ pvI m (wr (m 0 (wr ((i : Int) + 1)).toNat)) = some (mm 109 0))) → TL (t + 1) (795, lo0 (i : Int), [zi kk], mm) := fun kk mm hIm hpv hk => by
    refine hL.2.2.2 _ _ _ _ _ (fun hs1 => ?_)
    refine hL.1 30 (t + 1) _ (And.intro (zaix hs1.1 hi hL2 (k := 1) (by decide) (by decide)) ?_)
    show T 399 242 (0, [(0, zr 74), (1, zi (wr (mm 0 (wr ((i : Int) + 1)).toNat)))], [], mm) (fun r m1 => z_ans 242 r → TL (t + 1) (807, z_lset (lo0 (i : Int)) 5 (zi kk), r.toList ++ [], m1))
    rw [zaval hs hs1 hi hL2 (k := 1) (by decide) (by decide)]
    refine xr_piece hT (wrB _) hIm 397 _ (fun r2 m2 hr2 h109 hI2 ha2 => ?_)
    obtain ⟨v2, rfl, hv2⟩ := z_ansE (k := 242) (by decide +kernel) ha2
    rw [hpv] at hr2
    have fin := hN m2 (Inv_up (by omega) hI2)
    rcases hr2 with ⟨e1, e2⟩ | ⟨v, e1, e2, e3⟩
    · rcases hk with ⟨rfl, -⟩ | ⟨-, e4⟩
      · exact zxt hT hL e2 (Or.inl rfl) hv2 fin
      · rw [e1] at e4
        cases e4
    · rcases hk with ⟨-, e4⟩ | ⟨rfl, e4⟩
      · rw [e1] at e4
        cases e4
      · have ev : v2 = v := Sum.inl.inj (Option.some.inj e2)
        refine zxt hT hL e3 (Or.inr ⟨rfl, ?_⟩) hv2 fin
        rw [h109, ev]
        exact (Option.some.inj (e1.symm.trans e4)).symm
  have e13 := pvI_fr (m := m) (N := m1) (p := wr (m 0 (wr ((i : Int) + 1)).toNat)) (xfr13 hF1)
  refine ⟨fun hr => nxt 1 m1 (xInv13 hI hB1 hF1) e13 (Or.inl ⟨rfl, ?_⟩), fun v hr hv => nxt 0 _ (xInv109 hI hB1 hF1) (pvI_fr (xfr109 hF1)) (Or.inr ⟨rfl, ?_⟩)⟩
  · cases hp : pvI m (wr (m 0 (wr ((i : Int) + 1)).toNat)) with
    | none => rfl
    | some v =>
      rw [hp] at hr
      cases hr
  · cases hp : pvI m (wr (m 0 (wr ((i : Int) + 1)).toNat)) with
    | none =>
      rw [hp] at hr
      cases hr
    | some v9 =>
      rw [hp] at hr
      have ev : v9 = v := Sum.inl.inj (Option.some.inj hr)
      subst ev
      rw [zu_sm rfl, wr_id (a := v9) hv.1 hv.2]
theorem zarm_840 (hT : zRules T) (hL : zLRules T TL L xs) (hL2 : L ≤ 2560) {t i : Nat} {m : zM} (hi : (i : Int) + 5 ≤ L) (ht : t + 1 ≤ 520) (hB4 : B + 270 ≤ 400000) (hI : ∃ n k, Inv B sc n k m) (hN : ∀ m2, (∃ n k, Inv (B + 270) sc n k m2) → TL (t + 1) (23, lo0 ((i : Int) + 5), [], m2)) : TL t (840, lo0 (i : Int), [], m) := by
  refine hL.2.2.2 _ _ _ _ _ (fun hs => ?_)
  refine hL.1 30 t _ (And.intro (zaix hs.1 hi hL2 (k := 1) (by decide) (by decide)) (And.intro (zaix hs.1 hi hL2 (k := 2) (by decide) (by decide)) ?_))
  show T 399 131 (0, [(0, zr 1), (1, zi (wr (m 0 (wr ((i : Int) + 1)).toNat))), (2, zi (wr (m 0 (wr ((i : Int) + 2)).toNat)))], [], m) (fun r m1 => z_ans 131 r → TL t (856, lo0 (i : Int), r.toList ++ [], m1))
  refine w_sell hT (wrB _) (wrB _) 395 m sc hI _ ?_
  intro r m1 h ha
  obtain ⟨v, rfl, hv⟩ := z_ansE (k := 131) (by decide +kernel) ha
  refine hL.2.2.2 _ _ _ _ _ (fun hs1 => ?_)
  rw [← zaval hs hs1 hi hL2 (k := 1) (by decide) (by decide)] at h
  rw [← zaval hs hs1 hi hL2 (k := 2) (by decide) (by decide)] at h
  refine hL.1 30 t _ (And.intro (zaix hs1.1 hi hL2 (k := 1) (by decide) (by decide)) (And.intro (zaix hs1.1 hi hL2 (k := 2) (by decide) (by decide)) ?_))
  show T 399 244 (0, [(0, zr 74), (1, zi (wr (m1 0 (wr ((i : Int) + 1)).toNat))), (2, zi (wr (m1 0 (wr ((i : Int) + 2)).toNat)))], [], m1) (fun r m2 => z_ans 244 r → TL t (873, lo0 (i : Int), r.toList ++ [], m2))
  refine h 396 _ ?_
  intro r2 m2 hsame hI2 ha2
  obtain ⟨v2, rfl, hv2⟩ := z_ansE (k := 244) (by decide +kernel) ha2
  exact hL.1 4 t _ (hL.2.2.1 t _ ht (hN m2 (Inv_up (by omega) hI2)))
theorem zarm_877 (hT : zRules T) (hL : zLRules T TL L xs) (hL2 : L ≤ 2560) {t i : Nat} {m : zM} (hi : (i : Int) + 5 ≤ L) (ht : t + 1 ≤ 520) (hB4 : B + 270 ≤ 400000) (hI : ∃ n k, Inv B sc n k m) (hN : ∀ m2, (∃ n k, Inv (B + 270) sc n k m2) → TL (t + 1) (23, lo0 ((i : Int) + 5), [], m2)) : TL t (877, lo0 (i : Int), [], m) := by
  refine hL.2.2.2 _ _ _ _ _ (fun hs => ?_)
  refine hL.1 30 t _ (And.intro (zaix hs.1 hi hL2 (k := 1) (by decide) (by decide)) ?_)
  show T 399 132 (0, [(0, zr 1), (1, zi (wr (m 0 (wr ((i : Int) + 1)).toNat)))], [], m) (fun r m1 => z_ans 132 r → TL t (887, lo0 (i : Int), r.toList ++ [], m1))
  refine w_patches hT (wrB _) 394 m sc hI _ ?_
  intro r m1 h ha
  obtain ⟨v, rfl, hv⟩ := z_ansE (k := 132) (by decide +kernel) ha
  refine hL.2.2.2 _ _ _ _ _ (fun hs1 => ?_)
  rw [← zaval hs hs1 hi hL2 (k := 1) (by decide) (by decide)] at h
  refine hL.1 30 t _ (And.intro (zaix hs1.1 hi hL2 (k := 1) (by decide) (by decide)) ?_)
  show T 399 247 (0, [(0, zr 74), (1, zi (wr (m1 0 (wr ((i : Int) + 1)).toNat)))], [], m1) (fun r m2 => z_ans 247 r → TL t (898, lo0 (i : Int), r.toList ++ [], m2))
  refine h 395 _ ?_
  intro r2 m2 hsame hI2 ha2
  obtain ⟨v2, rfl, hv2⟩ := z_ansE (k := 247) (by decide +kernel) ha2
  exact hL.1 4 t _ (hL.2.2.1 t _ ht (hN m2 (Inv_up (by omega) hI2)))
theorem zarm_902 (hT : zRules T) (hL : zLRules T TL L xs) (hL2 : L ≤ 2560) {t i : Nat} {m : zM} (hi : (i : Int) + 5 ≤ L) (ht : t + 1 ≤ 520) (hB4 : B + 270 ≤ 400000) (hI : ∃ n k, Inv B sc n k m) (hN : ∀ m2, (∃ n k, Inv (B + 270) sc n k m2) → TL (t + 1) (23, lo0 ((i : Int) + 5), [], m2)) : TL t (902, lo0 (i : Int), [], m) := by
  refine hL.2.2.2 _ _ _ _ _ (fun hs => ?_)
  refine hL.1 30 t _ (And.intro (zaix hs.1 hi hL2 (k := 1) (by decide) (by decide)) ?_)
  show T 399 133 (0, [(0, zr 1), (1, zi (wr (m 0 (wr ((i : Int) + 1)).toNat)))], [], m) (fun r m1 => z_ans 133 r → TL t (912, lo0 (i : Int), r.toList ++ [], m1))
  refine w_quilt hT (wrB _) 394 m sc hI _ ?_
  intro r m1 h ha
  obtain ⟨v, rfl, hv⟩ := z_ansE (k := 133) (by decide +kernel) ha
  refine hL.2.2.2 _ _ _ _ _ (fun hs1 => ?_)
  rw [← zaval hs hs1 hi hL2 (k := 1) (by decide) (by decide)] at h
  refine hL.1 30 t _ (And.intro (zaix hs1.1 hi hL2 (k := 1) (by decide) (by decide)) ?_)
  show T 399 248 (0, [(0, zr 74), (1, zi (wr (m1 0 (wr ((i : Int) + 1)).toNat)))], [], m1) (fun r m2 => z_ans 248 r → TL t (923, lo0 (i : Int), r.toList ++ [], m2))
  refine h 395 _ ?_
  intro r2 m2 hsame hI2 ha2
  obtain ⟨v2, rfl, hv2⟩ := z_ansE (k := 248) (by decide +kernel) ha2
  exact hL.1 4 t _ (hL.2.2.1 t _ ht (hN m2 (Inv_up (by omega) hI2)))
theorem zarm_927 (hT : zRules T) (hL : zLRules T TL L xs) (hL2 : L ≤ 2560) {t i : Nat} {m : zM} (hi : (i : Int) + 5 ≤ L) (ht : t + 1 ≤ 520) (hB4 : B + 270 ≤ 400000) (hI : ∃ n k, Inv B sc n k m) (hN : ∀ m2, (∃ n k, Inv (B + 270) sc n k m2) → TL (t + 1) (23, lo0 ((i : Int) + 5), [], m2)) : TL t (927, lo0 (i : Int), [], m) := by
  refine hL.2.2.2 _ _ _ _ _ (fun hs => ?_)
  refine hL.1 30 t _ (And.intro (zaix hs.1 hi hL2 (k := 1) (by decide) (by decide)) ?_)
  show T 399 134 (0, [(0, zr 1), (1, zi (wr (m 0 (wr ((i : Int) + 1)).toNat)))], [], m) (fun r m1 => z_ans 134 r → TL t (937, lo0 (i : Int), r.toList ++ [], m1))
  refine w_ahead hT (by omega) (wrB _) 393 m sc hI _ ?_
  intro r m1 h ha
  obtain ⟨v, rfl, hv⟩ := z_ansE (k := 134) (by decide +kernel) ha
  refine hL.2.2.2 _ _ _ _ _ (fun hs1 => ?_)
  rw [← zaval hs hs1 hi hL2 (k := 1) (by decide) (by decide)] at h
  refine hL.1 30 t _ (And.intro (zaix hs1.1 hi hL2 (k := 1) (by decide) (by decide)) ?_)
  show T 399 249 (0, [(0, zr 74), (1, zi (wr (m1 0 (wr ((i : Int) + 1)).toNat)))], [], m1) (fun r m2 => z_ans 249 r → TL t (948, lo0 (i : Int), r.toList ++ [], m2))
  refine h 227 _ ?_
  intro r2 m2 hsame hI2 ha2
  obtain ⟨v2, rfl, hv2⟩ := z_ansE (k := 249) (by decide +kernel) ha2
  exact hL.1 4 t _ (hL.2.2.1 t _ ht (hN m2 (Inv_up (by omega) hI2)))
theorem zarm_952 (hT : zRules T) (hL : zLRules T TL L xs) (hL2 : L ≤ 2560) {t i : Nat} {m : zM} (hi : (i : Int) + 5 ≤ L) (ht : t + 1 ≤ 520) (hB4 : B + 270 ≤ 400000) (hI : ∃ n k, Inv B sc n k m) (hN : ∀ m2, (∃ n k, Inv (B + 270) sc n k m2) → TL (t + 1) (23, lo0 ((i : Int) + 5), [], m2)) : TL t (952, lo0 (i : Int), [], m) := by
  refine hL.2.2.2 _ _ _ _ _ (fun hs => ?_)
  refine hL.1 30 t _ (And.intro (zaix hs.1 hi hL2 (k := 1) (by decide) (by decide)) (And.intro (zaix hs.1 hi hL2 (k := 2) (by decide) (by decide)) (And.intro (zaix hs.1 hi hL2 (k := 3) (by decide) (by decide)) ?_)))
  show T 399 135 (0, [(0, zr 1), (1, zi (wr (m 0 (wr ((i : Int) + 1)).toNat))), (2, zi (wr (m 0 (wr ((i : Int) + 2)).toNat))), (3, zi (wr (m 0 (wr ((i : Int) + 3)).toNat)))], [], m) (fun r m1 => z_ans 135 r → TL t (974, lo0 (i : Int), r.toList ++ [], m1))
  refine w_longest hT (wrB _) (wrB _) (wrB _) 393 m sc hI _ ?_
  intro r m1 h ha
  obtain ⟨v, rfl, hv⟩ := z_ansE (k := 135) (by decide +kernel) ha
  refine hL.2.2.2 _ _ _ _ _ (fun hs1 => ?_)
  rw [← zaval hs hs1 hi hL2 (k := 1) (by decide) (by decide)] at h
  rw [← zaval hs hs1 hi hL2 (k := 2) (by decide) (by decide)] at h
  rw [← zaval hs hs1 hi hL2 (k := 3) (by decide) (by decide)] at h
  refine hL.1 30 t _ (And.intro (zaix hs1.1 hi hL2 (k := 1) (by decide) (by decide)) (And.intro (zaix hs1.1 hi hL2 (k := 2) (by decide) (by decide)) (And.intro (zaix hs1.1 hi hL2 (k := 3) (by decide) (by decide)) ?_)))
  show T 399 250 (0, [(0, zr 74), (1, zi (wr (m1 0 (wr ((i : Int) + 1)).toNat))), (2, zi (wr (m1 0 (wr ((i : Int) + 2)).toNat))), (3, zi (wr (m1 0 (wr ((i : Int) + 3)).toNat)))], [], m1) (fun r m2 => z_ans 250 r → TL t (997, lo0 (i : Int), r.toList ++ [], m2))
  refine h 228 _ ?_
  intro r2 m2 hsame hI2 ha2
  obtain ⟨v2, rfl, hv2⟩ := z_ansE (k := 250) (by decide +kernel) ha2
  exact hL.1 4 t _ (hL.2.2.1 t _ ht (hN m2 (Inv_up (by omega) hI2)))
theorem zarm_1001 (hT : zRules T) (hL : zLRules T TL L xs) (hL2 : L ≤ 2560) {t i : Nat} {m : zM} (hi : (i : Int) + 5 ≤ L) (ht : t + 1 ≤ 520) (hB4 : B + 270 ≤ 400000) (hI : ∃ n k, Inv B sc n k m) (hN : ∀ m2, (∃ n k, Inv (B + 270) sc n k m2) → TL (t + 1) (23, lo0 ((i : Int) + 5), [], m2)) : TL t (1001, lo0 (i : Int), [], m) := by
  refine hL.2.2.2 _ _ _ _ _ (fun hs => ?_)
  refine hL.1 30 t _ (And.intro (zaix hs.1 hi hL2 (k := 1) (by decide) (by decide)) (And.intro (zaix hs.1 hi hL2 (k := 2) (by decide) (by decide)) (And.intro (zaix hs.1 hi hL2 (k := 3) (by decide) (by decide)) ?_)))
  show T 399 136 (0, [(0, zr 1), (1, zi (wr (m 0 (wr ((i : Int) + 1)).toNat))), (2, zi (wr (m 0 (wr ((i : Int) + 2)).toNat))), (3, zi (wr (m 0 (wr ((i : Int) + 3)).toNat)))], [], m) (fun r m1 => z_ans 136 r → TL t (1023, lo0 (i : Int), r.toList ++ [], m1))
  refine w_lengths hT (wrB _) (wrB _) (wrB _) 393 m sc hI _ ?_
  intro r m1 h ha
  obtain ⟨v, rfl, hv⟩ := z_ansE (k := 136) (by decide +kernel) ha
  refine hL.2.2.2 _ _ _ _ _ (fun hs1 => ?_)
  rw [← zaval hs hs1 hi hL2 (k := 1) (by decide) (by decide)] at h
  rw [← zaval hs hs1 hi hL2 (k := 2) (by decide) (by decide)] at h
  rw [← zaval hs hs1 hi hL2 (k := 3) (by decide) (by decide)] at h
  refine hL.1 30 t _ (And.intro (zaix hs1.1 hi hL2 (k := 1) (by decide) (by decide)) (And.intro (zaix hs1.1 hi hL2 (k := 2) (by decide) (by decide)) (And.intro (zaix hs1.1 hi hL2 (k := 3) (by decide) (by decide)) ?_)))
  show T 399 251 (0, [(0, zr 74), (1, zi (wr (m1 0 (wr ((i : Int) + 1)).toNat))), (2, zi (wr (m1 0 (wr ((i : Int) + 2)).toNat))), (3, zi (wr (m1 0 (wr ((i : Int) + 3)).toNat)))], [], m1) (fun r m2 => z_ans 251 r → TL t (1046, lo0 (i : Int), r.toList ++ [], m2))
  refine h 228 _ ?_
  intro r2 m2 hsame hI2 ha2
  obtain ⟨v2, rfl, hv2⟩ := z_ansE (k := 251) (by decide +kernel) ha2
  exact hL.1 4 t _ (hL.2.2.1 t _ ht (hN m2 (Inv_up (by omega) hI2)))
theorem zarm_1050 (hT : zRules T) (hL : zLRules T TL L xs) (hL2 : L ≤ 2560) {t i : Nat} {m : zM} (hi : (i : Int) + 5 ≤ L) (ht : t + 1 ≤ 520) (hB4 : B + 270 ≤ 400000) (hI : ∃ n k, Inv B sc n k m) (hN : ∀ m2, (∃ n k, Inv (B + 270) sc n k m2) → TL (t + 1) (23, lo0 ((i : Int) + 5), [], m2)) : TL t (1050, lo0 (i : Int), [], m) := by
  refine hL.2.2.2 _ _ _ _ _ (fun hs => ?_)
  refine hL.1 30 t _ (And.intro (zaix hs.1 hi hL2 (k := 1) (by decide) (by decide)) (And.intro (zaix hs.1 hi hL2 (k := 2) (by decide) (by decide)) (And.intro (zaix hs.1 hi hL2 (k := 3) (by decide) (by decide)) ?_)))
  show T 399 137 (0, [(0, zr 1), (1, zi (wr (m 0 (wr ((i : Int) + 1)).toNat))), (2, zi (wr (m 0 (wr ((i : Int) + 2)).toNat))), (3, zi (wr (m 0 (wr ((i : Int) + 3)).toNat)))], [], m) (fun r m1 => z_ans 137 r → TL t (1072, lo0 (i : Int), r.toList ++ [], m1))
  refine w_serves hT (wrB _) (wrB _) (wrB _) 393 m sc hI _ ?_
  intro r m1 h ha
  obtain ⟨v, rfl, hv⟩ := z_ansE (k := 137) (by decide +kernel) ha
  refine hL.2.2.2 _ _ _ _ _ (fun hs1 => ?_)
  rw [← zaval hs hs1 hi hL2 (k := 1) (by decide) (by decide)] at h
  rw [← zaval hs hs1 hi hL2 (k := 2) (by decide) (by decide)] at h
  rw [← zaval hs hs1 hi hL2 (k := 3) (by decide) (by decide)] at h
  refine hL.1 30 t _ (And.intro (zaix hs1.1 hi hL2 (k := 1) (by decide) (by decide)) (And.intro (zaix hs1.1 hi hL2 (k := 2) (by decide) (by decide)) (And.intro (zaix hs1.1 hi hL2 (k := 3) (by decide) (by decide)) ?_)))
  show T 399 253 (0, [(0, zr 74), (1, zi (wr (m1 0 (wr ((i : Int) + 1)).toNat))), (2, zi (wr (m1 0 (wr ((i : Int) + 2)).toNat))), (3, zi (wr (m1 0 (wr ((i : Int) + 3)).toNat)))], [], m1) (fun r m2 => z_ans 253 r → TL t (1095, lo0 (i : Int), r.toList ++ [], m2))
  refine h 227 _ ?_
  intro r2 m2 hsame hI2 ha2
  obtain ⟨v2, rfl, hv2⟩ := z_ansE (k := 253) (by decide +kernel) ha2
  exact hL.1 4 t _ (hL.2.2.1 t _ ht (hN m2 (Inv_up (by omega) hI2)))
theorem zarm_1099 (hT : zRules T) (hL : zLRules T TL L xs) (hL2 : L ≤ 2560) {t i : Nat} {m : zM} (hi : (i : Int) + 5 ≤ L) (ht : t + 1 ≤ 520) (hB4 : B + 270 ≤ 400000) (hI : ∃ n k, Inv B sc n k m) (hN : ∀ m2, (∃ n k, Inv (B + 270) sc n k m2) → TL (t + 1) (23, lo0 ((i : Int) + 5), [], m2)) : TL t (1099, lo0 (i : Int), [], m) := by
  refine hL.2.2.2 _ _ _ _ _ (fun hs => ?_)
  refine hL.1 30 t _ (And.intro (zaix hs.1 hi hL2 (k := 1) (by decide) (by decide)) (And.intro (zaix hs.1 hi hL2 (k := 2) (by decide) (by decide)) ?_))
  show T 399 138 (0, [(0, zr 1), (1, zi (wr (m 0 (wr ((i : Int) + 1)).toNat))), (2, zi (wr (m 0 (wr ((i : Int) + 2)).toNat)))], [], m) (fun r m1 => z_ans 138 r → TL t (1115, lo0 (i : Int), r.toList ++ [], m1))
  refine w_best hT (wrB _) (wrB _) 393 m sc hI _ ?_
  intro r m1 h ha
  obtain ⟨v, rfl, hv⟩ := z_ansE (k := 138) (by decide +kernel) ha
  refine hL.2.2.2 _ _ _ _ _ (fun hs1 => ?_)
  rw [← zaval hs hs1 hi hL2 (k := 1) (by decide) (by decide)] at h
  rw [← zaval hs hs1 hi hL2 (k := 2) (by decide) (by decide)] at h
  refine hL.1 30 t _ (And.intro (zaix hs1.1 hi hL2 (k := 1) (by decide) (by decide)) (And.intro (zaix hs1.1 hi hL2 (k := 2) (by decide) (by decide)) ?_))
  show T 399 254 (0, [(0, zr 74), (1, zi (wr (m1 0 (wr ((i : Int) + 1)).toNat))), (2, zi (wr (m1 0 (wr ((i : Int) + 2)).toNat)))], [], m1) (fun r m2 => z_ans 254 r → TL t (1132, lo0 (i : Int), r.toList ++ [], m2))
  refine h 227 _ ?_
  intro r2 m2 hsame hI2 ha2
  obtain ⟨v2, rfl, hv2⟩ := z_ansE (k := 254) (by decide +kernel) ha2
  exact hL.1 4 t _ (hL.2.2.1 t _ ht (hN m2 (Inv_up (by omega) hI2)))
theorem zarm_1136 (hT : zRules T) (hL : zLRules T TL L xs) (hL2 : L ≤ 2560) {t i : Nat} {m : zM} (hi : (i : Int) + 5 ≤ L) (ht : t + 1 ≤ 520) (hB4 : B + 270 ≤ 400000) (hI : ∃ n k, Inv B sc n k m) (hN : ∀ m2, (∃ n k, Inv (B + 270) sc n k m2) → TL (t + 1) (23, lo0 ((i : Int) + 5), [], m2)) : TL t (1136, lo0 (i : Int), [], m) := by
  refine hL.2.2.2 _ _ _ _ _ (fun hs => ?_)
  refine hL.1 30 t _ (And.intro (zaix hs.1 hi hL2 (k := 1) (by decide) (by decide)) ?_)
  show T 399 139 (0, [(0, zr 1), (1, zi (wr (m 0 (wr ((i : Int) + 1)).toNat)))], [], m) (fun r m1 => z_ans 139 r → TL t (1146, lo0 (i : Int), r.toList ++ [], m1))
  refine w_same hT (wrB _) 394 m sc hI _ ?_
  intro r m1 h ha
  obtain ⟨v, rfl, hv⟩ := z_ansE (k := 139) (by decide +kernel) ha
  refine hL.2.2.2 _ _ _ _ _ (fun hs1 => ?_)
  rw [← zaval hs hs1 hi hL2 (k := 1) (by decide) (by decide)] at h
  refine hL.1 30 t _ (And.intro (zaix hs1.1 hi hL2 (k := 1) (by decide) (by decide)) ?_)
  show T 399 255 (0, [(0, zr 74), (1, zi (wr (m1 0 (wr ((i : Int) + 1)).toNat)))], [], m1) (fun r m2 => z_ans 255 r → TL t (1157, lo0 (i : Int), r.toList ++ [], m2))
  refine h 227 _ ?_
  intro r2 m2 hsame hI2 ha2
  obtain ⟨v2, rfl, hv2⟩ := z_ansE (k := 255) (by decide +kernel) ha2
  exact hL.1 4 t _ (hL.2.2.1 t _ ht (hN m2 (Inv_up (by omega) hI2)))
theorem zarm_1161 (hT : zRules T) (hL : zLRules T TL L xs) (hL2 : L ≤ 2560) {t i : Nat} {m : zM} (hi : (i : Int) + 5 ≤ L) (ht : t + 1 ≤ 520) (hB4 : B + 270 ≤ 400000) (hI : ∃ n k, Inv B sc n k m) (hN : ∀ m2, (∃ n k, Inv (B + 270) sc n k m2) → TL (t + 1) (23, lo0 ((i : Int) + 5), [], m2)) : TL t (1161, lo0 (i : Int), [], m) := by
  refine hL.2.2.2 _ _ _ _ _ (fun hs => ?_)
  refine hL.1 30 t _ (And.intro (zaix hs.1 hi hL2 (k := 1) (by decide) (by decide)) (And.intro (zaix hs.1 hi hL2 (k := 2) (by decide) (by decide)) ?_))
  show T 399 140 (0, [(0, zr 1), (1, zi (wr (m 0 (wr ((i : Int) + 1)).toNat))), (2, zi (wr (m 0 (wr ((i : Int) + 2)).toNat)))], [], m) (fun r m1 => z_ans 140 r → TL t (1177, lo0 (i : Int), r.toList ++ [], m1))
  refine w_plan0 hT (wrB _) (wrB _) 392 m sc hI _ ?_
  intro r m1 h ha
  obtain ⟨v, rfl, hv⟩ := z_ansE (k := 140) (by decide +kernel) ha
  refine hL.2.2.2 _ _ _ _ _ (fun hs1 => ?_)
  rw [← zaval hs hs1 hi hL2 (k := 1) (by decide) (by decide)] at h
  rw [← zaval hs hs1 hi hL2 (k := 2) (by decide) (by decide)] at h
  refine hL.1 30 t _ (And.intro (zaix hs1.1 hi hL2 (k := 1) (by decide) (by decide)) (And.intro (zaix hs1.1 hi hL2 (k := 2) (by decide) (by decide)) ?_))
  show T 399 258 (0, [(0, zr 74), (1, zi (wr (m1 0 (wr ((i : Int) + 1)).toNat))), (2, zi (wr (m1 0 (wr ((i : Int) + 2)).toNat)))], [], m1) (fun r m2 => z_ans 258 r → TL t (1194, lo0 (i : Int), r.toList ++ [], m2))
  refine h 226 _ ?_
  intro r2 m2 hsame hI2 ha2
  obtain ⟨v2, rfl, hv2⟩ := z_ansE (k := 258) (by decide +kernel) ha2
  exact hL.1 4 t _ (hL.2.2.1 t _ ht (hN m2 (Inv_up (by omega) hI2)))
theorem zarm_1198 (hT : zRules T) (hL : zLRules T TL L xs) (hL2 : L ≤ 2560) {t i : Nat} {m : zM} (hi : (i : Int) + 5 ≤ L) (ht : t + 1 ≤ 520) (hB4 : B + 270 ≤ 400000) (hI : ∃ n k, Inv B sc n k m) (hN : ∀ m2, (∃ n k, Inv (B + 270) sc n k m2) → TL (t + 1) (23, lo0 ((i : Int) + 5), [], m2)) : TL t (1198, lo0 (i : Int), [], m) := by
  refine hL.2.2.2 _ _ _ _ _ (fun hs => ?_)
  refine hL.1 30 t _ (And.intro (zaix hs.1 hi hL2 (k := 1) (by decide) (by decide)) (And.intro (zaix hs.1 hi hL2 (k := 2) (by decide) (by decide)) (And.intro (zaix hs.1 hi hL2 (k := 3) (by decide) (by decide)) ?_)))
  show T 399 141 (0, [(0, zr 1), (1, zi (wr (m 0 (wr ((i : Int) + 1)).toNat))), (2, zi (wr (m 0 (wr ((i : Int) + 2)).toNat))), (3, zi (wr (m 0 (wr ((i : Int) + 3)).toNat)))], [], m) (fun r m1 => z_ans 141 r → TL t (1220, lo0 (i : Int), r.toList ++ [], m1))
  refine w_plain hT (wrB _) (wrB _) (wrB _) 393 m sc hI _ ?_
  intro r m1 h ha
  obtain ⟨v, rfl, hv⟩ := z_ansE (k := 141) (by decide +kernel) ha
  refine hL.2.2.2 _ _ _ _ _ (fun hs1 => ?_)
  rw [← zaval hs hs1 hi hL2 (k := 1) (by decide) (by decide)] at h
  rw [← zaval hs hs1 hi hL2 (k := 2) (by decide) (by decide)] at h
  rw [← zaval hs hs1 hi hL2 (k := 3) (by decide) (by decide)] at h
  refine hL.1 30 t _ (And.intro (zaix hs1.1 hi hL2 (k := 1) (by decide) (by decide)) (And.intro (zaix hs1.1 hi hL2 (k := 2) (by decide) (by decide)) (And.intro (zaix hs1.1 hi hL2 (k := 3) (by decide) (by decide)) ?_)))
  show T 399 259 (0, [(0, zr 74), (1, zi (wr (m1 0 (wr ((i : Int) + 1)).toNat))), (2, zi (wr (m1 0 (wr ((i : Int) + 2)).toNat))), (3, zi (wr (m1 0 (wr ((i : Int) + 3)).toNat)))], [], m1) (fun r m2 => z_ans 259 r → TL t (1243, lo0 (i : Int), r.toList ++ [], m2))
  refine h 227 _ ?_
  intro r2 m2 hsame hI2 ha2
  obtain ⟨v2, rfl, hv2⟩ := z_ansE (k := 259) (by decide +kernel) ha2
  exact hL.1 4 t _ (hL.2.2.1 t _ ht (hN m2 (Inv_up (by omega) hI2)))
theorem zarm_1247 (hT : zRules T) (hL : zLRules T TL L xs) (hL2 : L ≤ 2560) {t i : Nat} {m : zM} (hi : (i : Int) + 5 ≤ L) (ht : t + 1 ≤ 520) (hB4 : B + 270 ≤ 400000) (hI : ∃ n k, Inv B sc n k m) (hN : ∀ m2, (∃ n k, Inv (B + 270) sc n k m2) → TL (t + 1) (23, lo0 ((i : Int) + 5), [], m2)) : TL t (1247, lo0 (i : Int), [], m) := by
  refine hL.2.2.2 _ _ _ _ _ (fun hs => ?_)
  refine hL.1 30 t _ ?_
  show T 399 142 (0, [(0, zr 1)], [], m) (fun r m1 => z_ans 142 r → TL t (1251, lo0 (i : Int), r.toList ++ [], m1))
  refine w_idle hT  397 m sc hI _ ?_
  intro r m1 h ha
  obtain ⟨v, rfl, hv⟩ := z_ansE (k := 142) (by decide +kernel) ha
  refine hL.2.2.2 _ _ _ _ _ (fun hs1 => ?_)
  refine hL.1 30 t _ ?_
  show T 399 260 (0, [(0, zr 74)], [], m1) (fun r m2 => z_ans 260 r → TL t (1256, lo0 (i : Int), r.toList ++ [], m2))
  refine h 396 _ ?_
  intro r2 m2 hsame hI2 ha2
  obtain ⟨v2, rfl, hv2⟩ := z_ansE (k := 260) (by decide +kernel) ha2
  exact hL.1 4 t _ (hL.2.2.1 t _ ht (hN m2 (Inv_up (by omega) hI2)))
theorem zarm_1260 (hT : zRules T) (hL : zLRules T TL L xs) (hL2 : L ≤ 2560) {t i : Nat} {m : zM} (hi : (i : Int) + 5 ≤ L) (ht : t + 1 ≤ 520) (hB4 : B + 270 ≤ 400000) (hI : ∃ n k, Inv B sc n k m) (hN : ∀ m2, (∃ n k, Inv (B + 270) sc n k m2) → TL (t + 1) (23, lo0 ((i : Int) + 5), [], m2)) : TL t (1260, lo0 (i : Int), [], m) := by
  refine hL.2.2.2 _ _ _ _ _ (fun hs => ?_)
  refine hL.1 30 t _ (And.intro (zaix hs.1 hi hL2 (k := 1) (by decide) (by decide)) ?_)
  show T 399 143 (0, [(0, zr 1), (1, zi (wr (m 0 (wr ((i : Int) + 1)).toNat)))], [], m) (fun r m1 => z_ans 143 r → TL t (1270, lo0 (i : Int), r.toList ++ [], m1))
  refine w_nearest hT (wrB _) 394 m sc hI _ ?_
  intro r m1 h ha
  obtain ⟨v, rfl, hv⟩ := z_ansE (k := 143) (by decide +kernel) ha
  refine hL.2.2.2 _ _ _ _ _ (fun hs1 => ?_)
  rw [← zaval hs hs1 hi hL2 (k := 1) (by decide) (by decide)] at h
  refine hL.1 30 t _ (And.intro (zaix hs1.1 hi hL2 (k := 1) (by decide) (by decide)) ?_)
  show T 399 262 (0, [(0, zr 74), (1, zi (wr (m1 0 (wr ((i : Int) + 1)).toNat)))], [], m1) (fun r m2 => z_ans 262 r → TL t (1281, lo0 (i : Int), r.toList ++ [], m2))
  refine h 226 _ ?_
  intro r2 m2 hsame hI2 ha2
  obtain ⟨v2, rfl, hv2⟩ := z_ansE (k := 262) (by decide +kernel) ha2
  exact hL.1 4 t _ (hL.2.2.1 t _ ht (hN m2 (Inv_up (by omega) hI2)))
theorem zarm_1285 (hT : zRules T) (hL : zLRules T TL L xs) (hL2 : L ≤ 2560) {t i : Nat} {m : zM} (hi : (i : Int) + 5 ≤ L) (ht : t + 1 ≤ 520) (hB4 : B + 270 ≤ 400000) (hI : ∃ n k, Inv B sc n k m) (hN : ∀ m2, (∃ n k, Inv (B + 270) sc n k m2) → TL (t + 1) (23, lo0 ((i : Int) + 5), [], m2)) : TL t (1285, lo0 (i : Int), [], m) := by
  refine hL.2.2.2 _ _ _ _ _ (fun hs => ?_)
  refine hL.1 30 t _ (And.intro (zaix hs.1 hi hL2 (k := 1) (by decide) (by decide)) ?_)
  show T 399 144 (0, [(0, zr 1), (1, zi (wr (m 0 (wr ((i : Int) + 1)).toNat)))], [], m) (fun r m1 => z_ans 144 r → TL t (1295, lo0 (i : Int), r.toList ++ [], m1))
  refine w_dress0 hT (wrB _) 392 m sc hI _ ?_
  intro r m1 h ha
  obtain ⟨v, rfl, hv⟩ := z_ansE (k := 144) (by decide +kernel) ha
  refine hL.2.2.2 _ _ _ _ _ (fun hs1 => ?_)
  rw [← zaval hs hs1 hi hL2 (k := 1) (by decide) (by decide)] at h
  refine hL.1 30 t _ (And.intro (zaix hs1.1 hi hL2 (k := 1) (by decide) (by decide)) ?_)
  show T 399 264 (0, [(0, zr 74), (1, zi (wr (m1 0 (wr ((i : Int) + 1)).toNat)))], [], m1) (fun r m2 => z_ans 264 r → TL t (1306, lo0 (i : Int), r.toList ++ [], m2))
  refine h 226 _ ?_
  intro r2 m2 hsame hI2 ha2
  obtain ⟨v2, rfl, hv2⟩ := z_ansE (k := 264) (by decide +kernel) ha2
  exact hL.1 4 t _ (hL.2.2.1 t _ ht (hN m2 (Inv_up (by omega) hI2)))
theorem zarm_1310 (hT : zRules T) (hL : zLRules T TL L xs) (hL2 : L ≤ 2560) {t i : Nat} {m : zM} (hi : (i : Int) + 5 ≤ L) (ht : t + 1 ≤ 520) (hB4 : B + 270 ≤ 400000) (hI : ∃ n k, Inv B sc n k m) (hN : ∀ m2, (∃ n k, Inv (B + 270) sc n k m2) → TL (t + 1) (23, lo0 ((i : Int) + 5), [], m2)) : TL t (1310, lo0 (i : Int), [], m) := by
  refine hL.2.2.2 _ _ _ _ _ (fun hs => ?_)
  refine hL.1 30 t _ ?_
  show T 399 145 (0, [(0, zr 1)], [], m) (fun r m1 => z_ans 145 r → TL t (1314, lo0 (i : Int), r.toList ++ [], m1))
  refine w_ready0 hT  394 m sc hI _ ?_
  intro r m1 h ha
  obtain ⟨v, rfl, hv⟩ := z_ansE (k := 145) (by decide +kernel) ha
  refine hL.2.2.2 _ _ _ _ _ (fun hs1 => ?_)
  refine hL.1 30 t _ ?_
  show T 399 266 (0, [(0, zr 74)], [], m1) (fun r m2 => z_ans 266 r → TL t (1319, lo0 (i : Int), r.toList ++ [], m2))
  refine h 220 _ ?_
  intro r2 m2 hsame hI2 ha2
  obtain ⟨v2, rfl, hv2⟩ := z_ansE (k := 266) (by decide +kernel) ha2
  exact hL.1 4 t _ (hL.2.2.1 t _ ht (hN m2 (Inv_up (by omega) hI2)))
theorem zarm_1323 (hT : zRules T) (hL : zLRules T TL L xs) (hL2 : L ≤ 2560) {t i : Nat} {m : zM} (hi : (i : Int) + 5 ≤ L) (ht : t + 1 ≤ 520) (hB4 : B + 270 ≤ 400000) (hI : ∃ n k, Inv B sc n k m) (hN : ∀ m2, (∃ n k, Inv (B + 270) sc n k m2) → TL (t + 1) (23, lo0 ((i : Int) + 5), [], m2)) : TL t (1323, lo0 (i : Int), [], m) := by
  refine hL.2.2.2 _ _ _ _ _ (fun hs => ?_)
  refine hL.1 30 t _ (And.intro (zaix hs.1 hi hL2 (k := 1) (by decide) (by decide)) ?_)
  show T 399 146 (0, [(0, zr 1), (1, zi (wr (m 0 (wr ((i : Int) + 1)).toNat)))], [], m) (fun r m1 => z_ans 146 r → TL t (1333, lo0 (i : Int), r.toList ++ [], m1))
  refine w_way0 hT (wrB _) 392 m sc hI _ ?_
  intro r m1 h ha
  obtain ⟨v, rfl, hv⟩ := z_ansE (k := 146) (by decide +kernel) ha
  refine hL.2.2.2 _ _ _ _ _ (fun hs1 => ?_)
  rw [← zaval hs hs1 hi hL2 (k := 1) (by decide) (by decide)] at h
  refine hL.1 30 t _ (And.intro (zaix hs1.1 hi hL2 (k := 1) (by decide) (by decide)) ?_)
  show T 399 271 (0, [(0, zr 74), (1, zi (wr (m1 0 (wr ((i : Int) + 1)).toNat)))], [], m1) (fun r m2 => z_ans 271 r → TL t (1344, lo0 (i : Int), r.toList ++ [], m2))
  refine h 227 _ ?_
  intro r2 m2 hsame hI2 ha2
  obtain ⟨v2, rfl, hv2⟩ := z_ansE (k := 271) (by decide +kernel) ha2
  exact hL.1 4 t _ (hL.2.2.1 t _ ht (hN m2 (Inv_up (by omega) hI2)))
theorem zarm_1348 (hT : zRules T) (hL : zLRules T TL L xs) (hL2 : L ≤ 2560) {t i : Nat} {m : zM} (hi : (i : Int) + 5 ≤ L) (ht : t + 1 ≤ 520) (hB4 : B + 270 ≤ 400000) (hI : ∃ n k, Inv B sc n k m) (hN : ∀ m2, (∃ n k, Inv (B + 270) sc n k m2) → TL (t + 1) (23, lo0 ((i : Int) + 5), [], m2)) : TL t (1348, lo0 (i : Int), [], m) := by
  refine hL.2.2.2 _ _ _ _ _ (fun hs => ?_)
  refine hL.1 30 t _ (And.intro (zaix hs.1 hi hL2 (k := 1) (by decide) (by decide)) ?_)
  show T 399 147 (0, [(0, zr 1), (1, zi (wr (m 0 (wr ((i : Int) + 1)).toNat)))], [], m) (fun r m1 => z_ans 147 r → TL t (1358, lo0 (i : Int), r.toList ++ [], m1))
  refine w_trunk0 hT (wrB _) 392 m sc hI _ ?_
  intro r m1 h ha
  obtain ⟨v, rfl, hv⟩ := z_ansE (k := 147) (by decide +kernel) ha
  refine hL.2.2.2 _ _ _ _ _ (fun hs1 => ?_)
  rw [← zaval hs hs1 hi hL2 (k := 1) (by decide) (by decide)] at h
  refine hL.1 30 t _ (And.intro (zaix hs1.1 hi hL2 (k := 1) (by decide) (by decide)) ?_)
  show T 399 272 (0, [(0, zr 74), (1, zi (wr (m1 0 (wr ((i : Int) + 1)).toNat)))], [], m1) (fun r m2 => z_ans 272 r → TL t (1369, lo0 (i : Int), r.toList ++ [], m2))
  refine h 227 _ ?_
  intro r2 m2 hsame hI2 ha2
  obtain ⟨v2, rfl, hv2⟩ := z_ansE (k := 272) (by decide +kernel) ha2
  exact hL.1 4 t _ (hL.2.2.1 t _ ht (hN m2 (Inv_up (by omega) hI2)))
theorem zarm_1373 (hT : zRules T) (hL : zLRules T TL L xs) (hL2 : L ≤ 2560) {t i : Nat} {m : zM} (hi : (i : Int) + 5 ≤ L) (ht : t + 1 ≤ 520) (hB4 : B + 270 ≤ 400000) (hI : ∃ n k, Inv B sc n k m) (hN : ∀ m2, (∃ n k, Inv (B + 270) sc n k m2) → TL (t + 1) (23, lo0 ((i : Int) + 5), [], m2)) : TL t (1373, lo0 (i : Int), [], m) := by
  refine hL.2.2.2 _ _ _ _ _ (fun hs => ?_)
  refine hL.1 30 t _ (And.intro (zaix hs.1 hi hL2 (k := 1) (by decide) (by decide)) (And.intro (zaix hs.1 hi hL2 (k := 2) (by decide) (by decide)) (And.intro (zaix hs.1 hi hL2 (k := 3) (by decide) (by decide)) (And.intro (zaix hs.1 hi hL2 (k := 4) (by decide) (by decide)) ?_))))
  show T 399 148 (0, [(0, zr 1), (1, zi (wr (m 0 (wr ((i : Int) + 1)).toNat))), (2, zi (wr (m 0 (wr ((i : Int) + 2)).toNat))), (3, zi (wr (m 0 (wr ((i : Int) + 3)).toNat))), (4, zi (wr (m 0 (wr ((i : Int) + 4)).toNat)))], [], m) (fun r m1 => z_ans 148 r → TL t (1401, lo0 (i : Int), r.toList ++ [], m1))
  refine w_seen hT (wrB _) (wrB _) (wrB _) (wrB _) 397 m sc hI _ ?_
  intro r m1 h ha
  obtain ⟨v, rfl, hv⟩ := z_ansE (k := 148) (by decide +kernel) ha
  refine hL.2.2.2 _ _ _ _ _ (fun hs1 => ?_)
  rw [← zaval hs hs1 hi hL2 (k := 1) (by decide) (by decide)] at h
  rw [← zaval hs hs1 hi hL2 (k := 2) (by decide) (by decide)] at h
  rw [← zaval hs hs1 hi hL2 (k := 3) (by decide) (by decide)] at h
  rw [← zaval hs hs1 hi hL2 (k := 4) (by decide) (by decide)] at h
  refine hL.1 30 t _ (And.intro (zaix hs1.1 hi hL2 (k := 1) (by decide) (by decide)) (And.intro (zaix hs1.1 hi hL2 (k := 2) (by decide) (by decide)) (And.intro (zaix hs1.1 hi hL2 (k := 3) (by decide) (by decide)) (And.intro (zaix hs1.1 hi hL2 (k := 4) (by decide) (by decide)) ?_))))
  show T 399 273 (0, [(0, zr 74), (1, zi (wr (m1 0 (wr ((i : Int) + 1)).toNat))), (2, zi (wr (m1 0 (wr ((i : Int) + 2)).toNat))), (3, zi (wr (m1 0 (wr ((i : Int) + 3)).toNat))), (4, zi (wr (m1 0 (wr ((i : Int) + 4)).toNat)))], [], m1) (fun r m2 => z_ans 273 r → TL t (1430, lo0 (i : Int), r.toList ++ [], m2))
  refine h 397 _ ?_
  intro r2 m2 hsame hI2 ha2
  obtain ⟨v2, rfl, hv2⟩ := z_ansE (k := 273) (by decide +kernel) ha2
  exact hL.1 4 t _ (hL.2.2.1 t _ ht (hN m2 (Inv_up (by omega) hI2)))
theorem zarm_1434 (hT : zRules T) (hL : zLRules T TL L xs) (hL2 : L ≤ 2560) {t i : Nat} {m : zM} (hi : (i : Int) + 5 ≤ L) (ht : t + 1 ≤ 520) (hB4 : B + 270 ≤ 400000) (hI : ∃ n k, Inv B sc n k m) (hN : ∀ m2, (∃ n k, Inv (B + 270) sc n k m2) → TL (t + 1) (23, lo0 ((i : Int) + 5), [], m2)) : TL t (1434, lo0 (i : Int), [], m) := by
  refine hL.2.2.2 _ _ _ _ _ (fun hs => ?_)
  refine hL.1 30 t _ ?_
  show T 399 149 (0, [(0, zr 1)], [], m) (fun r m1 => z_ans 149 r → TL t (1438, lo0 (i : Int), r.toList ++ [], m1))
  refine w_forget hT  397 m sc hI _ ?_
  intro r m1 h ha
  obtain ⟨v, rfl, hv⟩ := z_ansE (k := 149) (by decide +kernel) ha
  refine hL.2.2.2 _ _ _ _ _ (fun hs1 => ?_)
  refine hL.1 30 t _ ?_
  show T 399 274 (0, [(0, zr 74)], [], m1) (fun r m2 => z_ans 274 r → TL t (1443, lo0 (i : Int), r.toList ++ [], m2))
  refine h 397 _ ?_
  intro r2 m2 hsame hI2 ha2
  obtain ⟨v2, rfl, hv2⟩ := z_ansE (k := 274) (by decide +kernel) ha2
  exact hL.1 4 t _ (hL.2.2.1 t _ ht (hN m2 (Inv_up (by omega) hI2)))
theorem zarm_1447 (hT : zRules T) (hL : zLRules T TL L xs) (hL2 : L ≤ 2560) {t i : Nat} {m : zM} (hi : (i : Int) + 5 ≤ L) (ht : t + 1 ≤ 520) (hB4 : B + 270 ≤ 400000) (hI : ∃ n k, Inv B sc n k m) (hN : ∀ m2, (∃ n k, Inv (B + 270) sc n k m2) → TL (t + 1) (23, lo0 ((i : Int) + 5), [], m2)) : TL t (1447, lo0 (i : Int), [], m) := by
  refine hL.2.2.2 _ _ _ _ _ (fun hs => ?_)
  refine hL.1 30 t _ (And.intro (zaix hs.1 hi hL2 (k := 1) (by decide) (by decide)) ?_)
  show T 399 150 (0, [(0, zr 1), (1, zi (wr (m 0 (wr ((i : Int) + 1)).toNat)))], [], m) (fun r m1 => z_ans 150 r → TL t (1457, lo0 (i : Int), r.toList ++ [], m1))
  refine w_fines hT (wrB _) 392 m sc hI _ ?_
  intro r m1 h ha
  obtain ⟨v, rfl, hv⟩ := z_ansE (k := 150) (by decide +kernel) ha
  refine hL.2.2.2 _ _ _ _ _ (fun hs1 => ?_)
  rw [← zaval hs hs1 hi hL2 (k := 1) (by decide) (by decide)] at h
  refine hL.1 30 t _ (And.intro (zaix hs1.1 hi hL2 (k := 1) (by decide) (by decide)) ?_)
  show T 399 275 (0, [(0, zr 74), (1, zi (wr (m1 0 (wr ((i : Int) + 1)).toNat)))], [], m1) (fun r m2 => z_ans 275 r → TL t (1468, lo0 (i : Int), r.toList ++ [], m2))
  refine h 228 _ ?_
  intro r2 m2 hsame hI2 ha2
  obtain ⟨v2, rfl, hv2⟩ := z_ansE (k := 275) (by decide +kernel) ha2
  exact hL.1 4 t _ (hL.2.2.1 t _ ht (hN m2 (Inv_up (by omega) hI2)))
theorem zarm_1472 (hT : zRules T) (hL : zLRules T TL L xs) (hL2 : L ≤ 2560) {t i : Nat} {m : zM} (hi : (i : Int) + 5 ≤ L) (ht : t + 1 ≤ 520) (hB4 : B + 270 ≤ 400000) (hI : ∃ n k, Inv B sc n k m) (hN : ∀ m2, (∃ n k, Inv (B + 270) sc n k m2) → TL (t + 1) (23, lo0 ((i : Int) + 5), [], m2)) : TL t (1472, lo0 (i : Int), [], m) := by
  refine hL.2.2.2 _ _ _ _ _ (fun hs => ?_)
  refine hL.1 30 t _ ?_
  show T 399 151 (0, [(0, zr 1)], [], m) (fun r m1 => z_ans 151 r → TL t (1476, lo0 (i : Int), r.toList ++ [], m1))
  refine w_lags hT  391 m sc hI _ ?_
  intro r m1 h ha
  obtain ⟨v, rfl, hv⟩ := z_ansE (k := 151) (by decide +kernel) ha
  refine hL.2.2.2 _ _ _ _ _ (fun hs1 => ?_)
  refine hL.1 30 t _ ?_
  show T 399 276 (0, [(0, zr 74)], [], m1) (fun r m2 => z_ans 276 r → TL t (1481, lo0 (i : Int), r.toList ++ [], m2))
  refine h 228 _ ?_
  intro r2 m2 hsame hI2 ha2
  obtain ⟨v2, rfl, hv2⟩ := z_ansE (k := 276) (by decide +kernel) ha2
  exact hL.1 4 t _ (hL.2.2.1 t _ ht (hN m2 (Inv_up (by omega) hI2)))
theorem zarm_1485 (hT : zRules T) (hL : zLRules T TL L xs) (hL2 : L ≤ 2560) {t i : Nat} {m : zM} (hi : (i : Int) + 5 ≤ L) (ht : t + 1 ≤ 520) (hB4 : B + 270 ≤ 400000) (hI : ∃ n k, Inv B sc n k m) (hN : ∀ m2, (∃ n k, Inv (B + 270) sc n k m2) → TL (t + 1) (23, lo0 ((i : Int) + 5), [], m2)) : TL t (1485, lo0 (i : Int), [], m) := by
  refine hL.2.2.2 _ _ _ _ _ (fun hs => ?_)
  refine hL.1 30 t _ (And.intro (zaix hs.1 hi hL2 (k := 1) (by decide) (by decide)) ?_)
  show T 399 152 (0, [(0, zr 1), (1, zi (wr (m 0 (wr ((i : Int) + 1)).toNat)))], [], m) (fun r m1 => z_ans 152 r → TL t (1495, lo0 (i : Int), r.toList ++ [], m1))
  refine w_heights hT (wrB _) 393 m sc hI _ ?_
  intro r m1 h ha
  obtain ⟨v, rfl, hv⟩ := z_ansE (k := 152) (by decide +kernel) ha
  refine hL.2.2.2 _ _ _ _ _ (fun hs1 => ?_)
  rw [← zaval hs hs1 hi hL2 (k := 1) (by decide) (by decide)] at h
  refine hL.1 30 t _ (And.intro (zaix hs1.1 hi hL2 (k := 1) (by decide) (by decide)) ?_)
  show T 399 277 (0, [(0, zr 74), (1, zi (wr (m1 0 (wr ((i : Int) + 1)).toNat)))], [], m1) (fun r m2 => z_ans 277 r → TL t (1506, lo0 (i : Int), r.toList ++ [], m2))
  refine h 229 _ ?_
  intro r2 m2 hsame hI2 ha2
  obtain ⟨v2, rfl, hv2⟩ := z_ansE (k := 277) (by decide +kernel) ha2
  exact hL.1 4 t _ (hL.2.2.1 t _ ht (hN m2 (Inv_up (by omega) hI2)))
theorem zarm_1510 (hT : zRules T) (hL : zLRules T TL L xs) (hL2 : L ≤ 2560) {t i : Nat} {m : zM} (hi : (i : Int) + 5 ≤ L) (ht : t + 1 ≤ 520) (hB4 : B + 270 ≤ 400000) (hI : ∃ n k, Inv B sc n k m) (hN : ∀ m2, (∃ n k, Inv (B + 270) sc n k m2) → TL (t + 1) (23, lo0 ((i : Int) + 5), [], m2)) : TL t (1510, lo0 (i : Int), [], m) := by
  refine hL.2.2.2 _ _ _ _ _ (fun hs => ?_)
  refine hL.1 30 t _ (And.intro (zaix hs.1 hi hL2 (k := 1) (by decide) (by decide)) (And.intro (zaix hs.1 hi hL2 (k := 2) (by decide) (by decide)) ?_))
  show T 399 153 (0, [(0, zr 1), (1, zi (wr (m 0 (wr ((i : Int) + 1)).toNat))), (2, zi (wr (m 0 (wr ((i : Int) + 2)).toNat)))], [], m) (fun r m1 => z_ans 153 r → TL t (1526, lo0 (i : Int), r.toList ++ [], m1))
  refine w_job hT (wrB _) (wrB _) 397 m sc hI _ ?_
  intro r m1 h ha
  obtain ⟨v, rfl, hv⟩ := z_ansE (k := 153) (by decide +kernel) ha
  refine hL.2.2.2 _ _ _ _ _ (fun hs1 => ?_)
  rw [← zaval hs hs1 hi hL2 (k := 1) (by decide) (by decide)] at h
  rw [← zaval hs hs1 hi hL2 (k := 2) (by decide) (by decide)] at h
  refine hL.1 30 t _ (And.intro (zaix hs1.1 hi hL2 (k := 1) (by decide) (by decide)) (And.intro (zaix hs1.1 hi hL2 (k := 2) (by decide) (by decide)) ?_))
  show T 399 278 (0, [(0, zr 74), (1, zi (wr (m1 0 (wr ((i : Int) + 1)).toNat))), (2, zi (wr (m1 0 (wr ((i : Int) + 2)).toNat)))], [], m1) (fun r m2 => z_ans 278 r → TL t (1543, lo0 (i : Int), r.toList ++ [], m2))
  refine h 397 _ ?_
  intro r2 m2 hsame hI2 ha2
  obtain ⟨v2, rfl, hv2⟩ := z_ansE (k := 278) (by decide +kernel) ha2
  exact hL.1 4 t _ (hL.2.2.1 t _ ht (hN m2 (Inv_up (by omega) hI2)))
theorem zarm_1547 (hT : zRules T) (hL : zLRules T TL L xs) (hL2 : L ≤ 2560) {t i : Nat} {m : zM} (hi : (i : Int) + 5 ≤ L) (ht : t + 1 ≤ 520) (hB4 : B + 270 ≤ 400000) (hI : ∃ n k, Inv B sc n k m) (hN : ∀ m2, (∃ n k, Inv (B + 270) sc n k m2) → TL (t + 1) (23, lo0 ((i : Int) + 5), [], m2)) : TL t (1547, lo0 (i : Int), [], m) := by
  refine hL.2.2.2 _ _ _ _ _ (fun hs => ?_)
  refine hL.1 30 t _ ?_
  show T 399 154 (0, [(0, zr 1)], [], m) (fun r m1 => z_ans 154 r → TL t (1551, lo0 (i : Int), r.toList ++ [], m1))
  refine w_rest hT  397 m sc hI _ ?_
  intro r m1 h ha
  obtain ⟨v, rfl, hv⟩ := z_ansE (k := 154) (by decide +kernel) ha
  refine hL.2.2.2 _ _ _ _ _ (fun hs1 => ?_)
  refine hL.1 30 t _ ?_
  show T 399 279 (0, [(0, zr 74)], [], m1) (fun r m2 => z_ans 279 r → TL t (1556, lo0 (i : Int), r.toList ++ [], m2))
  refine h 397 _ ?_
  intro r2 m2 hsame hI2 ha2
  obtain ⟨v2, rfl, hv2⟩ := z_ansE (k := 279) (by decide +kernel) ha2
  exact hL.1 4 t _ (hL.2.2.1 t _ ht (hN m2 (Inv_up (by omega) hI2)))
theorem zarm_1560 (hT : zRules T) (hL : zLRules T TL L xs) (hL2 : L ≤ 2560) {t i : Nat} {m : zM} (hi : (i : Int) + 5 ≤ L) (ht : t + 1 ≤ 520) (hB4 : B + 270 ≤ 400000) (hI : ∃ n k, Inv B sc n k m) (hN : ∀ m2, (∃ n k, Inv (B + 270) sc n k m2) → TL (t + 1) (23, lo0 ((i : Int) + 5), [], m2)) : TL t (1560, lo0 (i : Int), [], m) := by
  refine hL.2.2.2 _ _ _ _ _ (fun hs => ?_)
  refine hL.1 30 t _ ?_
  show T 399 155 (0, [(0, zr 1)], [], m) (fun r m1 => z_ans 155 r → TL t (1564, lo0 (i : Int), r.toList ++ [], m1))
  refine w_late0 hT  394 m sc hI _ ?_
  intro r m1 h ha
  obtain ⟨v, rfl, hv⟩ := z_ansE (k := 155) (by decide +kernel) ha
  refine hL.2.2.2 _ _ _ _ _ (fun hs1 => ?_)
  refine hL.1 30 t _ ?_
  show T 399 281 (0, [(0, zr 74)], [], m1) (fun r m2 => z_ans 281 r → TL t (1569, lo0 (i : Int), r.toList ++ [], m2))
  refine h 390 _ ?_
  intro r2 m2 hsame hI2 ha2
  obtain ⟨v2, rfl, hv2⟩ := z_ansE (k := 281) (by decide +kernel) ha2
  exact hL.1 4 t _ (hL.2.2.1 t _ ht (hN m2 (Inv_up (by omega) hI2)))
theorem zarm_1573 (hT : zRules T) (hL : zLRules T TL L xs) (hL2 : L ≤ 2560) {t i : Nat} {m : zM} (hi : (i : Int) + 5 ≤ L) (ht : t + 1 ≤ 520) (hB4 : B + 270 ≤ 400000) (hI : ∃ n k, Inv B sc n k m) (hN : ∀ m2, (∃ n k, Inv (B + 270) sc n k m2) → TL (t + 1) (23, lo0 ((i : Int) + 5), [], m2)) : TL t (1573, lo0 (i : Int), [], m) := by
  refine hL.2.2.2 _ _ _ _ _ (fun hs => ?_)
  refine hL.1 30 t _ ?_
  show T 399 156 (0, [(0, zr 1)], [], m) (fun r m1 => z_ans 156 r → TL t (1577, lo0 (i : Int), r.toList ++ [], m1))
  refine w_timely0 hT  394 m sc hI _ ?_
  intro r m1 h ha
  obtain ⟨v, rfl, hv⟩ := z_ansE (k := 156) (by decide +kernel) ha
  refine hL.2.2.2 _ _ _ _ _ (fun hs1 => ?_)
  refine hL.1 30 t _ ?_
  show T 399 283 (0, [(0, zr 74)], [], m1) (fun r m2 => z_ans 283 r → TL t (1582, lo0 (i : Int), r.toList ++ [], m2))
  refine h 396 _ ?_
  intro r2 m2 hsame hI2 ha2
  obtain ⟨v2, rfl, hv2⟩ := z_ansE (k := 283) (by decide +kernel) ha2
  exact hL.1 4 t _ (hL.2.2.1 t _ ht (hN m2 (Inv_up (by omega) hI2)))
theorem zarm_1586 (hT : zRules T) (hL : zLRules T TL L xs) (hL2 : L ≤ 2560) {t i : Nat} {m : zM} (hi : (i : Int) + 5 ≤ L) (ht : t + 1 ≤ 520) (hB4 : B + 270 ≤ 400000) (hI : ∃ n k, Inv B sc n k m) (hN : ∀ m2, (∃ n k, Inv (B + 270) sc n k m2) → TL (t + 1) (23, lo0 ((i : Int) + 5), [], m2)) : TL t (1586, lo0 (i : Int), [], m) := by
  refine hL.2.2.2 _ _ _ _ _ (fun hs => ?_)
  refine hL.1 30 t _ (And.intro (zaix hs.1 hi hL2 (k := 1) (by decide) (by decide)) ?_)
  show T 399 157 (0, [(0, zr 1), (1, zi (wr (m 0 (wr ((i : Int) + 1)).toNat)))], [], m) (fun r m1 => z_ans 157 r → TL t (1596, lo0 (i : Int), r.toList ++ [], m1))
  refine w_hired hT (wrB _) 394 m sc hI _ ?_
  intro r m1 h ha
  obtain ⟨v, rfl, hv⟩ := z_ansE (k := 157) (by decide +kernel) ha
  refine hL.2.2.2 _ _ _ _ _ (fun hs1 => ?_)
  rw [← zaval hs hs1 hi hL2 (k := 1) (by decide) (by decide)] at h
  refine hL.1 30 t _ (And.intro (zaix hs1.1 hi hL2 (k := 1) (by decide) (by decide)) ?_)
  show T 399 285 (0, [(0, zr 74), (1, zi (wr (m1 0 (wr ((i : Int) + 1)).toNat)))], [], m1) (fun r m2 => z_ans 285 r → TL t (1607, lo0 (i : Int), r.toList ++ [], m2))
  refine h 390 _ ?_
  intro r2 m2 hsame hI2 ha2
  obtain ⟨v2, rfl, hv2⟩ := z_ansE (k := 285) (by decide +kernel) ha2
  exact hL.1 4 t _ (hL.2.2.1 t _ ht (hN m2 (Inv_up (by omega) hI2)))
theorem zarm_1611 (hT : zRules T) (hL : zLRules T TL L xs) (hL2 : L ≤ 2560) {t i : Nat} {m : zM} (hi : (i : Int) + 5 ≤ L) (ht : t + 1 ≤ 520) (hB4 : B + 270 ≤ 400000) (hI : ∃ n k, Inv B sc n k m) (hN : ∀ m2, (∃ n k, Inv (B + 270) sc n k m2) → TL (t + 1) (23, lo0 ((i : Int) + 5), [], m2)) : TL t (1611, lo0 (i : Int), [], m) := by
  refine hL.2.2.2 _ _ _ _ _ (fun hs => ?_)
  refine hL.1 30 t _ (And.intro (zaix hs.1 hi hL2 (k := 1) (by decide) (by decide)) (And.intro (zaix hs.1 hi hL2 (k := 2) (by decide) (by decide)) (And.intro (zaix hs.1 hi hL2 (k := 3) (by decide) (by decide)) ?_)))
  show T 399 158 (0, [(0, zr 1), (1, zi (wr (m 0 (wr ((i : Int) + 1)).toNat))), (2, zi (wr (m 0 (wr ((i : Int) + 2)).toNat))), (3, zi (wr (m 0 (wr ((i : Int) + 3)).toNat)))], [], m) (fun r m1 => z_ans 158 r → TL t (1633, lo0 (i : Int), r.toList ++ [], m1))
  refine w_draw hT (wrB _) (wrB _) (wrB _) 397 m sc hI _ ?_
  intro r m1 h ha
  obtain ⟨v, rfl, hv⟩ := z_ansE (k := 158) (by decide +kernel) ha
  refine hL.2.2.2 _ _ _ _ _ (fun hs1 => ?_)
  rw [← zaval hs hs1 hi hL2 (k := 1) (by decide) (by decide)] at h
  rw [← zaval hs hs1 hi hL2 (k := 2) (by decide) (by decide)] at h
  rw [← zaval hs hs1 hi hL2 (k := 3) (by decide) (by decide)] at h
  refine hL.1 30 t _ (And.intro (zaix hs1.1 hi hL2 (k := 1) (by decide) (by decide)) (And.intro (zaix hs1.1 hi hL2 (k := 2) (by decide) (by decide)) (And.intro (zaix hs1.1 hi hL2 (k := 3) (by decide) (by decide)) ?_)))
  show T 399 286 (0, [(0, zr 74), (1, zi (wr (m1 0 (wr ((i : Int) + 1)).toNat))), (2, zi (wr (m1 0 (wr ((i : Int) + 2)).toNat))), (3, zi (wr (m1 0 (wr ((i : Int) + 3)).toNat)))], [], m1) (fun r m2 => z_ans 286 r → TL t (1656, lo0 (i : Int), r.toList ++ [], m2))
  refine h 397 _ ?_
  intro r2 m2 hsame hI2 ha2
  obtain ⟨v2, rfl, hv2⟩ := z_ansE (k := 286) (by decide +kernel) ha2
  exact hL.1 4 t _ (hL.2.2.1 t _ ht (hN m2 (Inv_up (by omega) hI2)))
theorem zarm_1660 (hT : zRules T) (hL : zLRules T TL L xs) (hL2 : L ≤ 2560) {t i : Nat} {m : zM} (hi : (i : Int) + 5 ≤ L) (ht : t + 1 ≤ 520) (hB4 : B + 270 ≤ 400000) (hI : ∃ n k, Inv B sc n k m) (hN : ∀ m2, (∃ n k, Inv (B + 270) sc n k m2) → TL (t + 1) (23, lo0 ((i : Int) + 5), [], m2)) : TL t (1660, lo0 (i : Int), [], m) := by
  refine hL.2.2.2 _ _ _ _ _ (fun hs => ?_)
  refine hL.1 30 t _ (And.intro (zaix hs.1 hi hL2 (k := 1) (by decide) (by decide)) ?_)
  show T 399 159 (0, [(0, zr 1), (1, zi (wr (m 0 (wr ((i : Int) + 1)).toNat)))], [], m) (fun r m1 => z_ans 159 r → TL t (1670, lo0 (i : Int), r.toList ++ [], m1))
  refine w_keep hT (wrB _) 395 m sc hI _ ?_
  intro r m1 h ha
  obtain ⟨v, rfl, hv⟩ := z_ansE (k := 159) (by decide +kernel) ha
  refine hL.2.2.2 _ _ _ _ _ (fun hs1 => ?_)
  rw [← zaval hs hs1 hi hL2 (k := 1) (by decide) (by decide)] at h
  refine hL.1 30 t _ (And.intro (zaix hs1.1 hi hL2 (k := 1) (by decide) (by decide)) ?_)
  show T 399 287 (0, [(0, zr 74), (1, zi (wr (m1 0 (wr ((i : Int) + 1)).toNat)))], [], m1) (fun r m2 => z_ans 287 r → TL t (1681, lo0 (i : Int), r.toList ++ [], m2))
  refine h 397 _ ?_
  intro r2 m2 hsame hI2 ha2
  obtain ⟨v2, rfl, hv2⟩ := z_ansE (k := 287) (by decide +kernel) ha2
  exact hL.1 4 t _ (hL.2.2.1 t _ ht (hN m2 (Inv_up (by omega) hI2)))
theorem zarm_1685 (hT : zRules T) (hL : zLRules T TL L xs) (hL2 : L ≤ 2560) {t i : Nat} {m : zM} (hi : (i : Int) + 5 ≤ L) (ht : t + 1 ≤ 520) (hB4 : B + 270 ≤ 400000) (hI : ∃ n k, Inv B sc n k m) (hN : ∀ m2, (∃ n k, Inv (B + 270) sc n k m2) → TL (t + 1) (23, lo0 ((i : Int) + 5), [], m2)) : TL t (1685, lo0 (i : Int), [], m) := by
  refine hL.2.2.2 _ _ _ _ _ (fun hs => ?_)
  refine hL.1 30 t _ (And.intro (zaix hs.1 hi hL2 (k := 1) (by decide) (by decide)) ?_)
  show T 399 160 (0, [(0, zr 1), (1, zi (wr (m 0 (wr ((i : Int) + 1)).toNat)))], [], m) (fun r m1 => z_ans 160 r → TL t (1695, lo0 (i : Int), r.toList ++ [], m1))
  refine w_again hT (wrB _) 395 m sc hI _ ?_
  intro r m1 h ha
  obtain ⟨v, rfl, hv⟩ := z_ansE (k := 160) (by decide +kernel) ha
  refine hL.2.2.2 _ _ _ _ _ (fun hs1 => ?_)
  rw [← zaval hs hs1 hi hL2 (k := 1) (by decide) (by decide)] at h
  refine hL.1 30 t _ (And.intro (zaix hs1.1 hi hL2 (k := 1) (by decide) (by decide)) ?_)
  show T 399 288 (0, [(0, zr 74), (1, zi (wr (m1 0 (wr ((i : Int) + 1)).toNat)))], [], m1) (fun r m2 => z_ans 288 r → TL t (1706, lo0 (i : Int), r.toList ++ [], m2))
  refine h 397 _ ?_
  intro r2 m2 hsame hI2 ha2
  obtain ⟨v2, rfl, hv2⟩ := z_ansE (k := 288) (by decide +kernel) ha2
  exact hL.1 4 t _ (hL.2.2.1 t _ ht (hN m2 (Inv_up (by omega) hI2)))
theorem zarm_1710 (hT : zRules T) (hL : zLRules T TL L xs) (hL2 : L ≤ 2560) {t i : Nat} {m : zM} (hi : (i : Int) + 5 ≤ L) (ht : t + 1 ≤ 520) (hB4 : B + 270 ≤ 400000) (hI : ∃ n k, Inv B sc n k m) (hN : ∀ m2, (∃ n k, Inv (B + 270) sc n k m2) → TL (t + 1) (23, lo0 ((i : Int) + 5), [], m2)) : TL t (1710, lo0 (i : Int), [], m) := by
  refine hL.2.2.2 _ _ _ _ _ (fun hs => ?_)
  refine hL.1 30 t _ (And.intro (zaix hs.1 hi hL2 (k := 1) (by decide) (by decide)) ?_)
  show T 399 161 (0, [(0, zr 1), (1, zi (wr (m 0 (wr ((i : Int) + 1)).toNat)))], [], m) (fun r m1 => z_ans 161 r → TL t (1720, lo0 (i : Int), r.toList ++ [], m1))
  refine w_count hT (wrB _) 397 m sc hI _ ?_
  intro r m1 h ha
  obtain ⟨v, rfl, hv⟩ := z_ansE (k := 161) (by decide +kernel) ha
  refine hL.2.2.2 _ _ _ _ _ (fun hs1 => ?_)
  rw [← zaval hs hs1 hi hL2 (k := 1) (by decide) (by decide)] at h
  refine hL.1 30 t _ (And.intro (zaix hs1.1 hi hL2 (k := 1) (by decide) (by decide)) ?_)
  show T 399 290 (0, [(0, zr 74), (1, zi (wr (m1 0 (wr ((i : Int) + 1)).toNat)))], [], m1) (fun r m2 => z_ans 290 r → TL t (1731, lo0 (i : Int), r.toList ++ [], m2))
  refine h 397 _ ?_
  intro r2 m2 hsame hI2 ha2
  obtain ⟨v2, rfl, hv2⟩ := z_ansE (k := 290) (by decide +kernel) ha2
  exact hL.1 4 t _ (hL.2.2.1 t _ ht (hN m2 (Inv_up (by omega) hI2)))
theorem zarm_1735 (hT : zRules T) (hL : zLRules T TL L xs) (hL2 : L ≤ 2560) {t i : Nat} {m : zM} (hi : (i : Int) + 5 ≤ L) (ht : t + 1 ≤ 520) (hB4 : B + 270 ≤ 400000) (hI : ∃ n k, Inv B sc n k m) (hN : ∀ m2, (∃ n k, Inv (B + 270) sc n k m2) → TL (t + 1) (23, lo0 ((i : Int) + 5), [], m2)) : TL t (1735, lo0 (i : Int), [], m) := by
  refine hL.2.2.2 _ _ _ _ _ (fun hs => ?_)
  refine hL.1 30 t _ (And.intro (zaix hs.1 hi hL2 (k := 1) (by decide) (by decide)) (And.intro ht ?_))
  show zLHlp T TL t 302 [zr 1, zi (m 0 (wr ((i : Int) + 1)).toNat), zr 109] (1746, lo0 (i : Int), [], m)
  refine Or.inr ⟨_, rfl, Or.inr ⟨rfl, ?_⟩⟩
  refine (n_row (B := B) hT (wrB _)).1 396 m sc hI _ ?_
  intro r m1 hr hI1
  have nxt : ∀ (kk : Int) (mm : zM), (∃ n k, Inv B sc n k mm) → TL (t + 1) (1746, lo0 (i : Int), [zi kk], mm) := fun kk mm hIm => by
    refine hL.2.2.2 _ _ _ _ _ (fun hs1 => ?_)
    refine hL.1 30 (t + 1) _ (And.intro (zaix hs1.1 hi hL2 (k := 1) (by decide) (by decide)) ?_)
    show T 399 291 (0, [(0, zr 74), (1, zi (wr (mm 0 (wr ((i : Int) + 1)).toNat)))], [], mm) (fun r m1 => z_ans 291 r → TL (t + 1) (1758, z_lset (lo0 (i : Int)) 5 (zi kk), r.toList ++ [], m1))
    refine (n_row (B := B) hT (wrB _)).2 397 mm sc hIm _ ?_
    intro r2 m2 hI2 ha2
    obtain ⟨v2, rfl, hv2⟩ := z_ansE (k := 291) (by decide +kernel) ha2
    exact hL.1 4 (t + 1) _ (hL.2.1 [0, 1, 2, 3, 4] _ _ _ _ _ (hN m2 (Inv_up (by omega) hI2)))
  exact ⟨fun _ => nxt 1 m1 hI1, fun v _ _ => nxt 0 _ (Inv_109 hI1)⟩
noncomputable def zarmB (a : Nat) : Bool := Nat.beq a 256 || (Nat.beq a 281 || (Nat.beq a 306 || (Nat.beq a 319 || (Nat.beq a 332 || (Nat.beq a 345 || (Nat.beq a 385 || (Nat.beq a 425 || (Nat.beq a 462 || (Nat.beq a 511 || (Nat.beq a 548 || (Nat.beq a 609 || (Nat.beq a 646 || (Nat.beq a 683 || (Nat.beq a 720 || (Nat.beq a 733 || (Nat.beq a 758 || (Nat.beq a 771 || (Nat.beq a 784 || (Nat.beq a 840 || (Nat.beq a 877 || (Nat.beq a 902 || (Nat.beq a 927 || (Nat.beq a 952 || (Nat.beq a 1001 || (Nat.beq a 1050 || (Nat.beq a 1099 || (Nat.beq a 1136 || (Nat.beq a 1161 || (Nat.beq a 1198 || (Nat.beq a 1247 || (Nat.beq a 1260 || (Nat.beq a 1285 || (Nat.beq a 1310 || (Nat.beq a 1323 || (Nat.beq a 1348 || (Nat.beq a 1373 || (Nat.beq a 1434 || (Nat.beq a 1447 || (Nat.beq a 1472 || (Nat.beq a 1485 || (Nat.beq a 1510 || (Nat.beq a 1547 || (Nat.beq a 1560 || (Nat.beq a 1573 || (Nat.beq a 1586 || (Nat.beq a 1611 || (Nat.beq a 1660 || (Nat.beq a 1685 || (Nat.beq a 1710 || (Nat.beq a 1735))))))))))))))))))))))))))))))))))))))))))))))))))
theorem zarm_all {l : List Int} {o : Int} (hl : l.all (fun o => zarmB (((39 : Nat) : Int) + o).toNat) = true) (ho : o ∈ l) : zarmB (((39 : Nat) : Int) + o).toNat = true := List.all_eq_true.mp hl o ho
theorem zarm (hT : zRules T) (hL : zLRules T TL L xs) (hL2 : L ≤ 2560) {t i : Nat} {m : zM} (hi : (i : Int) + 5 ≤ L) (ht : t + 1 ≤ 520) (hB4 : B + 270 ≤ 400000) (hI : ∃ n k, Inv B sc n k m) (hN : ∀ m2, (∃ n k, Inv (B + 270) sc n k m2) → TL (t + 1) (23, lo0 ((i : Int) + 5), [], m2)) (a : Nat) (ha : zarmB a = true) : TL t (a, lo0 (i : Int), [], m) := by
  unfold zarmB at ha
  rw [Bool.or_eq_true] at ha
  rcases ha with ha | ha
  · rw [Nat.eq_of_beq_eq_true ha]
    exact zarm_256 hT hL hL2 hi ht hB4 hI hN
  rw [Bool.or_eq_true] at ha
  rcases ha with ha | ha
  · rw [Nat.eq_of_beq_eq_true ha]
    exact zarm_281 hT hL hL2 hi ht hB4 hI hN
  rw [Bool.or_eq_true] at ha
  rcases ha with ha | ha
  · rw [Nat.eq_of_beq_eq_true ha]
    exact zarm_306 hT hL hL2 hi ht hB4 hI hN
  rw [Bool.or_eq_true] at ha
  rcases ha with ha | ha
  · rw [Nat.eq_of_beq_eq_true ha]
    exact zarm_319 hT hL hL2 hi ht hB4 hI hN
  rw [Bool.or_eq_true] at ha
  rcases ha with ha | ha
  · rw [Nat.eq_of_beq_eq_true ha]
    exact zarm_332 hT hL hL2 hi ht hB4 hI hN
  rw [Bool.or_eq_true] at ha
  rcases ha with ha | ha
  · rw [Nat.eq_of_beq_eq_true ha]
    exact zarm_345 hT hL hL2 hi ht hB4 hI hN
  rw [Bool.or_eq_true] at ha
  rcases ha with ha | ha
  · rw [Nat.eq_of_beq_eq_true ha]
    exact zarm_385 hT hL hL2 hi ht hB4 hI hN
  rw [Bool.or_eq_true] at ha
  rcases ha with ha | ha
  · rw [Nat.eq_of_beq_eq_true ha]
    exact zarm_425 hT hL hL2 hi ht hB4 hI hN
  rw [Bool.or_eq_true] at ha
  rcases ha with ha | ha
  · rw [Nat.eq_of_beq_eq_true ha]
    exact zarm_462 hT hL hL2 hi ht hB4 hI hN
  rw [Bool.or_eq_true] at ha
  rcases ha with ha | ha
  · rw [Nat.eq_of_beq_eq_true ha]
    exact zarm_511 hT hL hL2 hi ht hB4 hI hN
  rw [Bool.or_eq_true] at ha
  rcases ha with ha | ha
  · rw [Nat.eq_of_beq_eq_true ha]
    exact zarm_548 hT hL hL2 hi ht hB4 hI hN
  rw [Bool.or_eq_true] at ha
  rcases ha with ha | ha
  · rw [Nat.eq_of_beq_eq_true ha]
    exact zarm_609 hT hL hL2 hi ht hB4 hI hN
  rw [Bool.or_eq_true] at ha
  rcases ha with ha | ha
  · rw [Nat.eq_of_beq_eq_true ha]
    exact zarm_646 hT hL hL2 hi ht hB4 hI hN
  rw [Bool.or_eq_true] at ha
  rcases ha with ha | ha
  · rw [Nat.eq_of_beq_eq_true ha]
    exact zarm_683 hT hL hL2 hi ht hB4 hI hN
  rw [Bool.or_eq_true] at ha
  rcases ha with ha | ha
  · rw [Nat.eq_of_beq_eq_true ha]
    exact zarm_720 hT hL hL2 hi ht hB4 hI hN
  rw [Bool.or_eq_true] at ha
  rcases ha with ha | ha
  · rw [Nat.eq_of_beq_eq_true ha]
    exact zarm_733 hT hL hL2 hi ht hB4 hI hN
  rw [Bool.or_eq_true] at ha
  rcases ha with ha | ha
  · rw [Nat.eq_of_beq_eq_true ha]
    exact zarm_758 hT hL hL2 hi ht hB4 hI hN
  rw [Bool.or_eq_true] at ha
  rcases ha with ha | ha
  · rw [Nat.eq_of_beq_eq_true ha]
    exact zarm_771 hT hL hL2 hi ht hB4 hI hN
  rw [Bool.or_eq_true] at ha
  rcases ha with ha | ha
  · rw [Nat.eq_of_beq_eq_true ha]
    exact zarm_784 hT hL hL2 hi ht hB4 hI hN
  rw [Bool.or_eq_true] at ha
  rcases ha with ha | ha
  · rw [Nat.eq_of_beq_eq_true ha]
    exact zarm_840 hT hL hL2 hi ht hB4 hI hN
  rw [Bool.or_eq_true] at ha
  rcases ha with ha | ha
  · rw [Nat.eq_of_beq_eq_true ha]
    exact zarm_877 hT hL hL2 hi ht hB4 hI hN
  rw [Bool.or_eq_true] at ha
  rcases ha with ha | ha
  · rw [Nat.eq_of_beq_eq_true ha]
    exact zarm_902 hT hL hL2 hi ht hB4 hI hN
  rw [Bool.or_eq_true] at ha
  rcases ha with ha | ha
  · rw [Nat.eq_of_beq_eq_true ha]
    exact zarm_927 hT hL hL2 hi ht hB4 hI hN
  rw [Bool.or_eq_true] at ha
  rcases ha with ha | ha
  · rw [Nat.eq_of_beq_eq_true ha]
    exact zarm_952 hT hL hL2 hi ht hB4 hI hN
  rw [Bool.or_eq_true] at ha
  rcases ha with ha | ha
  · rw [Nat.eq_of_beq_eq_true ha]
    exact zarm_1001 hT hL hL2 hi ht hB4 hI hN
  rw [Bool.or_eq_true] at ha
  rcases ha with ha | ha
  · rw [Nat.eq_of_beq_eq_true ha]
    exact zarm_1050 hT hL hL2 hi ht hB4 hI hN
  rw [Bool.or_eq_true] at ha
  rcases ha with ha | ha
  · rw [Nat.eq_of_beq_eq_true ha]
    exact zarm_1099 hT hL hL2 hi ht hB4 hI hN
  rw [Bool.or_eq_true] at ha
  rcases ha with ha | ha
  · rw [Nat.eq_of_beq_eq_true ha]
    exact zarm_1136 hT hL hL2 hi ht hB4 hI hN
  rw [Bool.or_eq_true] at ha
  rcases ha with ha | ha
  · rw [Nat.eq_of_beq_eq_true ha]
    exact zarm_1161 hT hL hL2 hi ht hB4 hI hN
  rw [Bool.or_eq_true] at ha
  rcases ha with ha | ha
  · rw [Nat.eq_of_beq_eq_true ha]
    exact zarm_1198 hT hL hL2 hi ht hB4 hI hN
  rw [Bool.or_eq_true] at ha
  rcases ha with ha | ha
  · rw [Nat.eq_of_beq_eq_true ha]
    exact zarm_1247 hT hL hL2 hi ht hB4 hI hN
  rw [Bool.or_eq_true] at ha
  rcases ha with ha | ha
  · rw [Nat.eq_of_beq_eq_true ha]
    exact zarm_1260 hT hL hL2 hi ht hB4 hI hN
  rw [Bool.or_eq_true] at ha
  rcases ha with ha | ha
  · rw [Nat.eq_of_beq_eq_true ha]
    exact zarm_1285 hT hL hL2 hi ht hB4 hI hN
  rw [Bool.or_eq_true] at ha
  rcases ha with ha | ha
  · rw [Nat.eq_of_beq_eq_true ha]
    exact zarm_1310 hT hL hL2 hi ht hB4 hI hN
  rw [Bool.or_eq_true] at ha
  rcases ha with ha | ha
  · rw [Nat.eq_of_beq_eq_true ha]
    exact zarm_1323 hT hL hL2 hi ht hB4 hI hN
  rw [Bool.or_eq_true] at ha
  rcases ha with ha | ha
  · rw [Nat.eq_of_beq_eq_true ha]
    exact zarm_1348 hT hL hL2 hi ht hB4 hI hN
  rw [Bool.or_eq_true] at ha
  rcases ha with ha | ha
  · rw [Nat.eq_of_beq_eq_true ha]
    exact zarm_1373 hT hL hL2 hi ht hB4 hI hN
  rw [Bool.or_eq_true] at ha
  rcases ha with ha | ha
  · rw [Nat.eq_of_beq_eq_true ha]
    exact zarm_1434 hT hL hL2 hi ht hB4 hI hN
  rw [Bool.or_eq_true] at ha
  rcases ha with ha | ha
  · rw [Nat.eq_of_beq_eq_true ha]
    exact zarm_1447 hT hL hL2 hi ht hB4 hI hN
  rw [Bool.or_eq_true] at ha
  rcases ha with ha | ha
  · rw [Nat.eq_of_beq_eq_true ha]
    exact zarm_1472 hT hL hL2 hi ht hB4 hI hN
  rw [Bool.or_eq_true] at ha
  rcases ha with ha | ha
  · rw [Nat.eq_of_beq_eq_true ha]
    exact zarm_1485 hT hL hL2 hi ht hB4 hI hN
  rw [Bool.or_eq_true] at ha
  rcases ha with ha | ha
  · rw [Nat.eq_of_beq_eq_true ha]
    exact zarm_1510 hT hL hL2 hi ht hB4 hI hN
  rw [Bool.or_eq_true] at ha
  rcases ha with ha | ha
  · rw [Nat.eq_of_beq_eq_true ha]
    exact zarm_1547 hT hL hL2 hi ht hB4 hI hN
  rw [Bool.or_eq_true] at ha
  rcases ha with ha | ha
  · rw [Nat.eq_of_beq_eq_true ha]
    exact zarm_1560 hT hL hL2 hi ht hB4 hI hN
  rw [Bool.or_eq_true] at ha
  rcases ha with ha | ha
  · rw [Nat.eq_of_beq_eq_true ha]
    exact zarm_1573 hT hL hL2 hi ht hB4 hI hN
  rw [Bool.or_eq_true] at ha
  rcases ha with ha | ha
  · rw [Nat.eq_of_beq_eq_true ha]
    exact zarm_1586 hT hL hL2 hi ht hB4 hI hN
  rw [Bool.or_eq_true] at ha
  rcases ha with ha | ha
  · rw [Nat.eq_of_beq_eq_true ha]
    exact zarm_1611 hT hL hL2 hi ht hB4 hI hN
  rw [Bool.or_eq_true] at ha
  rcases ha with ha | ha
  · rw [Nat.eq_of_beq_eq_true ha]
    exact zarm_1660 hT hL hL2 hi ht hB4 hI hN
  rw [Bool.or_eq_true] at ha
  rcases ha with ha | ha
  · rw [Nat.eq_of_beq_eq_true ha]
    exact zarm_1685 hT hL hL2 hi ht hB4 hI hN
  rw [Bool.or_eq_true] at ha
  rcases ha with ha | ha
  · rw [Nat.eq_of_beq_eq_true ha]
    exact zarm_1710 hT hL hL2 hi ht hB4 hI hN
  rw [Nat.eq_of_beq_eq_true ha]
  exact zarm_1735 hT hL hL2 hi ht hB4 hI hN
theorem zhead (hT : zRules T) (hL : zLRules T TL L xs) (hL0 : 0 ≤ L) (hL2 : L ≤ 2560) {t i : Nat} {m : zM} (hi2 : (i : Int) ≤ 2560) (ht : t + 1 ≤ 520) (hB4 : (i : Int) + 5 ≤ L → B + 270 ≤ 400000) (hI : ∃ n k, Inv B sc n k m) (hN : (i : Int) + 5 ≤ L → ∀ m2, (∃ n k, Inv (B + 270) sc n k m2) → TL (t + 1) (23, lo0 ((i : Int) + 5), [], m2)) : TL t (23, lo0 (i : Int), [], m) := by
  refine hL.2.2.2 _ _ _ _ _ (fun hs => ?_)
  refine hL.1 12 t _ (And.intro (fun _ => And.intro (z_b01L rfl) rfl) (fun hng => ?_))
  have hi : (i : Int) + 5 ≤ L := by
    have hng : ¬ wr (m 110 0 - 5) < wr (i : Int) := hng
    rw [hs.1, wr_id (by omega) (by omega), wr_id (by omega) (by omega)] at hng
    omega
  refine And.intro ?_ ?_
  · have := zaix hs.1 hi hL2 (k := 0) (by decide) (by decide)
    rw [Int.add_zero] at this
    exact this
  · refine z_tabA _ _ ?_ ?_
    · intro o ho
      exact zarm hT hL hL2 hi ht (hB4 hi) hI (hN hi) _ (zarm_all (by decide +kernel) ho)
    · show TL t (1763, lo0 (i : Int), [], m)
      exact hL.1 2 t _ (hL.2.2.1 t _ ht (hN hi m (Inv_up (by omega) hI)))
theorem zloop (hT : zRules T) (hL : zLRules T TL L xs) (hL0 : 0 ≤ L) (hL2 : L ≤ 2560) : ∀ (n i t : Nat) (m : zM), L - (i : Int) < (n : Int) → 5 * t ≤ i → (i : Int) ≤ 2560 → (∃ n k, Inv (270 * (t : Int)) sc n k m) → TL t (23, lo0 (i : Int), [], m) := by
  intro n
  induction n with
  | zero =>
    intro i t m hn h5 hi2 hI
    exact zhead hT hL hL0 hL2 hi2 (by omega) (fun h => by omega) hI (fun h => by omega)
  | succ n ih =>
    intro i t m hn h5 hi2 hI
    refine zhead hT hL hL0 hL2 hi2 (by omega) (fun h => by omega) hI (fun h m2 hI2 => ?_)
    have := ih (i + 5) (t + 1) m2 (by omega) (by omega) (by omega) (by
      rw [show 270 * ((t + 1 : Nat) : Int) = 270 * (t : Int) + 270 by omega]
      exact hI2)
    rw [show ((i + 5 : Nat) : Int) = (i : Int) + 5 by omega] at this
    exact this
end ZArms
