/-! nearest(). -/
theorem cost_rng {s w p q : Int} (hs : 0 ≤ s ∧ s ≤ 101) (hw : 0 ≤ w ∧ w ≤ 3) (hp : 0 ≤ p ∧ p ≤ 9) (hq : 0 ≤ q ∧ q ≤ 9) : 0 ≤ s * p + w * q ∧ s * p + w * q ≤ 1000 := by
  have h1 := Int.mul_nonneg hs.1 hp.1
  have h2 := Int.mul_nonneg hw.1 hq.1
  have h3 : s * p ≤ 101 * 9 := Int.mul_le_mul hs.2 hp.2 hp.1 (by omega)
  have h4 : w * q ≤ 3 * 9 := Int.mul_le_mul hw.2 hq.2 hq.1 (by omega)
  omega
theorem cost_wr {s w p q : Int} (hs : 0 ≤ s ∧ s ≤ 101) (hw : 0 ≤ w ∧ w ≤ 3) (hp : 0 ≤ p ∧ p ≤ 9) (hq : 0 ≤ q ∧ q ≤ 9) : 0 ≤ wr (s * p + w * q) ∧ wr (s * p + w * q) ≤ 1000 := by
  have h := cost_rng hs hw hp hq
  rw [wr_id (by omega) (by omega)]
  exact h
theorem mkA_cost {h v : Int} {g : Nat → Int} {c : Nat} (h1 : -1 ≤ g (c + 12)) (h2 : -1 ≤ g (c + 20)) (hv : 0 ≤ v ∧ v ≤ 99) : (0 ≤ (mkA h (g, 0, 0, 0) c v).2.1 ∧ (mkA h (g, 0, 0, 0) c v).2.1 ≤ 101) ∧ 0 ≤ (mkA h (g, 0, 0, 0) c v).2.2.1 ∧ (mkA h (g, 0, 0, 0) c v).2.2.1 ≤ 3 := by
  unfold mkA
  dsimp only
  by_cases q1 : g (c + 12) = v
  · rw [if_pos q1]
    exact ⟨⟨by dsimp only; omega, by dsimp only; omega⟩, by dsimp only; omega, by dsimp only; omega⟩
  · rw [if_neg q1]
    by_cases q2 : g (c + 12) + g (c + 20) < v
    · rw [if_pos q2]
      exact ⟨⟨by dsimp only; omega, by dsimp only; omega⟩, by dsimp only; omega, by dsimp only; omega⟩
    · rw [if_neg q2]
      by_cases q3 : v + h < g (c + 12) + g (c + 20)
      · rw [if_pos q3]
        exact ⟨⟨by dsimp only; omega, by dsimp only; omega⟩, by dsimp only; omega, by dsimp only; omega⟩
      · rw [if_neg q3]
        exact ⟨⟨by dsimp only; omega, by dsimp only; omega⟩, by dsimp only; omega, by dsimp only; omega⟩
/-- what a cloth costs to be made so long -/
noncomputable def cstV (m : zM) (l : Int) (c : Nat) : Int := (mkA (m 24 0) (m 75, 0, 0, 0) c l).2.1 * m 24 1 + (mkA (m 24 0) (m 75, 0, 0, 0) c l).2.2.1 * m 24 2
theorem mkA_c {h v : Int} {g g2 : Nat → Int} {c : Nat} (e1 : g2 (c + 12) = g (c + 12)) (e2 : g2 (c + 20) = g (c + 20)) : (mkA h (g2, 0, 0, 0) c v).2.1 = (mkA h (g, 0, 0, 0) c v).2.1 ∧ (mkA h (g2, 0, 0, 0) c v).2.2.1 = (mkA h (g, 0, 0, 0) c v).2.2.1 := by
  unfold mkA
  dsimp only
  by_cases q1 : g (c + 12) = v
  · rw [if_pos q1, if_pos (e1.trans q1)]
    exact ⟨rfl, rfl⟩
  · have q1' : ¬ g2 (c + 12) = v := fun x => q1 (e1.symm.trans x)
    rw [if_neg q1, if_neg q1']
    by_cases q2 : g (c + 12) + g (c + 20) < v
    · have q2' : g2 (c + 12) + g2 (c + 20) < v := by rw [e1, e2]; exact q2
      rw [if_pos q2, if_pos q2']
      refine ⟨?_, rfl⟩
      show 0 + (v - (g2 (c + 12) + g2 (c + 20))) = 0 + (v - (g (c + 12) + g (c + 20)))
      rw [e1, e2]
    · have q2' : ¬ g2 (c + 12) + g2 (c + 20) < v := by rw [e1, e2]; exact q2
      rw [if_neg q2, if_neg q2']
      by_cases q3 : v + h < g (c + 12) + g (c + 20)
      · have q3' : v + h < g2 (c + 12) + g2 (c + 20) := by rw [e1, e2]; exact q3
        rw [if_pos q3, if_pos q3']
        exact ⟨rfl, rfl⟩
      · have q3' : ¬ v + h < g2 (c + 12) + g2 (c + 20) := by rw [e1, e2]; exact q3
        rw [if_neg q3, if_neg q3']
        exact ⟨rfl, rfl⟩
/-- the first of the cheapest that may be taken: from c on j of them; f, a: found, and at what -/
noncomputable def nst (ok : Nat → Bool) (cst : Nat → Int) : Nat → Nat → Int → Int → Int
  | 0, _, f, _ => f
  | j + 1, c, f, a => if ok c = true ∧ (f < 0 ∨ cst c < a) then nst ok cst j (c + 1) (c : Int) (cst c) else nst ok cst j (c + 1) f a
theorem nst_yes {ok : Nat → Bool} {cst : Nat → Int} {j c : Nat} {f a : Int} (h1 : ok c = true) (h2 : f < 0 ∨ cst c < a) : nst ok cst (j + 1) c f a = nst ok cst j (c + 1) (c : Int) (cst c) := by
  rw [nst, if_pos ⟨h1, h2⟩]
theorem nst_no {ok : Nat → Bool} {cst : Nat → Int} {j c : Nat} {f a : Int} (h : ¬ ok c = true ∨ (¬ f < 0 ∧ ¬ cst c < a)) : nst ok cst (j + 1) c f a = nst ok cst j (c + 1) f a := by
  rw [nst, if_neg (fun q => by
    rcases h with h | h
    · exact h q.1
    · rcases q.2 with x | x
      · exact h.1 x
      · exact h.2 x)]
theorem nst_a {ok : Nat → Bool} {cst : Nat → Int} : ∀ (j c : Nat) (f a b : Int), f < 0 → nst ok cst j c f a = nst ok cst j c f b
  | 0, _, _, _, _, _ => rfl
  | j + 1, c, f, a, b, h => by
    by_cases q : ok c = true
    · rw [nst_yes q (Or.inl h), nst_yes q (Or.inl h)]
    · rw [nst_no (Or.inl q), nst_no (Or.inl q)]
      exact nst_a j (c + 1) f a b h
theorem nst_rng {ok : Nat → Bool} {cst : Nat → Int} : ∀ (j c : Nat) (f a : Int), (f = -2 ∨ 0 ≤ f) → (nst ok cst j c f a = -2 ∨ 0 ≤ nst ok cst j c f a)
  | 0, _, _, _, h => h
  | j + 1, c, f, a, h => by
    rw [nst]
    split
    · exact nst_rng j (c + 1) _ _ (Or.inr (by omega))
    · exact nst_rng j (c + 1) _ _ h
section ZNearest
variable {T : Nat → Nat → zG → (Option zA → zM → Prop) → Prop} {B : Int}
theorem z_costC (hT : zRules T) {D : Nat} {κ : Option zA → zM → Prop} {m : zM} {c : Nat} {l : Int} (hB : zB m) (hc : c ≤ 7) (hl : 0 ≤ l ∧ l ≤ 99) (hk : ∀ v, (0 ≤ v ∧ v ≤ 1000) → κ (some (zi v)) m) : T (D + 3) 34 (0, [(0, zr 17), (1, zi (c : Int)), (2, zi l)], [], m) κ := by
  have b21 : -1 ≤ m 21 c ∧ m 21 c ≤ 99 := hB 21 c
  have b22 : -1 ≤ m 22 c ∧ m 22 c ≤ 9 := hB 22 c
  have p1 : 0 ≤ m 24 1 ∧ m 24 1 ≤ 9 := hB 24 1
  have p2 : 0 ≤ m 24 2 ∧ m 24 2 ≤ 9 := hB 24 2
  refine zb34_0 hT hB hc hl (fun q _ => ?_) (fun q _ => ?_) (fun _ _ _ => ?_) (fun _ _ _ => ?_) (fun _ _ => ?_)
  · exact hk _ (cost_wr (by omega) (by omega) p1 p2)
  · exact hk _ (cost_wr (by omega) (by omega) p1 p2)
  · exact hk _ (cost_rng (by omega) (by omega) p1 p2)
  · exact hk _ (cost_rng (by omega) (by omega) p1 p2)
  · exact hk _ (cost_rng (by omega) (by omega) p1 p2)
theorem z_costCx (hT : zRules T) {D : Nat} {κ : Option zA → zM → Prop} {m M : zM} {c : Nat} {l : Int} (hB : zB M) (hc : c ≤ 7) (hl : 0 ≤ l ∧ l ≤ 99) (e21 : M 21 c = m 75 (c + 12)) (e22 : M 22 c = m 75 (c + 20)) (h0 : 0 ≤ m 75 (c + 20)) (e24 : ∀ j, M 24 j = m 24 j) (hk : (0 ≤ cstV m l c ∧ cstV m l c ≤ 1000) → κ (some (zi (cstV m l c))) M) : T (D + 3) 34 (0, [(0, zr 17), (1, zi (c : Int)), (2, zi l)], [], M) κ := by
  have b21 : -1 ≤ M 21 c ∧ M 21 c ≤ 99 := hB 21 c
  have b22 : -1 ≤ M 22 c ∧ M 22 c ≤ 9 := hB 22 c
  have p1 : 0 ≤ M 24 1 ∧ M 24 1 ≤ 9 := hB 24 1
  have p2 : 0 ≤ M 24 2 ∧ M 24 2 ≤ 9 := hB 24 2
  rw [e24] at p1 p2
  have hv := mkA_cost (h := m 24 0) (v := l) (g := m 75) (c := c) (by omega) (by omega) hl
  have hr : 0 ≤ cstV m l c ∧ cstV m l c ≤ 1000 := cost_rng hv.1 hv.2 p1 p2
  have hk := hk hr
  refine zb34_0 hT hB hc hl (fun q q2 => ?_) (fun q q2 => by omega) (fun q q2 q3 => ?_) (fun q q2 q3 => ?_) (fun q q2 => ?_)
  · have e : cstV m l c = (l - (M 21 c + M 22 c)) * M 24 1 + 3 * M 24 2 := by
      unfold cstV mkA
      dsimp only
      rw [if_neg (by omega), if_pos (by omega)]
      dsimp only
      rw [e21, e22, e24, e24, Int.zero_add, Int.zero_add]
    rw [← e, wr_id (by omega) (by omega)]
    exact hk
  · have e : cstV m l c = 0 * M 24 1 + 2 * M 24 2 := by
      rw [e24] at q3
      unfold cstV mkA
      dsimp only
      rw [if_neg (by omega), if_neg (by omega), if_pos (by omega)]
      dsimp only
      rw [e24, e24, Int.zero_add]
    rw [← e]
    exact hk
  · have e : cstV m l c = 0 * M 24 1 + 1 * M 24 2 := by
      rw [e24] at q3
      unfold cstV mkA
      dsimp only
      rw [if_neg (by omega), if_neg (by omega), if_neg (by omega)]
      dsimp only
      rw [e24, e24, Int.zero_add]
    rw [← e]
    exact hk
  · have e : cstV m l c = 0 * M 24 1 + 0 * M 24 2 := by
      unfold cstV mkA
      dsimp only
      rw [if_pos (by omega)]
      dsimp only
      rw [e24, e24]
    rw [← e]
    exact hk
theorem z_costRx (hT : zRules T) {D : Nat} {κ : Option zA → zM → Prop} {m M : zM} {sc : zSc} {n k c p pl : Nat} (hI : Inv B sc n k m) (hBM : zB M) (hA : Agree coreK0 m M) (hc : c < k) (hp : p < n) (hpl : m 75 p = (pl : Int))
    (hk : ∀ M1, (0 ≤ cstV m (LW m (m 18 p) (p : Int) pl (m 17 11)) c ∧ cstV m (LW m (m 18 p) (p : Int) pl (m 17 11)) c ≤ 1000) → zB M1 → Agree coreK0 m M1 → Agree KRw M M1 → κ (some (zi (cstV m (LW m (m 18 p) (p : Int) pl (m 17 11)) c))) M1) : T (D + 172) 261 (0, [(0, zr 74), (1, zi (c : Int)), (2, zi (p : Int))], [], M) κ := by
  have i1 := hI.1
  have h4 := hI.2.2.2.1
  have b17 : 0 ≤ m 17 0 ∧ m 17 0 ≤ 6 := i1 17 0
  have b171 : 0 ≤ m 17 1 ∧ m 17 1 ≤ 8 := i1 17 1
  have n1 := h4.1.1
  have k1 := h4.2.1.1
  have bpl := (h4.2.2.2.2.1 p hp).1
  refine zb261_0 (D := D + 168) hT hBM (by omega) (by omega) ?_
  refine z_lay_75_91 (k := 0) (D := D + 170) hT (by omega) ?_
  have hX2 : Agree KRw M (z_cp M 75 91 0 0 59) := .of (L := [(91, none)]) (zFr.refl.cp (fun _ => rfl)) rfl
  have hA2 : Agree coreK0 m (z_cp M 75 91 0 0 59) := hA.trans (.of (L := [(91, none)]) (zFr.refl.cp (fun _ => rfl)) rfl)
  have hB2 : zB (z_cp M 75 91 0 0 59) := zB_cpB hBM rfl
  have x91 : ∀ j, j < 59 → (z_cp M 75 91 0 0 59) 91 j = m 75 j := fun j hj => by
    rw [z_cp_in (by omega), show 0 + (j - 0) = j by omega]
    exact hA 75 j rfl
  refine zb261_12 (D := D + 168) hT rfl hB2 (by omega) (by omega) (fun hz => ?_)
  have hX3 : Agree KRw M (zu (zu (zu (z_cp M 75 91 0 0 59) 74 31 0) 74 32 0) 74 33 0) := hX2.trans (.of (L := [(74, some 31), (74, some 32), (74, some 33)]) (((zFr.refl.set rfl).set rfl).set rfl) rfl)
  have hA3 : Agree coreK0 m (zu (zu (zu (z_cp M 75 91 0 0 59) 74 31 0) 74 32 0) 74 33 0) := hA2.trans (.of (L := [(74, some 31), (74, some 32), (74, some 33)]) (((zFr.refl.set rfl).set rfl).set rfl) rfl)
  have y91 : ∀ j, j < 59 → (zu (zu (zu (z_cp M 75 91 0 0 59) 74 31 0) 74 32 0) 74 33 0) 91 j = m 75 j := fun j hj => by
    rw [zu_dn (by omega), zu_dn (by omega), zu_dn (by omega), x91 j hj]
  have hR : RelR 91 (zu (zu (zu (z_cp M 75 91 0 0 59) 74 31 0) 74 32 0) 74 33 0) ((zu (zu (zu (z_cp M 75 91 0 0 59) 74 31 0) 74 32 0) 74 33 0) 91, 0, 0, 0) :=
    ⟨rfl, by simp (disch := omega) only [zu_off, zu_sm], by simp (disch := omega) only [zu_off, zu_sm], by simp (disch := omega) only [zu_sm]⟩
  generalize (zu (zu (zu (z_cp M 75 91 0 0 59) 74 31 0) 74 32 0) 74 33 0) = M3 at hz hX3 hA3 y91 hR ⊢
  refine z_lawInF (d := 0) (pl := pl) hT hI hz (hA3.sub (fun q hq => List.mem_append.mpr (Or.inr (List.mem_append.mpr (Or.inl hq))))) (funext fun j => hA3 78 j rfl) (hA3 75 57 rfl) hp ((hA3 75 p rfl).trans hpl) (by omega) (fun M4 hB4 hF4 => ?_)
  refine zb261_28 (D := D + 168) hT rfl hB4 (by omega) laFB ?_
  have hX4 : Agree KRw M M4 := hX3.trans (.of hF4 rfl)
  have hA4 : Agree coreK0 m M4 := hA3.trans (.of hF4 rfl)
  have hR4 : RelR 91 M4 (M3 91, 0, 0, 0) := ⟨funext fun j => hF4 91 j rfl, (hF4 74 31 rfl).trans hR.2.1, (hF4 74 32 rfl).trans hR.2.2.1, (hF4 74 33 rfl).trans hR.2.2.2⟩
  refine z_makes_91 (D := D + 169) hT hB4 (by omega) laFB hR4 (fun M5 hB5 hF5 hR5 => ?_)
  have b12 : -1 ≤ m 75 (c + 12) ∧ m 75 (c + 12) ≤ 99 := zSg i1 75 12 20 (-1) 99 rfl (c + 12) (by omega) (by omega)
  have b20 : -1 ≤ m 75 (c + 20) ∧ m 75 (c + 20) ≤ 9 := zSg i1 75 20 28 (-1) 9 rfl (c + 20) (by omega) (by omega)
  have hc2 := mkA_cost (h := M4 79 0) (v := laF m p pl 0) (g := M3 91) (c := c) (by rw [y91 (c + 12) (by omega)]; omega) (by rw [y91 (c + 20) (by omega)]; omega) laFB
  refine zb261_31 (D := D + 168) hT rfl hB5 ?_
  have hX5 : Agree KRw M M5 := hX4.trans (.of (hF5.sub mkL91) rfl)
  have hA5 : Agree coreK0 m M5 := hA4.trans (.of (hF5.sub mkL91) rfl)
  have p1 : 0 ≤ M5 79 1 ∧ M5 79 1 ≤ 9 := hB5 79 1
  have p2 : 0 ≤ M5 79 2 ∧ M5 79 2 ≤ 9 := hB5 79 2
  have eL : laF m p pl 0 = LW m (m 18 p) (p : Int) pl (m 17 11) := by
    unfold laF
    rw [show m 17 11 + ((0 : Nat) : Int) = m 17 11 by omega]
  have e79 : ∀ j, j < 3 → M4 79 j = m 24 j := fun j hj => (hA4 79 j rfl).trans (hI.2.2.2.2.1 j hj)
  have e795 : ∀ j, j < 3 → M5 79 j = m 24 j := fun j hj => (hA5 79 j rfl).trans (hI.2.2.2.2.1 j hj)
  have hm := mkA_c (h := m 24 0) (v := laF m p pl 0) (g := m 75) (g2 := M3 91) (c := c) (y91 _ (by omega)) (y91 _ (by omega))
  rw [e79 0 (by omega)] at hc2 hR5
  rw [hm.1, hm.2] at hc2
  rw [Int.mul_comm (M5 79 1), Int.mul_comm (M5 79 2), hR5.2.1, hR5.2.2.1, hm.1, hm.2, e795 1 (by omega), e795 2 (by omega), eL]
  rw [e795 1 (by omega)] at p1
  rw [e795 2 (by omega)] at p2
  rw [eL] at hc2
  have hr := cost_rng hc2.1 hc2.2 p1 p2
  have hr2 : 0 ≤ cstV m (LW m (m 18 p) (p : Int) pl (m 17 11)) c ∧ cstV m (LW m (m 18 p) (p : Int) pl (m 17 11)) c ≤ 1000 := hr
  rw [wr_id (by omega) (by omega)]
  exact hk M5 hr2 hB5 hA5 hX5
/-- who may be given a cloth: none wears it, or the one itself -/
noncomputable def nOk (m : zM) (n p : Nat) (c : Nat) : Bool := decide (wIx (fun q => m 75 (q + 6)) (c : Int) 0 n = -1 ∨ wIx (fun q => m 75 (q + 6)) (c : Int) 0 n = (p : Int))
theorem w_nearest (hT : zRules T) {v : Int} (hv : isI v) : Way T 143 262 [(0, zr 1), (1, zi v)] [(0, zr 74), (1, zi v)] 5 173 B B True := by
  rintro D m sc ⟨n, k, hI⟩ κ hκ
  have hI0 := hI
  obtain ⟨i1, i2, i3, i4, i5, i6, i7, i8, i9, i10, i11⟩ := hI
  obtain ⟨⟨n1, n2⟩, ⟨k1, k2⟩, hh, hRel, hok⟩ := i4
  have b17 : 0 ≤ m 17 0 ∧ m 17 0 ≤ 6 := i1 17 0
  have b171 : 0 ≤ m 17 1 ∧ m 17 1 ≤ 8 := i1 17 1
  have fin : ∀ (κ2 : Option zA → zM → Prop) (x y : Int) (M1 : zM), x = y → (∀ r2 m2, (True → some (zi x) = r2) → (∃ n k, Inv B sc n k m2) → κ2 r2 m2) → zB M1 → Agree coreK0 m M1 → RowP M1 → κ2 (some (zi y)) M1 := fun κ2 x y M1 e h2 hB1 hA1 hr => h2 _ _ (fun _ => by rw [e]) ⟨n, k, Inv_row hA1 hB1 hr hI0⟩
  have rp0 : RowP m := i11.2.2.2
  have rp12 : RowP (zu m 74 12 0) := RowP_fr (.of (L := [(74, some 12)]) (zFr.refl.set rfl) rfl) rp0
  have t12 : ∀ M0, Agree coreK0 m M0 → Agree coreK0 m (zu M0 74 12 0) := fun M0 hA0 => hA0.trans (.of (L := [(74, some 12)]) (zFr.refl.set rfl) rfl)
  -- none such
  have no : ¬ (0 ≤ v ∧ v < n) → κ (some (zi (-1))) m := fun hno => hκ _ _ (fun D2 κ2 h2 => zb262_0 (D := D2 + 168) hT i1 hv (fun _ hz => fin κ2 (-1) (-1) _ rfl h2 hz (t12 m (fun _ _ _ => rfl)) rp12) (fun _ _ hz => fin κ2 (-1) (-1) _ rfl h2 hz (t12 m (fun _ _ _ => rfl)) rp12) (fun q1 q2 => absurd ⟨by omega, by omega⟩ hno))
  refine zb143_0 hT i1 hv (fun q => no (by omega)) (fun q1 q2 => no (by omega)) (fun q1 q2 => ?_)
  obtain ⟨p, rfl⟩ : ∃ a : Nat, v = (a : Int) := ⟨v.toNat, by omega⟩
  obtain ⟨r1, r2⟩ := hRel.1 p (by omega)
  have h18 := (hh p (by omega)).2
  have bpl := (hok.1 p (by omega)).1
  obtain ⟨pl, hpl⟩ : ∃ pl : Nat, m 75 p = (pl : Int) := ⟨(m 75 p).toNat, by omega⟩
  have hl : 0 ≤ LW m (m 18 p) (p : Int) pl (m 17 11) ∧ LW m (m 18 p) (p : Int) pl (m 17 11) ≤ 99 := LWB
  -- the reference, from wherever what matters is the same
  have ref : ∀ (f : Int) (M0 : zM), f = nst (nOk m n p) (cstV m (LW m (m 18 p) (p : Int) pl (m 17 11))) k 0 (-2) 0 → zB M0 → Agree coreK0 m M0 → (0 ≤ f → M0 72 1 = 1) → (f = -2 → RowP M0) → κ (some (zi f)) M0 := by
    intro r M0 hr hB0 hA0 hy1 hy2
    refine hκ _ _ (fun D2 κ2 h2 => ?_)
    have e4 : M0 74 4 = (n : Int) := (hA0 74 4 rfl).trans n2
    refine zb262_0 (D := D2 + 168) hT hB0 hv (fun q => by omega) (fun _ q => by omega) (fun q1 q2 hz => ?_)
    have loop : ∀ (j t : Nat) (f a : Int) (M : zM), t + j = k → (f = -2 ∧ a = 100000000 ∨ (0 ≤ f ∧ f ≤ 7)) → (0 ≤ a ∧ a ≤ 100000000) → nst (nOk m n p) (cstV m (LW m (m 18 p) (p : Int) pl (m 17 11))) j t f a = r → zB M → Agree coreK0 m M → Agree KRw M0 M → T (D2 + 173) 262 (25, [(0, zr 74), (1, zi (p : Int)), (2, zi f), (3, zi a), (4, zi (t : Int))], [], M) κ2 := by
      intro j
      induction j with
      | zero =>
        intro t f a M ht hf ha hw hBM hAM hQ
        have et : t = k := by omega
        subst et
        have e6 : M 74 6 = (t : Int) := (hAM 74 6 rfl).trans k2
        have hw : f = r := hw
        refine zb262_25 (D := D2 + 168) hT rfl hBM (by omega) (by omega) ha (by omega) (fun _ f0 hz2 => fin κ2 r f _ hw.symm h2 hz2 ?_ (RowP.len (by simp (disch := decide) only [zu_sm, zu_off, zu_dn, (hQ 72 1 rfl).trans (hy1 (by omega))] <;> rfl))) (fun _ q => ?_) (fun q => by omega)
        · exact hAM.trans (.of (L := [(74, some 11), (81, none)]) (((zFr.refl.set rfl).set rfl).set rfl) rfl)
        · exact fin κ2 r (-2) _ (by omega) h2 hBM hAM (RowP_fr hQ (hy2 (by omega)))
      | succ j ih =>
        intro t f a M ht hf ha hw hBM hAM hQ
        have e6 : M 74 6 = (k : Int) := (hAM 74 6 rfl).trans k2
        refine zb262_25 (D := D2 + 168) hT rfl hBM (by omega) (by omega) ha (by omega) (fun q => by omega) (fun q => by omega) (fun _ => ?_)
        refine z_wearer (n := n) (D := D2 + 171) hT hBM (by omega) ((hAM 74 4 rfl).trans n2) ?_
        rw [show (fun p => M 75 (p + 6)) = (fun p => m 75 (p + 6)) from funext fun q => hAM 75 (q + 6) rfl]
        have hr := wIx_rng (f := fun p => m 75 (p + 6)) (c := (t : Int)) n 0
        have sub : (wIx (fun p => m 75 (p + 6)) (t : Int) 0 n = -1 ∨ wIx (fun p => m 75 (p + 6)) (t : Int) 0 n = (p : Int)) → T (D2 + 172) 261 (0, [(0, zr 74), (1, zi (t : Int)), (2, zi (p : Int))], [], M) (fun r m1 => T (D2 + 173) 262 (68, [(0, zr 74), (1, zi (p : Int)), (2, zi f), (3, zi a), (4, zi (t : Int)), (5, zi (wIx (fun p => m 75 (p + 6)) (t : Int) 0 n))], r.toList ++ [], m1) κ2) := by
          intro hyes
          have hy : nOk m n p t = true := decide_eq_true hyes
          refine z_costRx (pl := pl) hT hI0 hBM hAM (by omega) (by omega) hpl (fun M1 hv hB1 hA1 hX => ?_)
          refine zb262_68 (D := D2 + 168) hT rfl hB1 (by omega) (by omega) ha (by omega) (by omega) (fun q => ?_) (fun q => ?_)
          · refine ih (t + 1) _ _ M1 (by omega) (Or.inr (by omega)) (by omega) ?_ hB1 hA1 (hQ.trans hX)
            rw [← hw, nst_yes hy (Or.inr q)]
          · refine ih (t + 1) _ _ M1 (by omega) hf ha ?_ hB1 hA1 (hQ.trans hX)
            rw [← hw, nst_no (Or.inr ⟨by omega, q⟩)]
        refine zb262_44 (D := D2 + 168) hT rfl hBM (by omega) (by omega) ha (by omega) (by omega) (fun q => sub (Or.inl q)) (fun _ q => sub (Or.inr q)) (fun q3 q4 => ih (t + 1) f a M (by omega) hf ha ?_ hBM hAM hQ)
        have hn : ¬ nOk m n p t = true := fun q => by
          rcases of_decide_eq_true q with x | x
          · exact q3 x
          · exact q4 x
        rw [← hw, nst_no (Or.inl hn)]
    exact loop k 0 (-2) 100000000 _ (by omega) (Or.inl ⟨rfl, rfl⟩) (by omega) (by rw [hr]; exact nst_a k 0 (-2) _ _ (by decide)) hz (t12 M0 hA0) (.of (L := [(74, some 12)]) (zFr.refl.set rfl) rfl)
  refine z_lawNow (pl := pl) hT i1 (by omega) (by omega) (by omega) (by omega) i3.1 (fun m1 hB1 hF1 => ?_)
  refine zb143_18 hT rfl hB1 (by omega) LWB ?_
  generalize hgl : LW m (m 18 p) (p : Int) pl (m 17 11) = l at hl ref ⊢
  have hA1 : Agree coreK m m1 := .of (hF1.sub rowL13) rfl
  have loop : ∀ (j t : Nat) (f a : Int), t + j = k → (f = -2 ∨ (0 ≤ f ∧ f ≤ 7)) → (0 ≤ a ∧ a ≤ 1000000) → nst (nOk m n p) (cstV m l) j t f a = nst (nOk m n p) (cstV m l) k 0 (-2) 0 → T (D + 5) 143 (28, [(0, zr 1), (1, zi (p : Int)), (2, zi l), (3, zi f), (4, zi a), (5, zi (t : Int))], [], m1) κ := by
    intro j
    induction j with
    | zero =>
      intro t f a ht hf ha hw
      have e6 : m1 17 1 = (k : Int) := (hA1 17 1 rfl).trans k1
      refine zb143_28 hT rfl hB1 (by omega) hl (by omega) ha (by omega) (fun _ f0 => ref f _ hw hB1 hA1.w0 (fun x => by omega) (fun _ => RowP_fr (.of (hF1.sub rowL13) rfl) rp0)) (fun _ f0 hz => ref f _ hw hz ?_ (fun _ => by simp (disch := decide) only [zu_sm, zu_off, zu_dn] <;> rfl) (fun x => by omega)) (fun q => by omega)
      exact hA1.w0.trans (.of (L := [(72, some 1), (73, none)]) ((zFr.refl.set rfl).set rfl) rfl)
    | succ j ih =>
      intro t f a ht hf ha hw
      have e6 : m1 17 1 = (k : Int) := (hA1 17 1 rfl).trans k1
      refine zb143_28 hT rfl hB1 (by omega) hl (by omega) ha (by omega) (fun q => by omega) (fun q => by omega) (fun _ => ?_)
      refine z_wearerOf (n := n) (D := D + 3) hT hB1 (by omega) ((hA1 17 0 rfl).trans n1) ?_
      have ew : wIx (m1 20) (t : Int) 0 n = wIx (fun q => m 75 (q + 6)) (t : Int) 0 n := wIx_congr n 0 (fun i _ hi => (hF1 20 i rfl).trans (hRel.1 i (by omega)).2)
      rw [ew]
      have hr := wIx_rng (f := fun q => m 75 (q + 6)) (c := (t : Int)) n 0
      refine zb143_49 hT rfl hB1 (by omega) hl (by omega) ha (by omega) (by omega) ?_
      obtain ⟨x1, x2, -⟩ := hRel.2.1 t (by omega)
      refine z_costCx (D := D + 1) (m := m) hT hB1 (by omega) hl ((hF1 21 t rfl).trans x1) ((hF1 22 t rfl).trans x2) (hok.2.2.2 t (by omega)) (fun j => hF1 24 j rfl) (fun hv => ?_)
      have yes : (wIx (fun q => m 75 (q + 6)) (t : Int) 0 n = -1 ∨ wIx (fun q => m 75 (q + 6)) (t : Int) 0 n = (p : Int)) → (f < 0 ∨ cstV m l t < a) → T (D + 5) 143 (28, [(0, zr 1), (1, zi (p : Int)), (2, zi l), (3, zi (t : Int)), (4, zi (cstV m l t)), (5, zi ((t : Int) + 1))], [], m1) κ := fun g1 g2 =>
        ih (t + 1) _ _ (by omega) (Or.inr (by omega)) (by omega) (by rw [← hw]; exact (nst_yes (decide_eq_true g1) g2).symm)
      have nop : (¬ (wIx (fun q => m 75 (q + 6)) (t : Int) 0 n = -1 ∨ wIx (fun q => m 75 (q + 6)) (t : Int) 0 n = (p : Int)) ∨ (¬ f < 0 ∧ ¬ cstV m l t < a)) → T (D + 5) 143 (28, [(0, zr 1), (1, zi (p : Int)), (2, zi l), (3, zi f), (4, zi a), (5, zi ((t : Int) + 1))], [], m1) κ := fun g =>
        ih (t + 1) _ _ (by omega) hf ha (by
          rw [← hw]
          exact (nst_no (g.imp (fun g1 q => g1 (of_decide_eq_true q)) id)).symm)
      refine zb143_61 hT rfl hB1 (by omega) hl (by omega) ha (by omega) (by omega) (by omega) ?_ ?_ ?_ ?_ ?_ ?_ ?_
      · exact fun w f0 => yes (Or.inl w) (Or.inl f0)
      · exact fun w f0 v0 => nop (Or.inr ⟨f0, v0⟩)
      · exact fun w f0 v0 => yes (Or.inl w) (Or.inr v0)
      · exact fun w0 w1 => nop (Or.inl (fun q => q.elim w0 w1))
      · exact fun w0 w1 f0 => yes (Or.inr w1) (Or.inl f0)
      · exact fun w0 w1 f0 v0 => nop (Or.inr ⟨f0, v0⟩)
      · exact fun w0 w1 f0 v0 => yes (Or.inr w1) (Or.inr v0)
  exact loop k 0 (-2) 0 (by omega) (Or.inl rfl) (by omega) rfl
end ZNearest
