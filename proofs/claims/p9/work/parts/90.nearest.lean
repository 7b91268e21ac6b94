/-! nearest(): it ends, and leaves what matters (the answers wait for: the lengths of a cloth that is there are not below 0). -/
theorem cost_rng {s w p q : Int} (hs : 0 ≤ s ∧ s ≤ 101) (hw : 0 ≤ w ∧ w ≤ 3) (hp : 0 ≤ p ∧ p ≤ 9) (hq : 0 ≤ q ∧ q ≤ 9) : 0 ≤ s * p + w * q ∧ s * p + w * q ≤ 1000 := by
  have h1 := Int.mul_nonneg hs.1 hp.1
  have h2 := Int.mul_nonneg hw.1 hq.1
  have h3 : s * p ≤ 101 * 9 := Int.mul_le_mul hs.2 hp.2 hp.1 (by omega)
  have h4 : w * q ≤ 3 * 9 := Int.mul_le_mul hw.2 hq.2 hq.1 (by omega)
  omega
theorem cost_wr {s w p q : Int} (hs : 0 ≤ s ∧ s ≤ 101) (hw : 0 ≤ w ∧ w ≤ 3) (hp : 0 ≤ p ∧ p ≤ 9) (hq : 0 ≤ q ∧ q ≤ 9) : 0 ≤ wr (s * p + w * q) ∧ wr (s * p + w * q) ≤ 1000 := by
  have h := cost_rng hs hw hp hq
  rw [wr_id (by omega) (by omega)]
  exact h
theorem mkA_cost {h v : Int} {g : Nat → Int} {c : Nat} (h1 : -1 ≤ g (c + 12)) (h2 : -1 ≤ g (c + 20)) (hv : 0 ≤ v ∧ v ≤ 99) : (0 ≤ (mkA h (g, 0, 0, 0) c v).2.1 ∧ (mkA h (g, 0, 0, 0) c v).2.1 ≤ 101) ∧ 0 ≤ (mkA h (g, 0, 0, 0) c v).2.2.1 ∧ (mkA h (g, 0, 0, 0) c v).2.2.1 ≤ 3 := by
  unfold mkA
  dsimp only
  by_cases q1 : g (c + 12) = v
  · rw [if_pos q1]
    exact ⟨⟨by dsimp only; omega, by dsimp only; omega⟩, by dsimp only; omega, by dsimp only; omega⟩
  · rw [if_neg q1]
    by_cases q2 : g (c + 12) + g (c + 20) < v
    · rw [if_pos q2]
      exact ⟨⟨by dsimp only; omega, by dsimp only; omega⟩, by dsimp only; omega, by dsimp only; omega⟩
    · rw [if_neg q2]
      by_cases q3 : v + h < g (c + 12) + g (c + 20)
      · rw [if_pos q3]
        exact ⟨⟨by dsimp only; omega, by dsimp only; omega⟩, by dsimp only; omega, by dsimp only; omega⟩
      · rw [if_neg q3]
        exact ⟨⟨by dsimp only; omega, by dsimp only; omega⟩, by dsimp only; omega, by dsimp only; omega⟩
section ZNearest
variable {T : Nat → Nat → zG → (Option zA → zM → Prop) → Prop} {B : Int}
theorem z_costC (hT : zRules T) {D : Nat} {κ : Option zA → zM → Prop} {m : zM} {c : Nat} {l : Int} (hB : zB m) (hc : c ≤ 7) (hl : 0 ≤ l ∧ l ≤ 99) (hk : ∀ v, (0 ≤ v ∧ v ≤ 1000) → κ (some (zi v)) m) : T (D + 3) 34 (0, [(0, zr 17), (1, zi (c : Int)), (2, zi l)], [], m) κ := by
  have b21 : -1 ≤ m 21 c ∧ m 21 c ≤ 99 := hB 21 c
  have b22 : -1 ≤ m 22 c ∧ m 22 c ≤ 9 := hB 22 c
  have p1 : 0 ≤ m 24 1 ∧ m 24 1 ≤ 9 := hB 24 1
  have p2 : 0 ≤ m 24 2 ∧ m 24 2 ≤ 9 := hB 24 2
  refine zb34_0 hT hB hc hl (fun q _ => ?_) (fun q _ => ?_) (fun _ _ _ => ?_) (fun _ _ _ => ?_) (fun _ _ => ?_)
  · exact hk _ (cost_wr (by omega) (by omega) p1 p2)
  · exact hk _ (cost_wr (by omega) (by omega) p1 p2)
  · exact hk _ (cost_rng (by omega) (by omega) p1 p2)
  · exact hk _ (cost_rng (by omega) (by omega) p1 p2)
  · exact hk _ (cost_rng (by omega) (by omega) p1 p2)
theorem z_costR (hT : zRules T) {D : Nat} {κ : Option zA → zM → Prop} {m M : zM} {sc : zSc} {n k c p : Nat} (hI : Inv B sc n k m) (hBM : zB M) (hA : Agree coreK m M) (hc : c < k) (hp : p < n)
    (hk : ∀ v M1, (0 ≤ v ∧ v ≤ 1000) → zB M1 → Agree coreK m M1 → κ (some (zi v)) M1) : T (D + 172) 261 (0, [(0, zr 74), (1, zi (c : Int)), (2, zi (p : Int))], [], M) κ := by
  have i1 := hI.1
  have h4 := hI.2.2.2.1
  have b17 : 0 ≤ m 17 0 ∧ m 17 0 ≤ 6 := i1 17 0
  have b171 : 0 ≤ m 17 1 ∧ m 17 1 ≤ 8 := i1 17 1
  have n1 := h4.1.1
  have k1 := h4.2.1.1
  have bpl := (h4.2.2.2.2.1 p hp).1
  obtain ⟨pl, hpl⟩ : ∃ pl : Nat, m 75 p = (pl : Int) := ⟨(m 75 p).toNat, by omega⟩
  refine zb261_0 (D := D + 168) hT hBM (by omega) (by omega) ?_
  refine z_lay_75_91 (k := 0) (D := D + 170) hT (by omega) ?_
  have hA2 : Agree coreK m (z_cp M 75 91 0 0 59) := hA.trans (.of (L := [(91, none)]) (zFr.refl.cp (fun _ => rfl)) rfl)
  have hB2 : zB (z_cp M 75 91 0 0 59) := zB_cpB hBM rfl
  have x91 : ∀ j, j < 59 → (z_cp M 75 91 0 0 59) 91 j = m 75 j := fun j hj => by
    rw [z_cp_in (by omega), show 0 + (j - 0) = j by omega]
    exact hA 75 j rfl
  refine zb261_12 (D := D + 168) hT rfl hB2 (by omega) (by omega) (fun hz => ?_)
  have hA3 : Agree coreK m (zu (zu (zu (z_cp M 75 91 0 0 59) 74 31 0) 74 32 0) 74 33 0) := hA2.trans (.of (L := [(74, some 31), (74, some 32), (74, some 33)]) (((zFr.refl.set rfl).set rfl).set rfl) rfl)
  have y91 : ∀ j, j < 59 → (zu (zu (zu (z_cp M 75 91 0 0 59) 74 31 0) 74 32 0) 74 33 0) 91 j = m 75 j := fun j hj => by
    rw [zu_dn (by omega), zu_dn (by omega), zu_dn (by omega), x91 j hj]
  have hR : RelR 91 (zu (zu (zu (z_cp M 75 91 0 0 59) 74 31 0) 74 32 0) 74 33 0) ((zu (zu (zu (z_cp M 75 91 0 0 59) 74 31 0) 74 32 0) 74 33 0) 91, 0, 0, 0) :=
    ⟨rfl, by simp (disch := omega) only [zu_off, zu_sm], by simp (disch := omega) only [zu_off, zu_sm], by simp (disch := omega) only [zu_sm]⟩
  generalize (zu (zu (zu (z_cp M 75 91 0 0 59) 74 31 0) 74 32 0) 74 33 0) = M3 at hz hA3 y91 hR ⊢
  refine z_lawInF (d := 0) (pl := pl) hT hI hz (hA3.sub (fun q hq => List.mem_append.mpr (Or.inr (List.mem_append.mpr (Or.inl hq))))) (funext fun j => hA3 78 j rfl) (hA3 75 57 rfl) hp ((hA3 75 p rfl).trans hpl) (by omega) (fun M4 hB4 hF4 => ?_)
  refine zb261_28 (D := D + 168) hT rfl hB4 (by omega) laFB ?_
  have hA4 : Agree coreK m M4 := hA3.trans (.of hF4 rfl)
  have hR4 : RelR 91 M4 (M3 91, 0, 0, 0) := ⟨funext fun j => hF4 91 j rfl, (hF4 74 31 rfl).trans hR.2.1, (hF4 74 32 rfl).trans hR.2.2.1, (hF4 74 33 rfl).trans hR.2.2.2⟩
  refine z_makes_91 (D := D + 169) hT hB4 (by omega) laFB hR4 (fun M5 hB5 hF5 hR5 => ?_)
  have b12 : -1 ≤ m 75 (c + 12) ∧ m 75 (c + 12) ≤ 99 := zSg i1 75 12 20 (-1) 99 rfl (c + 12) (by omega) (by omega)
  have b20 : -1 ≤ m 75 (c + 20) ∧ m 75 (c + 20) ≤ 9 := zSg i1 75 20 28 (-1) 9 rfl (c + 20) (by omega) (by omega)
  have hc2 := mkA_cost (h := M4 79 0) (v := laF m p pl 0) (g := M3 91) (c := c) (by rw [y91 (c + 12) (by omega)]; omega) (by rw [y91 (c + 20) (by omega)]; omega) laFB
  refine zb261_31 (D := D + 168) hT rfl hB5 ?_
  have hA5 : Agree coreK m M5 := hA4.trans (.of (hF5.sub mkL91) rfl)
  have p1 : 0 ≤ M5 79 1 ∧ M5 79 1 ≤ 9 := hB5 79 1
  have p2 : 0 ≤ M5 79 2 ∧ M5 79 2 ≤ 9 := hB5 79 2
  rw [Int.mul_comm (M5 79 1), Int.mul_comm (M5 79 2), hR5.2.1, hR5.2.2.1]
  exact hk _ M5 (cost_wr hc2.1 hc2.2 p1 p2) hB5 hA5
theorem w_nearest0 (hT : zRules T) {v : Int} (hv : isI v) : Way T 143 262 [(0, zr 1), (1, zi v)] [(0, zr 74), (1, zi v)] 5 173 B B False := by
  rintro D m sc ⟨n, k, hI⟩ κ hκ
  have hI0 := hI
  obtain ⟨i1, i2, i3, i4, i5, i6, i7, i8, i9, i10, i11⟩ := hI
  obtain ⟨⟨n1, n2⟩, ⟨k1, k2⟩, hh, hRel, hok⟩ := i4
  have b17 : 0 ≤ m 17 0 ∧ m 17 0 ≤ 6 := i1 17 0
  have b171 : 0 ≤ m 17 1 ∧ m 17 1 ≤ 8 := i1 17 1
  -- the reference, from wherever what matters is the same
  have ref : ∀ (r : Option zA) (M0 : zM), zB M0 → Agree coreK m M0 → κ r M0 := by
    intro r M0 hB0 hA0
    refine hκ _ _ (fun D2 κ2 h2 => ?_)
    have fin : ∀ r2 M1, zB M1 → Agree coreK m M1 → κ2 r2 M1 := fun r2 M1 hB1 hA1 => h2 _ _ (fun x => x.elim) ⟨n, k, Inv_fr hA1 hB1 hI0⟩
    have t12 : Agree coreK m (zu M0 74 12 0) := hA0.trans (.of (L := [(74, some 12)]) (zFr.refl.set rfl) rfl)
    have e4 : M0 74 4 = (n : Int) := (hA0 74 4 rfl).trans n2
    refine zb262_0 (D := D2 + 168) hT hB0 hv (fun _ hz => fin _ _ hz t12) (fun _ _ hz => fin _ _ hz t12) (fun q1 q2 hz => ?_)
    obtain ⟨p, rfl⟩ : ∃ a : Nat, v = (a : Int) := ⟨v.toNat, by omega⟩
    have loop : ∀ (j t : Nat) (f a : Int) (M : zM), t + j = k → (-2 ≤ f ∧ f ≤ 7) → (0 ≤ a ∧ a ≤ 100000000) → zB M → Agree coreK m M → T (D2 + 173) 262 (25, [(0, zr 74), (1, zi (p : Int)), (2, zi f), (3, zi a), (4, zi (t : Int))], [], M) κ2 := by
      intro j
      induction j with
      | zero =>
        intro t f a M ht hf ha hBM hAM
        have et : t = k := by omega
        subst et
        have e6 : M 74 6 = (t : Int) := (hAM 74 6 rfl).trans k2
        refine zb262_25 (D := D2 + 168) hT rfl hBM (by omega) hf ha (by omega) (fun _ _ hz2 => fin _ _ hz2 ?_) (fun _ _ => fin _ _ hBM hAM) (fun q => by omega)
        exact hAM.trans (.of (L := [(74, some 11), (81, none)]) (((zFr.refl.set rfl).set rfl).set rfl) rfl)
      | succ j ih =>
        intro t f a M ht hf ha hBM hAM
        have e6 : M 74 6 = (k : Int) := (hAM 74 6 rfl).trans k2
        refine zb262_25 (D := D2 + 168) hT rfl hBM (by omega) hf ha (by omega) (fun q => by omega) (fun q => by omega) (fun _ => ?_)
        refine z_wearer (n := n) (D := D2 + 171) hT hBM (by omega) ((hAM 74 4 rfl).trans n2) ?_
        have hr := wIx_rng (f := fun p => M 75 (p + 6)) (c := (t : Int)) n 0
        have sub : T (D2 + 172) 261 (0, [(0, zr 74), (1, zi (t : Int)), (2, zi (p : Int))], [], M) (fun r m1 => T (D2 + 173) 262 (68, [(0, zr 74), (1, zi (p : Int)), (2, zi f), (3, zi a), (4, zi (t : Int)), (5, zi (wIx (fun p => M 75 (p + 6)) (t : Int) 0 n))], r.toList ++ [], m1) κ2) := by
          refine z_costR hT hI0 hBM hAM (by omega) (by omega) (fun v M1 hv hB1 hA1 => ?_)
          exact zb262_68 (D := D2 + 168) hT rfl hB1 (by omega) hf ha (by omega) (by omega) (fun _ => ih (t + 1) _ _ M1 (by omega) (by omega) (by omega) hB1 hA1) (fun _ => ih (t + 1) _ _ M1 (by omega) hf ha hB1 hA1)
        exact zb262_44 (D := D2 + 168) hT rfl hBM (by omega) hf ha (by omega) (by omega) (fun _ => sub) (fun _ _ => sub) (fun _ _ => ih (t + 1) f a M (by omega) hf ha hBM hAM)
    exact loop k 0 (-2) 100000000 _ (by omega) (by omega) (by omega) hz t12
  refine zb143_0 hT i1 hv (fun _ => ref _ _ i1 (fun _ _ _ => rfl)) (fun _ _ => ref _ _ i1 (fun _ _ _ => rfl)) (fun q1 q2 => ?_)
  obtain ⟨p, rfl⟩ : ∃ a : Nat, v = (a : Int) := ⟨v.toNat, by omega⟩
  obtain ⟨r1, r2⟩ := hRel.1 p (by omega)
  have h18 := (hh p (by omega)).2
  have bpl := (hok.1 p (by omega)).1
  obtain ⟨pl, hpl⟩ : ∃ pl : Nat, m 75 p = (pl : Int) := ⟨(m 75 p).toNat, by omega⟩
  refine z_lawNow (pl := pl) hT i1 (by omega) (by omega) (by omega) (by omega) i3.1 (fun m1 hB1 hF1 => ?_)
  refine zb143_18 hT rfl hB1 (by omega) LWB ?_
  have hl := LWB (m := m) (h := m 18 p) (i := (p : Int)) (p := pl) (w := m 17 11)
  generalize LW m (m 18 p) (p : Int) pl (m 17 11) = l at hl ⊢
  have hA1 : Agree coreK m m1 := .of (hF1.sub rowL13) rfl
  have loop : ∀ (j t : Nat) (f a : Int), t + j = k → (-2 ≤ f ∧ f ≤ 7) → (0 ≤ a ∧ a ≤ 1000000) → T (D + 5) 143 (28, [(0, zr 1), (1, zi (p : Int)), (2, zi l), (3, zi f), (4, zi a), (5, zi (t : Int))], [], m1) κ := by
    intro j
    induction j with
    | zero =>
      intro t f a ht hf ha
      have e6 : m1 17 1 = (k : Int) := (hA1 17 1 rfl).trans k1
      refine zb143_28 hT rfl hB1 (by omega) hl hf ha (by omega) (fun _ _ => ref _ _ hB1 hA1) (fun _ _ hz => ref _ _ hz ?_) (fun q => by omega)
      exact hA1.trans (.of (L := [(72, some 1), (73, none)]) ((zFr.refl.set rfl).set rfl) rfl)
    | succ j ih =>
      intro t f a ht hf ha
      have e6 : m1 17 1 = (k : Int) := (hA1 17 1 rfl).trans k1
      refine zb143_28 hT rfl hB1 (by omega) hl hf ha (by omega) (fun q => by omega) (fun q => by omega) (fun _ => ?_)
      refine z_wearerOf (n := n) (D := D + 3) hT hB1 (by omega) ((hA1 17 0 rfl).trans n1) ?_
      have hr := wIx_rng (f := m1 20) (c := (t : Int)) n 0
      refine zb143_49 hT rfl hB1 (by omega) hl hf ha (by omega) (by omega) ?_
      refine z_costC (D := D + 1) hT hB1 (by omega) hl (fun v hv => ?_)
      refine zb143_61 hT rfl hB1 (by omega) hl hf ha (by omega) (by omega) (by omega) ?_ ?_ ?_ ?_ ?_ ?_ ?_
      · exact fun _ _ => ih (t + 1) _ _ (by omega) (by omega) (by omega)
      · exact fun _ _ _ => ih (t + 1) _ _ (by omega) hf ha
      · exact fun _ _ _ => ih (t + 1) _ _ (by omega) (by omega) (by omega)
      · exact fun _ _ => ih (t + 1) _ _ (by omega) hf ha
      · exact fun _ _ _ => ih (t + 1) _ _ (by omega) (by omega) (by omega)
      · exact fun _ _ _ _ => ih (t + 1) _ _ (by omega) hf ha
      · exact fun _ _ _ _ => ih (t + 1) _ _ (by omega) (by omega) (by omega)
  exact loop k 0 (-2) 0 (by omega) (by omega) (by omega)
end ZNearest
