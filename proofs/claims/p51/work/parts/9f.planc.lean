/-! The class's plan(): it ends. -/
theorem cost_rng2 {s w p q : Int} (hs : 0 ≤ s ∧ s ≤ 120) (hw : 0 ≤ w ∧ w ≤ 3) (hp : 0 ≤ p ∧ p ≤ 9) (hq : 0 ≤ q ∧ q ≤ 9) : 0 ≤ s * p + w * q ∧ s * p + w * q ≤ 1107 := by
  have h1 := Int.mul_nonneg hs.1 hp.1
  have h2 := Int.mul_nonneg hw.1 hq.1
  have h3 : s * p ≤ 120 * 9 := Int.mul_le_mul hs.2 hp.2 hp.1 (by omega)
  have h4 : w * q ≤ 3 * 9 := Int.mul_le_mul hw.2 hq.2 hq.1 (by omega)
  omega
section ZPlanC
variable {T : Nat → Nat → zG → (Option zA → zM → Prop) → Prop} {B : Int}
theorem z_cheapStep0 (hT : zRules T) {D : Nat} {κ : Option zA → zM → Prop} {m : zM} {a l x S : Int} (hB : zB m) (ha : 0 ≤ a ∧ a ≤ 99) (hl : a ≤ l ∧ l ≤ a + m 24 0) (hx : 0 ≤ x ∧ x ≤ 99) (hS : 0 ≤ S ∧ S ≤ 100000000) (h55 : ∀ j : Nat, (j : Int) ≤ m 24 0 → 0 ≤ m 55 j ∧ m 55 j ≤ S)
    (hk : ∀ v : Int, (0 ≤ v ∧ v ≤ S + 5000000) → κ (some (zi v)) m) : T (D + 5) 86 (0, [(0, zr 52), (1, zr 17), (2, zi a), (3, zi l), (4, zi x)], [], m) κ := by
  have b24 : 0 ≤ m 24 0 ∧ m 24 0 ≤ 9 := hB 24 0
  have p1 : 0 ≤ m 24 1 ∧ m 24 1 ≤ 9 := hB 24 1
  have p2 : 0 ≤ m 24 2 ∧ m 24 2 ≤ 9 := hB 24 2
  have loop : ∀ (j k : Nat) (w b : Int), k + j = 10 → (0 ≤ w ∧ w ≤ 3) → (w = 3 → l < x) → (0 ≤ b ∧ b ≤ S + 5000000) → T (D + 5) 86 (56, [(0, zr 52), (1, zr 17), (3, zi l), (4, zi x), (5, zi w), (7, zi b), (8, zi (k : Int))], [], m) κ := by
    intro j
    induction j with
    | zero =>
      intro k w b hj hw hwl hb
      exact zb86_56 hT rfl hB (by omega) hx hw (by omega) (by omega) (fun _ => hk b hb) (fun q => by omega) (fun q => by omega) (fun q => by omega) (fun q => by omega) (fun q => by omega) (fun q => by omega)
    | succ j ih =>
      intro k w b hj hw hwl hb
      have r1 : ¬ m 24 0 < (k : Int) → 0 ≤ m 55 k + (((0 * m 24 1 + w * m 24 2) * 4096) + 0) ∧ m 55 k + (((0 * m 24 1 + w * m 24 2) * 4096) + 0) ≤ S + 5000000 := fun q => by
        have h1 := cost_rng2 (s := 0) (w := w) (by omega) hw p1 p2
        have h2 := h55 k (by omega)
        generalize 0 * m 24 1 + w * m 24 2 = e at h1
        omega
      have r2 : ¬ m 24 0 < (k : Int) → w = 3 → 0 ≤ m 55 k + wr ((wr ((((x - l) + (k : Int)) * (m 24 1)) + (w * (m 24 2))) * 4096) + ((x - l) + (k : Int))) ∧ m 55 k + wr ((wr ((((x - l) + (k : Int)) * (m 24 1)) + (w * (m 24 2))) * 4096) + ((x - l) + (k : Int))) ≤ S + 5000000 := fun q q3 => by
        have hlx := hwl q3
        have h1 := cost_rng2 (s := (x - l) + (k : Int)) (w := w) (by omega) hw p1 p2
        have h2 := h55 k (by omega)
        generalize ((x - l) + (k : Int)) * m 24 1 + w * m 24 2 = e at h1
        rw [wr_id (a := e) (by omega) (by omega), wr_id (by omega) (by omega)]
        omega
      have nx : ∀ y : Int, (0 ≤ y ∧ y ≤ S + 5000000) → T (D + 5) 86 (56, [(0, zr 52), (1, zr 17), (3, zi l), (4, zi x), (5, zi w), (7, zi y), (8, zi ((k : Int) + 1))], [], m) κ := fun y hy => ih (k + 1) w y (by omega) hw hwl hy
      exact zb86_56 hT rfl hB (by omega) hx hw (by omega) (by omega) (fun _ => hk b hb) (fun q _ _ => nx _ (r1 q)) (fun _ _ _ _ => nx b hb) (fun q _ _ _ => nx _ (r1 q)) (fun q q3 _ => nx _ (r2 q q3)) (fun _ _ _ _ => nx b hb) (fun q q3 _ _ => nx _ (r2 q q3))
  have st : ∀ w : Int, (0 ≤ w ∧ w ≤ 3) → (w = 3 → l < x) → T (D + 5) 86 (56, [(0, zr 52), (1, zr 17), (3, zi l), (4, zi x), (5, zi w), (7, zi 0), (8, zi 0)], [], m) κ := fun w hw hwl => loop 10 0 w 0 (by omega) hw hwl (by omega)
  have one : ∀ (d : Int) (w : Int), (0 ≤ d ∧ d ≤ m 24 0) → (0 ≤ w ∧ w ≤ 1) → κ (some (zi (wr ((m 55 (d.toNat)) + ((((0 * (m 24 1)) + (w * (m 24 2))) * 4096) + 0))))) m := fun d w hd hw => by
    have h1 := cost_rng2 (s := 0) (w := w) (by omega) (by omega) p1 p2
    have h2 := h55 d.toNat (by omega)
    generalize 0 * m 24 1 + w * m 24 2 = e at h1 ⊢
    rw [wr_id (by omega) (by omega)]
    exact hk _ (by omega)
  exact zb86_0 hT hB ha (by omega) hx (fun _ _ _ => st 2 (by omega) (fun q => by omega)) (fun _ q1 q2 => one (l - x) 1 (by omega) (by omega)) (fun _ q => st 3 (by omega) (fun _ => q)) (fun _ _ => st 0 (by omega) (fun q => by omega)) (fun _ _ _ => st 0 (by omega) (fun q => by omega)) (fun q0 q1 q2 => one (l - x) 0 (by omega) (by omega))
theorem z_planCh0 (hT : zRules T) {D : Nat} {κ : Option zA → zM → Prop} {m : zM} {N : Nat} (hB : zB m) (hN : m 52 1 = (N : Int)) (hN1 : 1 ≤ N ∧ N ≤ 20)
    (hk : ∀ v M, isI v → zB M → zFr (inL [(52, some 5), (52, some 6), (55, none), (56, none)]) m M → κ (some (zi v)) M) : T (D + 6) 84 (0, [(0, zr 52), (1, zr 17)], [], m) κ := by
  have b24 : 0 ≤ m 24 0 ∧ m 24 0 ≤ 9 := hB 24 0
  have p1 : 0 ≤ m 24 1 ∧ m 24 1 ≤ 9 := hB 24 1
  have p2 : 0 ≤ m 24 2 ∧ m 24 2 ≤ 9 := hB 24 2
  obtain ⟨h, hh⟩ : ∃ h : Nat, m 24 0 = (h : Int) := ⟨(m 24 0).toNat, by omega⟩
  have last : ∀ (j k : Nat) (b : Int) (M : zM), k + j = 10 → isI b → zB M → zFr (inL [(52, some 5), (52, some 6), (55, none), (56, none)]) m M → (∀ q : Nat, q ≤ h → 0 ≤ M 55 q ∧ M 55 q ≤ 100000000) → T (D + 6) 84 (113, [(0, zr 52), (1, zr 17), (2, zi (h : Int)), (3, zi b), (4, zi (k : Int))], [], M) κ := by
    intro j
    induction j with
    | zero =>
      intro k b M hj hb hBM hF h55
      exact zb84_113 hT rfl hBM (by omega) hb (by omega) (fun _ hz => hk _ _ (wrB _) hz (hF.set rfl)) (fun q => by omega) (fun q => by omega) (fun q => by omega)
    | succ j ih =>
      intro k b M hj hb hBM hF h55
      have b53 : 0 ≤ M 53 0 ∧ M 53 0 ≤ 99 := hBM 53 0
      have e1 : M 24 1 = m 24 1 := hF 24 1 rfl
      have e2 : M 24 2 = m 24 2 := hF 24 2 rfl
      have r : ¬ (h : Int) < (k : Int) → isI ((M 55 k) + ((((((M 53 0) + (k : Int)) * (M 24 1)) + (0 * (M 24 2))) * 4096) + ((M 53 0) + (k : Int)))) := fun q => by
        have h1 := cost_rng2 (s := M 53 0 + (k : Int)) (w := 0) (p := M 24 1) (q := M 24 2) (by omega) (by omega) (by omega) (by omega)
        have h2 := h55 k (by omega)
        generalize (M 53 0 + (k : Int)) * M 24 1 + 0 * M 24 2 = e at h1 ⊢
        unfold isI
        omega
      refine zb84_113 hT rfl hBM (by omega) hb (by omega) (fun _ hz => hk _ _ (wrB _) hz (hF.set rfl)) (fun q _ hz => ?_) (fun _ _ _ => ih (k + 1) b M (by omega) hb hBM hF h55) (fun q _ _ hz => ?_)
      · exact ih (k + 1) _ _ (by omega) (r q) hz (hF.set rfl) (fun y hy => by rw [zu_dn (by omega)]; exact h55 y hy)
      · exact ih (k + 1) _ _ (by omega) (r q) hz (hF.set rfl) (fun y hy => by rw [zu_dn (by omega)]; exact h55 y hy)
  have steps : ∀ (j : Nat) (M : zM), j + 1 ≤ N → zB M → zFr (inL [(52, some 5), (52, some 6), (55, none), (56, none)]) m M → (∀ q : Nat, q ≤ h → 0 ≤ M 55 q ∧ M 55 q ≤ 5000000 * ((N - 1 - j : Nat) : Int)) → T (D + 6) 84 (32, [(0, zr 52), (1, zr 17), (2, zi (h : Int)), (3, zi ((j : Int) - 1))], [], M) κ := by
    intro j
    induction j with
    | zero =>
      intro M hj hBM hF h55
      exact zb84_32 hT rfl hBM (by omega) (by omega) (fun _ => last 10 0 0 M (by omega) (by unfold isI; omega) hBM hF (fun q hq => by have := h55 q hq; omega)) (fun q => by omega)
    | succ j ih =>
      intro M hj hBM hF h55
      rw [show ((j + 1 : Nat) : Int) - 1 = (j : Int) by omega]
      refine zb84_32 hT rfl hBM (by omega) (by omega) (fun q => by omega) (fun _ => ?_)
      have row : ∀ (i k : Nat) (M2 : zM), k + i = h + 1 → zB M2 → zFr (inL [(56, none)]) M M2 → (∀ q : Nat, q < k → 0 ≤ M2 56 q ∧ M2 56 q ≤ 5000000 * ((N - 1 - j : Nat) : Int)) → T (D + 6) 84 (39, [(0, zr 52), (1, zr 17), (2, zi (h : Int)), (3, zi (j : Int)), (4, zi (k : Int))], [], M2) κ := by
        intro i
        induction i with
        | zero =>
          intro k M2 hki hB2 hF2 h56
          refine zb84_39 hT rfl hB2 (by omega) (by omega) (by omega) (fun _ hz => ?_) (fun q => by omega)
          rw [show (j : Int) + (-1) = (j : Int) - 1 by omega]
          refine ih _ (by omega) hz ((hF.trans (hF2.sub (inL_sub (by decide)))).cp (fun _ => rfl)) (fun q hq => ?_)
          rw [z_cp_in (by omega), show 0 + (q - 0) = q by omega]
          exact h56 q (by omega)
        | succ i ih2 =>
          intro k M2 hki hB2 hF2 h56
          have c53 : 0 ≤ M2 53 j ∧ M2 53 j ≤ 99 := hB2 53 j
          have d53 : 0 ≤ M2 53 (j + 1) ∧ M2 53 (j + 1) ≤ 99 := hB2 53 (j + 1)
          have e24 : M2 24 0 = (h : Int) := by rw [hF2 24 0 rfl, hF 24 0 rfl, hh]
          refine zb84_39 hT rfl hB2 (by omega) (by omega) (by omega) (fun q => by omega) (fun _ => ?_)
          refine z_cheapStep0 (S := 5000000 * ((N - 1 - (j + 1) : Nat) : Int)) hT hB2 c53 (by omega) d53 (by omega) (fun q hq => by rw [hF2 55 q rfl]; exact h55 q (by omega)) (fun v hv => ?_)
          refine zb84_79 hT rfl hB2 (by omega) (by omega) (by omega) (by omega) (fun hz => ?_)
          refine ih2 (k + 1) _ (by omega) hz (hF2.set rfl) (fun q hq => ?_)
          by_cases e : q = k
          · rw [e, zu_sm rfl]
            omega
          · rw [zu_off (by omega)]
            exact h56 q (by omega)
      exact row (h + 1) 0 M (by omega) hBM zFr.refl (fun q hq => by omega)
  refine zb84_0 hT hB ?_
  rw [hh]
  have zero : ∀ (j k : Nat) (M : zM), k + j = h + 1 → zB M → zFr (inL [(55, none)]) m M → (∀ q : Nat, q < k → M 55 q = 0) → T (D + 6) 84 (7, [(0, zr 52), (1, zr 17), (2, zi (h : Int)), (3, zi (k : Int))], [], M) κ := by
    intro j
    induction j with
    | zero =>
      intro k M hj hBM hF h0
      refine zb84_7 hT rfl hBM (by omega) (by omega) (fun _ => ?_) (fun q => by omega)
      rw [hF 52 1 rfl, hN, show (N : Int) - 2 = ((N - 1 : Nat) : Int) - 1 by omega]
      exact steps (N - 1) M (by omega) hBM (hF.sub (inL_sub (by decide))) (fun q hq => by rw [h0 q (by omega)]; omega)
    | succ j ih =>
      intro k M hj hBM hF h0
      refine zb84_7 hT rfl hBM (by omega) (by omega) (fun q => by omega) (fun _ hz => ?_)
      refine ih (k + 1) _ (by omega) hz (hF.set rfl) (fun q hq => ?_)
      by_cases e : q = k
      · rw [e, zu_sm rfl]
      · rw [zu_off (by omega)]
        exact h0 q (by omega)
  exact zero (h + 1) 0 m (by omega) hB zFr.refl (fun q hq => by omega)
end ZPlanC
