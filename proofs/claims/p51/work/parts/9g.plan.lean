/-! plan(): it ends, and leaves what matters. -/
theorem cost_rng3 {s w p q : Int} (hs : 0 ≤ s ∧ s ≤ 120) (hw : 0 ≤ w ∧ w ≤ 3) (hp : 0 ≤ p ∧ p ≤ 9) (hq : 0 ≤ q ∧ q ≤ 9) : 0 ≤ p * s + q * w ∧ p * s + q * w ≤ 1107 := by
  have h := cost_rng2 hs hw hp hq
  rw [Int.mul_comm p s, Int.mul_comm q w]
  exact h
theorem lc_pos {a b : Int} (ha : -9223372036854775808 ≤ a ∧ a ≤ 9223372036854775807) (hb : -9223372036854775808 ≤ b ∧ b ≤ 9223372036854775807) (h : b < a) : z_lc a b = 1 := by
  unfold z_lc
  rw [wl_id ha.1 ha.2, wl_id hb.1 hb.2, if_pos h]
section ZPlan
variable {T : Nat → Nat → zG → (Option zA → zM → Prop) → Prop} {B : Int}
theorem z_lmin (hT : zRules T) {D : Nat} {κ : Option zA → zM → Prop} {m : zM} {b t U : Int} (hb : b = 9223372036854775807 ∨ (0 ≤ b ∧ b ≤ U)) (ht : 0 ≤ t ∧ t ≤ U) (hU : U ≤ 1000000000000) (hk : ∀ v, (0 ≤ v ∧ v ≤ U) → κ (some (zl v)) m) : T (D + 3) 296 (0, [(0, zl b), (2, zl t)], [], m) κ := by
  have rb : -9223372036854775808 ≤ b ∧ b ≤ 9223372036854775807 := by omega
  refine zb296_0 hT rb (by omega) (fun _ => hk t ht) (fun q => ?_)
  rcases hb with e | e
  · rw [lc_pos rb (by omega) (by omega)] at q
    exact absurd q (by decide)
  · exact hk b e
theorem z_leftFrom0 (hT : zRules T) {D : Nat} {κ : Option zA → zM → Prop} {m M : zM} {sc : zSc} {n k p pl e q : Nat} {a S : Int} (hI : Inv B sc n k m) (hBM : zB M) (hA : Agree coreK m M) (hp : p < n) (hpl : m 75 p = (pl : Int)) (he : e ≤ 19) (ha : 0 ≤ a ∧ a ≤ 99) (hq : (q : Int) ≤ M 79 0) (hS : 0 ≤ S ∧ S ≤ 100000000000)
    (h93 : ∀ j : Nat, (j : Int) ≤ M 79 0 → 0 ≤ M 93 (10 * e + j) ∧ M 93 (10 * e + j) ≤ S)
    (hk : ∀ v M1, (0 ≤ v ∧ v ≤ S + 2000000000) → zB M1 → zFr (inL lbL) M M1 → κ (some (zl v)) M1) : T (D + 172) 257 (0, [(0, zr 74), (1, zi (p : Int)), (2, zi (e : Int)), (3, zi a), (4, zi (q : Int))], [], M) κ := by
  have i1 := hI.1
  have b17 : 0 ≤ m 17 0 ∧ m 17 0 ≤ 6 := i1 17 0
  have n1 := hI.2.2.2.1.1.1
  have b79 : 0 ≤ M 79 0 ∧ M 79 0 ≤ 9 := hBM 79 0
  have p1 : 0 ≤ M 79 1 ∧ M 79 1 ≤ 9 := hBM 79 1
  have p2 : 0 ≤ M 79 2 ∧ M 79 2 ≤ 9 := hBM 79 2
  refine zb257_0 (D := D + 168) hT hBM (by omega) he ha (by omega) ?_
  refine z_lawInF (d := e) (pl := pl) hT hI hBM (hA.sub (fun q hq => List.mem_append.mpr (Or.inr (List.mem_append.mpr (Or.inl hq))))) (funext fun j => hA 78 j rfl) (hA 75 57 rfl) hp ((hA 75 p rfl).trans hpl) (by omega) (fun M1 hB1 hF1 => ?_)
  have hx := laFB (m := m) (p := p) (pl := pl) (k := e)
  generalize laF m p pl e = x at hx ⊢
  have f79 : ∀ j, M1 79 j = M 79 j := fun j => hF1 79 j rfl
  have f93 : ∀ j, M1 93 j = M 93 j := fun j => hF1 93 j rfl
  have loop : ∀ (i t : Nat) (y b : Int), t + i = 10 → (0 ≤ y ∧ y ≤ 108) → ((t = 0 ∧ b = 9223372036854775807) ∨ (0 ≤ b ∧ b ≤ S + 2000000000)) → T (D + 172) 257 (85, [(0, zr 74), (2, zi (e : Int)), (5, zi x), (6, zi y), (7, zl b), (9, zi (t : Int))], [], M1) κ := by
    intro i
    induction i with
    | zero =>
      intro t y b hti hy hb
      refine zb257_85 (D := D + 168) hT rfl hB1 he hx hy (by omega) (by omega) (fun _ => hk b M1 (by omega) hB1 hF1) (fun q => by rw [f79] at q; omega) (fun q => by rw [f79] at q; omega)
    | succ i ih =>
      intro t y b hti hy hb
      have hb2 : b = 9223372036854775807 ∨ (0 ≤ b ∧ b ≤ S + 2000000000) := by omega
      have nx : ∀ v : Int, (0 ≤ v ∧ v ≤ S + 2000000000) → ¬ M1 79 0 < (t : Int) → T (D + 172) 257 (143, [(0, zr 74), (2, zi (e : Int)), (5, zi x), (6, zi y), (7, zl b), (9, zi (t : Int))], [zl v], M1) κ := fun v hv q => by
        rw [f79] at q
        exact zb257_143 (D := D + 168) hT rfl hB1 he hx hy (by omega) (by omega) (ih (t + 1) y v (by omega) hy (Or.inr hv))
      refine zb257_85 (D := D + 168) hT rfl hB1 he hx hy (by omega) (by omega) (fun q => hk b M1 (by rw [f79] at q; omega) hB1 hF1) (fun q q2 => ?_) (fun q q2 => ?_)
      · have q' := q
        rw [f79] at q'
        have h1 := cost_rng3 (s := (x - y) + (t : Int)) (w := 3) (p := M1 79 1) (q := M1 79 2) (by omega) (by omega) (by rw [f79]; exact p1) (by rw [f79]; exact p2)
        have h2 := h93 t (by omega)
        rw [f93]
        generalize M1 79 1 * ((x - y) + (t : Int)) + M1 79 2 * 3 = c at h1 ⊢
        rw [wr_id (by omega) (by omega)]
        exact z_lmin (D := D + 168) (U := S + 2000000000) hT hb2 (by omega) (by omega) (fun v hv => nx v hv q)
      · have q' := q
        rw [f79] at q'
        have h1 := cost_rng3 (s := 0) (w := 2) (p := M1 79 1) (q := M1 79 2) (by omega) (by omega) (by rw [f79]; exact p1) (by rw [f79]; exact p2)
        have h2 := h93 t (by omega)
        rw [f93]
        generalize M1 79 1 * 0 + M1 79 2 * 2 = c at h1 ⊢
        exact z_lmin (D := D + 168) (U := S + 2000000000) hT hb2 (by omega) (by omega) (fun v hv => nx v hv q)
  refine zb257_6 (D := D + 168) hT rfl hB1 he ha (by omega) hx (fun _ _ => loop 10 0 _ _ (by omega) (by omega) (Or.inl ⟨rfl, rfl⟩)) (fun _ _ _ => loop 10 0 _ _ (by omega) (by omega) (Or.inl ⟨rfl, rfl⟩)) (fun _ q1 q2 => ?_) (fun _ => ?_)
  · rw [f79] at q2
    have h1 := cost_rng3 (s := 0) (w := 1) (p := M1 79 1) (q := M1 79 2) (by omega) (by omega) (by rw [f79]; exact p1) (by rw [f79]; exact p2)
    have h2 := h93 ((a + (q : Int)) - x).toNat (by omega)
    rw [show (((10 * (e : Int)) + (a + (q : Int))) - x).toNat = 10 * e + ((a + (q : Int)) - x).toNat by omega, f93]
    generalize M1 79 1 * 0 + M1 79 2 * 1 = c at h1 ⊢
    exact hk _ M1 (by omega) hB1 hF1
  · rw [f93]
    have h2 := h93 q hq
    exact hk _ M1 (by omega) hB1 hF1
end ZPlan
