/-! plan(): the least, by both: a cost and inches, the first first. -/
noncomputable abbrev pp : Type := Int × Int
noncomputable def ltp (p q : pp) : Prop := p.1 < q.1 ∨ (p.1 = q.1 ∧ p.2 < q.2)
noncomputable def mip (p q : pp) : pp := @ite _ (ltp q p) (Classical.propDecidable _) q p
theorem mip_yes {p q : pp} (h : ltp q p) : mip p q = q := if_pos h
theorem mip_no {p q : pp} (h : ¬ ltp q p) : mip p q = p := if_neg h
/-- the least of the first t + 1 -/
noncomputable def mnp (f : Nat → pp) : Nat → pp
  | 0 => f 0
  | t + 1 => mip (mnp f t) (f (t + 1))
noncomputable def adp (p : pp) (c i : Int) : pp := (p.1 + c, p.2 + i)
noncomputable def e4 (p : pp) : Int := 4096 * p.1 + p.2
noncomputable def e6 (p : pp) : Int := 1000000 * p.1 + p.2
/-- between bounds -/
noncomputable def bdp (A I : Int) (p : pp) : Prop := (0 ≤ p.1 ∧ p.1 ≤ A) ∧ (0 ≤ p.2 ∧ p.2 ≤ I)
theorem mnp_bd {f : Nat → pp} {A I : Int} : ∀ t : Nat, (∀ q, q ≤ t → bdp A I (f q)) → bdp A I (mnp f t)
  | 0, h => h 0 (Nat.le_refl 0)
  | t + 1, h => by
    have ih := mnp_bd (A := A) (I := I) t (fun q hq => h q (by omega))
    have h1 := h (t + 1) (Nat.le_refl _)
    rw [mnp]
    by_cases q : ltp (f (t + 1)) (mnp f t)
    · rw [mip_yes q]; exact h1
    · rw [mip_no q]; exact ih
theorem lt4 {p q : pp} {A A2 I : Int} (hp : bdp A I p) (hq : bdp A2 I q) (hI : I < 4096) : e4 q < e4 p ↔ ltp q p := by
  obtain ⟨a, b⟩ := p
  obtain ⟨c, d⟩ := q
  unfold bdp at hp hq
  unfold e4 ltp
  dsimp only at hp hq ⊢
  omega
theorem lt6 {p q : pp} {A A2 I : Int} (hp : bdp A I p) (hq : bdp A2 I q) (hI : I < 4096) : e6 q < e6 p ↔ ltp q p := by
  obtain ⟨a, b⟩ := p
  obtain ⟨c, d⟩ := q
  unfold bdp at hp hq
  unfold e6 ltp
  dsimp only at hp hq ⊢
  omega
/-- a WEEK's sewing, and what is left to be done then; a: how long it is, l: ALL of it, x: how long it must be -/
noncomputable def stp (h : Nat) (t1 t2 a l x : Int) (Q : Nat → pp) : pp :=
  if a = x then Q (l - x).toNat
  else if l < x then mnp (fun q => adp (Q q) ((x - l + (q : Int)) * t1 + 3 * t2) (x - l + (q : Int))) h
  else if x + (h : Int) < l then mnp (fun q => adp (Q q) (0 * t1 + 2 * t2) 0) h
  else adp (Q (l - x).toNat) (0 * t1 + 1 * t2) 0
/-- the last d WEEKS of N, from a hem of q on -/
noncomputable def Pd (h : Nat) (t1 t2 : Int) (lw : Nat → Int) (N : Nat) : Nat → Nat → pp
  | 0, _ => (0, 0)
  | d + 1, q => stp h t1 t2 (lw (N - 2 - d)) (lw (N - 2 - d) + (q : Int)) (lw (N - 2 - d + 1)) (Pd h t1 t2 lw N d)
noncomputable def Pall (h : Nat) (t1 t2 : Int) (lw : Nat → Int) (N : Nat) : pp := mnp (fun q => adp (Pd h t1 t2 lw N (N - 1) q) ((lw 0 + (q : Int)) * t1 + 0 * t2) (lw 0 + (q : Int))) h
theorem adp_bd {A I C J c i : Int} {p : pp} (h : bdp A I p) (hc : 0 ≤ c ∧ c ≤ C) (hi : 0 ≤ i ∧ i ≤ J) : bdp (A + C) (I + J) (adp p c i) := by
  obtain ⟨a, b⟩ := p
  unfold bdp at h ⊢
  unfold adp
  dsimp only at h ⊢
  omega
theorem stp_bd {h : Nat} {t1 t2 a l x A I : Int} {Q : Nat → pp} (h9 : h ≤ 9) (p1 : 0 ≤ t1 ∧ t1 ≤ 9) (p2 : 0 ≤ t2 ∧ t2 ≤ 9) (ha : 0 ≤ a ∧ a ≤ 99) (hl : a ≤ l ∧ l ≤ a + h) (hx : 0 ≤ x ∧ x ≤ 99) (hQ : ∀ q, q ≤ h → bdp A I (Q q)) : bdp (A + 1107) (I + 120) (stp h t1 t2 a l x Q) := by
  have up : ∀ p : pp, bdp A I p → bdp (A + 1107) (I + 120) p := fun p hp => by
    unfold bdp at hp ⊢
    omega
  unfold stp
  by_cases q1 : a = x
  · rw [if_pos q1]
    exact up _ (hQ _ (by omega))
  · rw [if_neg q1]
    by_cases q2 : l < x
    · rw [if_pos q2]
      refine mnp_bd h (fun q hq => ?_)
      exact adp_bd (hQ q hq) (cost_rng2 (by omega) (by omega) p1 p2) (by omega)
    · rw [if_neg q2]
      by_cases q3 : x + (h : Int) < l
      · rw [if_pos q3]
        refine mnp_bd h (fun q hq => ?_)
        exact adp_bd (hQ q hq) (cost_rng2 (by omega) (by omega) p1 p2) (by omega)
      · rw [if_neg q3]
        exact adp_bd (hQ _ (by omega)) (cost_rng2 (by omega) (by omega) p1 p2) (by omega)
theorem Pd_bd {h N : Nat} {t1 t2 : Int} {lw : Nat → Int} (h9 : h ≤ 9) (p1 : 0 ≤ t1 ∧ t1 ≤ 9) (p2 : 0 ≤ t2 ∧ t2 ≤ 9) (hl : ∀ k, 0 ≤ lw k ∧ lw k ≤ 99) : ∀ d q : Nat, q ≤ h → bdp (1107 * d) (120 * d) (Pd h t1 t2 lw N d q)
  | 0, q, _ => by
    rw [Pd]
    unfold bdp
    dsimp only
    omega
  | d + 1, q, hq => by
    rw [Pd]
    have h1 := stp_bd (A := 1107 * d) (I := 120 * d) (Q := Pd h t1 t2 lw N d) h9 p1 p2 (hl (N - 2 - d)) (l := lw (N - 2 - d) + (q : Int)) (by omega) (hl (N - 2 - d + 1)) (fun q hq => Pd_bd h9 p1 p2 hl d q hq)
    unfold bdp at h1 ⊢
    omega
theorem e4_add {p : pp} {c i : Int} : e4 (adp p c i) = e4 p + (c * 4096 + i) := by
  unfold e4 adp
  dsimp only
  omega
theorem e6_add {p : pp} {c i : Int} : e6 (adp p c i) = 1000000 * c + i + e6 p := by
  unfold e6 adp
  dsimp only
  omega
theorem e4_rng {p : pp} {A I : Int} (h : bdp A I p) : 0 ≤ e4 p ∧ e4 p ≤ 4096 * A + I := by
  unfold bdp at h
  unfold e4
  omega
theorem e6_rng {p : pp} {A I : Int} (h : bdp A I p) : 0 ≤ e6 p ∧ e6 p ≤ 1000000 * A + I := by
  unfold bdp at h
  unfold e6
  omega
section ZPlanX
variable {T : Nat → Nat → zG → (Option zA → zM → Prop) → Prop} {B : Int}
set_option maxHeartbeats 4000000 in
theorem z_cheapStep (hT : zRules T) {D : Nat} {κ : Option zA → zM → Prop} {m : zM} {a l x : Int} {h d : Nat} {Q : Nat → pp} (hB : zB m) (hh : m 24 0 = (h : Int)) (hd : d ≤ 20) (ha : 0 ≤ a ∧ a ≤ 99) (hl : a ≤ l ∧ l ≤ a + h) (hx : 0 ≤ x ∧ x ≤ 99) (hQ : ∀ q, q ≤ h → bdp (1107 * d) (120 * d) (Q q)) (h55 : ∀ q, q ≤ h → m 55 q = e4 (Q q))
    (hk : κ (some (zi (e4 (stp h (m 24 1) (m 24 2) a l x Q)))) m) : T (D + 5) 86 (0, [(0, zr 52), (1, zr 17), (2, zi a), (3, zi l), (4, zi x)], [], m) κ := by
  have b24 : 0 ≤ m 24 0 ∧ m 24 0 ≤ 9 := hB 24 0
  have p1 : 0 ≤ m 24 1 ∧ m 24 1 ≤ 9 := hB 24 1
  have p2 : 0 ≤ m 24 2 ∧ m 24 2 ≤ 9 := hB 24 2
  -- the least of the hems left
  have loop : ∀ (f : Nat → pp) (w : Int), (0 ≤ w ∧ w ≤ 3) → (∀ q, q ≤ h → bdp (1107 * d + 1107) (120 * d + 120) (f q)) → (¬ w = 3 → ∀ q : Nat, q ≤ h → m 55 q + (((0 * m 24 1 + w * m 24 2) * 4096) + 0) = e4 (f q)) → (w = 3 → ∀ q : Nat, q ≤ h → m 55 q + wr ((wr ((((x - l) + (q : Int)) * (m 24 1)) + (w * (m 24 2))) * 4096) + ((x - l) + (q : Int))) = e4 (f q)) → κ (some (zi (e4 (mnp f h)))) m → ∀ (j k : Nat) (b : Int), k + j = h + 1 → ((k = 0 ∧ b = 0) ∨ (0 < k ∧ b = e4 (mnp f (k - 1)))) → T (D + 5) 86 (56, [(0, zr 52), (1, zr 17), (3, zi l), (4, zi x), (5, zi w), (7, zi b), (8, zi (k : Int))], [], m) κ := by
    intro f w hw hf v2 v3 hkf j
    induction j with
    | zero =>
      intro k b hj hb
      have eb : b = e4 (mnp f h) := by
        rcases hb with ⟨h0, _⟩ | ⟨_, h1⟩
        · omega
        · rw [h1, show k - 1 = h by omega]
      have hr := e4_rng (mnp_bd h hf)
      refine zb86_56 hT rfl hB (by omega) hx hw (by omega) (by omega) (fun _ => ?_) (fun q => by omega) (fun q => by omega) (fun q => by omega) (fun q => by omega) (fun q => by omega) (fun q => by omega)
      rw [eb]
      exact hkf
    | succ j ih =>
      intro k b hj hb
      have hfk := e4_rng (hf k (by omega))
      have hbr : 0 ≤ b ∧ b ≤ 4096 * (1107 * d + 1107) + (120 * d + 120) := by
        rcases hb with ⟨_, h0⟩ | ⟨_, h1⟩
        · omega
        · rw [h1]
          exact e4_rng (mnp_bd (k - 1) (fun q hq => hf q (by omega)))
      have first : k = 0 → T (D + 5) 86 (56, [(0, zr 52), (1, zr 17), (3, zi l), (4, zi x), (5, zi w), (7, zi (e4 (f k))), (8, zi ((k : Int) + 1))], [], m) κ := fun e => by
        subst e
        exact ih 1 _ (by omega) (Or.inr ⟨by omega, rfl⟩)
      have keep : ¬ k = 0 → ¬ e4 (f k) < b → T (D + 5) 86 (56, [(0, zr 52), (1, zr 17), (3, zi l), (4, zi x), (5, zi w), (7, zi b), (8, zi ((k : Int) + 1))], [], m) κ := fun e e2 => by
        rcases hb with ⟨h0, _⟩ | ⟨_, h1⟩
        · exact absurd h0 e
        · refine ih (k + 1) b (by omega) (Or.inr ⟨by omega, ?_⟩)
          obtain ⟨k2, rfl⟩ : ∃ k2, k = k2 + 1 := ⟨k - 1, by omega⟩
          rw [show k2 + 1 + 1 - 1 = k2 + 1 by omega, mnp]
          rw [show k2 + 1 - 1 = k2 by omega] at h1
          rw [h1] at e2
          rw [h1, mip_no (fun q => e2 ((lt4 (mnp_bd k2 (fun q hq => hf q (by omega))) (hf (k2 + 1) (by omega)) (by omega)).mpr q))]
      have new : ¬ k = 0 → e4 (f k) < b → T (D + 5) 86 (56, [(0, zr 52), (1, zr 17), (3, zi l), (4, zi x), (5, zi w), (7, zi (e4 (f k))), (8, zi ((k : Int) + 1))], [], m) κ := fun e e2 => by
        rcases hb with ⟨h0, _⟩ | ⟨_, h1⟩
        · exact absurd h0 e
        · refine ih (k + 1) _ (by omega) (Or.inr ⟨by omega, ?_⟩)
          obtain ⟨k2, rfl⟩ : ∃ k2, k = k2 + 1 := ⟨k - 1, by omega⟩
          rw [show k2 + 1 + 1 - 1 = k2 + 1 by omega, mnp]
          rw [show k2 + 1 - 1 = k2 by omega] at h1
          rw [h1] at e2
          rw [mip_yes ((lt4 (mnp_bd k2 (fun q hq => hf q (by omega))) (hf (k2 + 1) (by omega)) (by omega)).mp e2)]
      refine zb86_56 hT rfl hB (by omega) hx hw (by omega) (by omega) (fun q => by omega) (fun q q3 q0 => ?_) (fun q q3 q0 q4 => ?_) (fun q q3 q0 q4 => ?_) (fun q q3 q0 => ?_) (fun q q3 q0 q4 => ?_) (fun q q3 q0 q4 => ?_)
      · rw [v2 q3 k (by omega)]
        exact first (by omega)
      · rw [v2 q3 k (by omega), wr_id (by omega) (by omega)] at q4
        exact keep (by omega) q4
      · rw [v2 q3 k (by omega)] at q4 ⊢
        rw [wr_id (by omega) (by omega)] at q4
        exact new (by omega) q4
      · rw [v3 q3 k (by omega)]
        exact first (by omega)
      · rw [v3 q3 k (by omega), wr_id (by omega) (by omega)] at q4
        exact keep (by omega) q4
      · rw [v3 q3 k (by omega)] at q4 ⊢
        rw [wr_id (by omega) (by omega)] at q4
        exact new (by omega) q4
  refine zb86_0 hT hB ha (by omega) hx (fun q1 q2 q3 => ?_) (fun q1 q2 q3 => ?_) (fun q1 q2 => ?_) (fun q1 q2 => by omega) (fun q1 q2 q3 => by omega) (fun q1 q2 q3 => ?_)
  · unfold stp at hk
    rw [if_neg q1, if_neg q2, if_pos (by omega)] at hk
    refine loop (fun q => adp (Q q) (0 * m 24 1 + 2 * m 24 2) 0) 2 (by omega) (fun q hq => adp_bd (hQ q hq) (cost_rng2 (by omega) (by omega) p1 p2) (by omega)) (fun _ q hq => ?_) (fun e => absurd e (by decide)) hk (h + 1) 0 0 (by omega) (Or.inl ⟨rfl, rfl⟩)
    rw [e4_add, h55 q hq]
  · unfold stp at hk
    rw [if_neg q1, if_neg q2, if_neg (by omega)] at hk
    have hr := e4_rng (hQ (l - x).toNat (by omega))
    have hc := cost_rng2 (s := 0) (w := 1) (by omega) (by omega) p1 p2
    rw [h55 (l - x).toNat (by omega), ← e4_add]
    have hr2 := e4_rng (adp_bd (hQ (l - x).toNat (by omega)) hc (i := 0) (J := 120) (by omega))
    rw [wr_id (by omega) (by omega)]
    exact hk
  · unfold stp at hk
    rw [if_neg q1, if_pos q2] at hk
    refine loop (fun q => adp (Q q) ((x - l + (q : Int)) * m 24 1 + 3 * m 24 2) (x - l + (q : Int))) 3 (by omega) (fun q hq => adp_bd (hQ q hq) (cost_rng2 (by omega) (by omega) p1 p2) (by omega)) (fun e => absurd rfl e) (fun _ q hq => ?_) hk (h + 1) 0 0 (by omega) (Or.inl ⟨rfl, rfl⟩)
    have hc := cost_rng2 (s := x - l + (q : Int)) (w := 3) (by omega) (by omega) p1 p2
    rw [e4_add, h55 q hq]
    generalize (x - l + (q : Int)) * m 24 1 + 3 * m 24 2 = c at hc ⊢
    rw [wr_id (a := c) (by omega) (by omega), wr_id (by omega) (by omega)]
  · unfold stp at hk
    rw [if_pos q1] at hk
    have hr := e4_rng (hQ (l - x).toNat (by omega))
    rw [h55 (l - x).toNat (by omega), show ((0 * (m 24 1)) + (0 * (m 24 2))) * 4096 + 0 = 0 by rw [Int.zero_mul, Int.zero_mul]; rfl, Int.add_zero, wr_id (by omega) (by omega)]
    exact hk
set_option maxHeartbeats 4000000 in
theorem z_planCh (hT : zRules T) {D : Nat} {κ : Option zA → zM → Prop} {m : zM} {N h : Nat} {lw : Nat → Int} (hB : zB m) (hN : m 52 1 = (N : Int)) (hN1 : 1 ≤ N ∧ N ≤ 20) (hh : m 24 0 = (h : Int)) (hlw : ∀ k, k < N → m 53 k = lw k) (hl : ∀ k, 0 ≤ lw k ∧ lw k ≤ 99)
    (hk : ∀ M, zB M → zFr (inL [(52, some 5), (52, some 6), (55, none), (56, none)]) m M → κ (some (zi (Pall h (m 24 1) (m 24 2) lw N).1)) M) : T (D + 6) 84 (0, [(0, zr 52), (1, zr 17)], [], m) κ := by
  have b24 : 0 ≤ m 24 0 ∧ m 24 0 ≤ 9 := hB 24 0
  have p1 : 0 ≤ m 24 1 ∧ m 24 1 ≤ 9 := hB 24 1
  have p2 : 0 ≤ m 24 2 ∧ m 24 2 ≤ 9 := hB 24 2
  have h9 : h ≤ 9 := by omega
  have hP := Pd_bd (N := N) h9 p1 p2 hl
  have hPN : ∀ q, q ≤ h → bdp (1107 * 20) (120 * 20) (adp (Pd h (m 24 1) (m 24 2) lw N (N - 1) q) ((lw 0 + (q : Int)) * m 24 1 + 0 * m 24 2) (lw 0 + (q : Int))) := fun q hq => by
    have h0 := hl 0
    have h1 := adp_bd (hP (N - 1) q hq) (cost_rng2 (s := lw 0 + (q : Int)) (w := 0) (by omega) (by omega) p1 p2) (i := lw 0 + (q : Int)) (J := 120) (by omega)
    unfold bdp at h1 ⊢
    omega
  have last : ∀ (j k : Nat) (b : Int) (M : zM), k + j = h + 1 → ((k = 0 ∧ b = 0) ∨ (0 < k ∧ b = e4 (mnp (fun q => adp (Pd h (m 24 1) (m 24 2) lw N (N - 1) q) ((lw 0 + (q : Int)) * m 24 1 + 0 * m 24 2) (lw 0 + (q : Int))) (k - 1)))) → zB M → zFr (inL [(52, some 5), (52, some 6), (55, none), (56, none)]) m M → (∀ q : Nat, q ≤ h → M 55 q = e4 (Pd h (m 24 1) (m 24 2) lw N (N - 1) q)) → T (D + 6) 84 (113, [(0, zr 52), (1, zr 17), (2, zi (h : Int)), (3, zi b), (4, zi (k : Int))], [], M) κ := by
    intro j
    induction j with
    | zero =>
      intro k b M hj hb hBM hF h55
      have hr := mnp_bd h hPN
      have hb2 : b = e4 (Pall h (m 24 1) (m 24 2) lw N) := by
        rcases hb with ⟨h0, _⟩ | ⟨_, h1⟩
        · omega
        · rw [h1, show k - 1 = h by omega]
          rfl
      have hr2 : bdp (1107 * 20) (120 * 20) (Pall h (m 24 1) (m 24 2) lw N) := hr
      have hr3 := e4_rng hr2
      have ed : Int.tdiv b 4096 = (Pall h (m 24 1) (m 24 2) lw N).1 := by
        rw [hb2, Int.tdiv_eq_ediv_of_nonneg hr3.1]
        unfold e4
        unfold bdp at hr2
        omega
      refine zb84_113 hT rfl hBM (by omega) (by omega) (by omega) (fun _ hz => ?_) (fun q => by omega) (fun q => by omega) (fun q => by omega)
      unfold bdp at hr2
      rw [ed, wr_id (by omega) (by omega)]
      exact hk _ hz (hF.set rfl)
    | succ j ih =>
      intro k b M hj hb hBM hF h55
      have e1 : M 24 1 = m 24 1 := hF 24 1 rfl
      have e2 : M 24 2 = m 24 2 := hF 24 2 rfl
      have e53 : M 53 0 = lw 0 := (hF 53 0 rfl).trans (hlw 0 (by omega))
      have hfk := e4_rng (hPN k (by omega))
      have hbr : 0 ≤ b ∧ b ≤ 4096 * (1107 * 20) + 120 * 20 := by
        rcases hb with ⟨_, h0⟩ | ⟨_, h1⟩
        · omega
        · rw [h1]
          exact e4_rng (mnp_bd (k - 1) (fun q hq => hPN q (by omega)))
      have ev : (M 55 k) + ((((((M 53 0) + (k : Int)) * (M 24 1)) + (0 * (M 24 2))) * 4096) + ((M 53 0) + (k : Int))) = e4 (adp (Pd h (m 24 1) (m 24 2) lw N (N - 1) k) ((lw 0 + (k : Int)) * m 24 1 + 0 * m 24 2) (lw 0 + (k : Int))) := by
        rw [e4_add, h55 k (by omega), e1, e2, e53]
      refine zb84_113 hT rfl hBM (by omega) (by omega) (by omega) (fun q => by omega) (fun q q0 hz => ?_) (fun q q0 q4 => ?_) (fun q q0 q4 hz => ?_)
      · rw [ev]
        have ek : k = 0 := by omega
        subst ek
        exact ih 1 _ _ (by omega) (Or.inr ⟨by omega, rfl⟩) hz (hF.set rfl) (fun y hy => by rw [zu_dn (by omega)]; exact h55 y hy)
      · rw [ev, wr_id (by omega) (by omega)] at q4
        rcases hb with ⟨h0, _⟩ | ⟨_, h1⟩
        · omega
        · refine ih (k + 1) b M (by omega) (Or.inr ⟨by omega, ?_⟩) hBM hF h55
          obtain ⟨k2, rfl⟩ : ∃ k2, k = k2 + 1 := ⟨k - 1, by omega⟩
          rw [show k2 + 1 + 1 - 1 = k2 + 1 by omega, mnp]
          rw [show k2 + 1 - 1 = k2 by omega] at h1
          rw [h1] at q4
          rw [h1, mip_no (fun q => q4 ((lt4 (mnp_bd k2 (fun q hq => hPN q (by omega))) (hPN (k2 + 1) (by omega)) (by omega)).mpr q))]
      · rw [ev] at q4 ⊢
        rw [wr_id (by omega) (by omega)] at q4
        rcases hb with ⟨h0, _⟩ | ⟨_, h1⟩
        · omega
        · refine ih (k + 1) _ _ (by omega) (Or.inr ⟨by omega, ?_⟩) hz (hF.set rfl) (fun y hy => by rw [zu_dn (by omega)]; exact h55 y hy)
          obtain ⟨k2, rfl⟩ : ∃ k2, k = k2 + 1 := ⟨k - 1, by omega⟩
          rw [show k2 + 1 + 1 - 1 = k2 + 1 by omega, mnp]
          rw [show k2 + 1 - 1 = k2 by omega] at h1
          rw [h1] at q4
          rw [mip_yes ((lt4 (mnp_bd k2 (fun q hq => hPN q (by omega))) (hPN (k2 + 1) (by omega)) (by omega)).mp q4)]
  have steps : ∀ (j : Nat) (M : zM), j + 1 ≤ N → zB M → zFr (inL [(52, some 5), (52, some 6), (55, none), (56, none)]) m M → (∀ q : Nat, q ≤ h → M 55 q = e4 (Pd h (m 24 1) (m 24 2) lw N (N - 1 - j) q)) → T (D + 6) 84 (32, [(0, zr 52), (1, zr 17), (2, zi (h : Int)), (3, zi ((j : Int) - 1))], [], M) κ := by
    intro j
    induction j with
    | zero =>
      intro M hj hBM hF h55
      exact zb84_32 hT rfl hBM (by omega) (by omega) (fun _ => last (h + 1) 0 0 M (by omega) (Or.inl ⟨rfl, rfl⟩) hBM hF h55) (fun q => by omega)
    | succ j ih =>
      intro M hj hBM hF h55
      obtain ⟨d, hd⟩ : ∃ d : Nat, N - 1 - j = d + 1 ∧ N - 1 - (j + 1) = d ∧ N - 2 - d = j := ⟨N - 1 - (j + 1), by omega, by omega, by omega⟩
      obtain ⟨hd1, hd2, hd3⟩ := hd
      rw [hd2] at h55
      rw [show ((j + 1 : Nat) : Int) - 1 = (j : Int) by omega]
      refine zb84_32 hT rfl hBM (by omega) (by omega) (fun q => by omega) (fun _ => ?_)
      have row : ∀ (i k : Nat) (M2 : zM), k + i = h + 1 → zB M2 → zFr (inL [(56, none)]) M M2 → (∀ q : Nat, q < k → M2 56 q = e4 (Pd h (m 24 1) (m 24 2) lw N (d + 1) q)) → T (D + 6) 84 (39, [(0, zr 52), (1, zr 17), (2, zi (h : Int)), (3, zi (j : Int)), (4, zi (k : Int))], [], M2) κ := by
        intro i
        induction i with
        | zero =>
          intro k M2 hki hB2 hF2 h56
          refine zb84_39 hT rfl hB2 (by omega) (by omega) (by omega) (fun _ hz => ?_) (fun q => by omega)
          rw [show (j : Int) + (-1) = (j : Int) - 1 by omega]
          refine ih _ (by omega) hz ((hF.trans (hF2.sub (inL_sub (by decide)))).cp (fun _ => rfl)) (fun q hq => ?_)
          rw [z_cp_in (by omega), show 0 + (q - 0) = q by omega, hd1]
          exact h56 q (by omega)
        | succ i ih2 =>
          intro k M2 hki hB2 hF2 h56
          have hFa := hF.trans (hF2.sub (inL_sub (by decide)))
          have c53 : M2 53 j = lw j := (hFa 53 j rfl).trans (hlw j (by omega))
          have d53 : M2 53 (j + 1) = lw (j + 1) := (hFa 53 (j + 1) rfl).trans (hlw (j + 1) (by omega))
          have e24 : ∀ y, M2 24 y = m 24 y := fun y => hFa 24 y rfl
          have l1 := hl j
          have hst := stp_bd (Q := Pd h (m 24 1) (m 24 2) lw N d) h9 p1 p2 (hl j) (l := lw j + (k : Int)) (by omega) (hl (j + 1)) (fun q hq => hP d q hq)
          have hst2 := e4_rng hst
          have eP : Pd h (m 24 1) (m 24 2) lw N (d + 1) k = stp h (m 24 1) (m 24 2) (lw j) (lw j + (k : Int)) (lw (j + 1)) (Pd h (m 24 1) (m 24 2) lw N d) := by
            rw [Pd, hd3]
          refine zb84_39 hT rfl hB2 (by omega) (by omega) (by omega) (fun q => by omega) (fun _ => ?_)
          rw [c53, d53]
          refine z_cheapStep (h := h) (d := d) (Q := Pd h (m 24 1) (m 24 2) lw N d) hT hB2 ((e24 0).trans hh) (by omega) (hl j) (by omega) (hl (j + 1)) (fun q hq => hP d q hq) (fun q hq => by rw [hF2 55 q rfl]; exact h55 q hq) ?_
          rw [e24 1, e24 2, ← eP]
          rw [← eP] at hst2
          refine zb84_79 hT rfl hB2 (by omega) (by omega) (by omega) (by omega) (fun hz => ?_)
          refine ih2 (k + 1) _ (by omega) hz (hF2.set rfl) (fun q hq => ?_)
          by_cases e : q = k
          · rw [e, zu_sm rfl]
          · rw [zu_off (by omega)]
            exact h56 q (by omega)
      exact row (h + 1) 0 M (by omega) hBM zFr.refl (fun q hq => by omega)
  refine zb84_0 hT hB ?_
  rw [hh]
  have zero : ∀ (j k : Nat) (M : zM), k + j = h + 1 → zB M → zFr (inL [(55, none)]) m M → (∀ q : Nat, q < k → M 55 q = 0) → T (D + 6) 84 (7, [(0, zr 52), (1, zr 17), (2, zi (h : Int)), (3, zi (k : Int))], [], M) κ := by
    intro j
    induction j with
    | zero =>
      intro k M hj hBM hF h0
      refine zb84_7 hT rfl hBM (by omega) (by omega) (fun _ => ?_) (fun q => by omega)
      rw [hF 52 1 rfl, hN, show (N : Int) - 2 = ((N - 1 : Nat) : Int) - 1 by omega]
      refine steps (N - 1) M (by omega) hBM (hF.sub (inL_sub (by decide))) (fun q hq => ?_)
      rw [h0 q (by omega), Nat.sub_self]
      rfl
    | succ j ih =>
      intro k M hj hBM hF h0
      refine zb84_7 hT rfl hBM (by omega) (by omega) (fun q => by omega) (fun _ hz => ?_)
      refine ih (k + 1) _ (by omega) hz (hF.set rfl) (fun q hq => ?_)
      by_cases e : q = k
      · rw [e, zu_sm rfl]
      · rw [zu_off (by omega)]
        exact h0 q (by omega)
  exact zero (h + 1) 0 m (by omega) hB zFr.refl (fun q hq => by omega)
theorem z_lminX (hT : zRules T) {D : Nat} {κ : Option zA → zM → Prop} {m : zM} {b t : Int} (hb : 0 ≤ b ∧ b ≤ 9223372036854775807) (ht : 0 ≤ t ∧ t ≤ 9223372036854775807) (h1 : t < b → κ (some (zl t)) m) (h2 : ¬ t < b → κ (some (zl b)) m) : T (D + 3) 296 (0, [(0, zl b), (2, zl t)], [], m) κ := by
  have e : z_lc b t = if t < b then 1 else if b = t then 0 else -1 := by
    unfold z_lc
    rw [wl_id (by omega) (by omega), wl_id (by omega) (by omega)]
  refine zb296_0 hT (by omega) (by omega) (fun q => h1 ?_) (fun q => h2 (fun x => ?_))
  · rw [e] at q
    by_cases x : t < b
    · exact x
    · rw [if_neg x] at q
      split at q <;> omega
  · rw [e, if_pos x] at q
    exact q (by decide)
set_option maxHeartbeats 4000000 in
theorem z_leftFrom (hT : zRules T) {D : Nat} {κ : Option zA → zM → Prop} {m M : zM} {sc : zSc} {n k p pl e q h d : Nat} {a : Int} {Q : Nat → pp} (hI : Inv B sc n k m) (hBM : zB M) (hA : Agree coreK0 m M) (hp : p < n) (hpl : m 75 p = (pl : Int)) (he : e ≤ 19) (ha : 0 ≤ a ∧ a ≤ 99) (hq : q ≤ h) (hh : m 24 0 = (h : Int)) (hd : d ≤ 20)
    (hQ : ∀ j, j ≤ h → bdp (1107 * d) (120 * d) (Q j)) (h93 : ∀ j : Nat, j ≤ h → M 93 (10 * e + j) = e6 (Q j))
    (hk : ∀ M1, zB M1 → zFr (inL lbL) M M1 → κ (some (zl (e6 (stp h (m 24 1) (m 24 2) a (a + (q : Int)) (laF m p pl e) Q)))) M1) : T (D + 172) 257 (0, [(0, zr 74), (1, zi (p : Int)), (2, zi (e : Int)), (3, zi a), (4, zi (q : Int))], [], M) κ := by
  have i1 := hI.1
  have b17 : 0 ≤ m 17 0 ∧ m 17 0 ≤ 6 := i1 17 0
  have n1 := hI.2.2.2.1.1.1
  have b24 : 0 ≤ m 24 0 ∧ m 24 0 ≤ 9 := i1 24 0
  have p1 : 0 ≤ m 24 1 ∧ m 24 1 ≤ 9 := i1 24 1
  have p2 : 0 ≤ m 24 2 ∧ m 24 2 ≤ 9 := i1 24 2
  have e79 : ∀ j, j < 3 → M 79 j = m 24 j := fun j hj => (hA 79 j rfl).trans (hI.2.2.2.2.1 j hj)
  refine zb257_0 (D := D + 168) hT hBM (by omega) he ha (by omega) ?_
  refine z_lawInF (d := e) (pl := pl) hT hI hBM (hA.sub (fun q hq => List.mem_append.mpr (Or.inr (List.mem_append.mpr (Or.inl hq))))) (funext fun j => hA 78 j rfl) (hA 75 57 rfl) hp ((hA 75 p rfl).trans hpl) (by omega) (fun M1 hB1 hF1 => ?_)
  have hx := laFB (m := m) (p := p) (pl := pl) (k := e)
  generalize laF m p pl e = x at hx hk ⊢
  have f79 : ∀ j, j < 3 → M1 79 j = m 24 j := fun j hj => (hF1 79 j rfl).trans (e79 j hj)
  have f93 : ∀ j, j ≤ h → M1 93 (10 * e + j) = e6 (Q j) := fun j hj => (hF1 93 _ rfl).trans (h93 j hj)
  have hk1 := hk M1 hB1 hF1
  have loop : ∀ (f : Nat → pp) (y : Int), (0 ≤ y ∧ y ≤ 108) → (∀ q, q ≤ h → bdp (1107 * d + 1107) (120 * d + 120) (f q)) → (¬ x < y → ∀ t : Nat, t ≤ h → ((1000000 * (wr (((m 24 1) * ((x - y) + (t : Int))) + ((m 24 2) * 3)))) + (((x - y) + (t : Int)))) + e6 (Q t) = e6 (f t)) → (x < y → ∀ t : Nat, t ≤ h → ((1000000 * ((((m 24 1) * 0) + ((m 24 2) * 2)))) + 0) + e6 (Q t) = e6 (f t)) → κ (some (zl (e6 (mnp f h)))) M1 → ∀ (i t : Nat) (b : Int), t + i = h + 1 → ((t = 0 ∧ b = 9223372036854775807) ∨ (0 < t ∧ b = e6 (mnp f (t - 1)))) → T (D + 172) 257 (85, [(0, zr 74), (2, zi (e : Int)), (5, zi x), (6, zi y), (7, zl b), (9, zi (t : Int))], [], M1) κ := by
    intro f y hy hf v3 v2 hkf i
    induction i with
    | zero =>
      intro t b hti hb
      have eb : b = e6 (mnp f h) := by
        rcases hb with ⟨h0, _⟩ | ⟨_, h1⟩
        · omega
        · rw [h1, show t - 1 = h by omega]
      have hr := e6_rng (mnp_bd h hf)
      refine zb257_85 (D := D + 168) hT rfl hB1 he hx hy (by omega) (by omega) (fun _ => ?_) (fun q => by rw [f79 0 (by omega)] at q; omega) (fun q => by rw [f79 0 (by omega)] at q; omega)
      rw [eb]
      exact hkf
    | succ i ih =>
      intro t b hti hb
      have hft := e6_rng (hf t (by omega))
      have hbr : 0 ≤ b ∧ b ≤ 9223372036854775807 := by
        rcases hb with ⟨_, h0⟩ | ⟨_, h1⟩
        · omega
        · have := e6_rng (mnp_bd (t - 1) (fun q hq => hf q (by omega)))
          rw [h1]
          omega
      have nx : ∀ v : Int, v = e6 (mnp f t) → T (D + 172) 257 (143, [(0, zr 74), (2, zi (e : Int)), (5, zi x), (6, zi y), (7, zl b), (9, zi (t : Int))], [zl v], M1) κ := fun v hv => by
        have hr := e6_rng (mnp_bd t (fun q hq => hf q (by omega)))
        rw [← hv] at hr
        exact zb257_143 (D := D + 168) hT rfl hB1 he hx hy (by omega) (by omega) (ih (t + 1) v (by omega) (Or.inr ⟨by omega, hv⟩))
      have go : ∀ v : Int, v = e6 (f t) → T (D + 168 + 3) 296 (0, [(0, zl b), (2, zl v)], [], M1) (fun r m1 => T (D + 172) 257 (143, [(0, zr 74), (2, zi (e : Int)), (5, zi x), (6, zi y), (7, zl b), (9, zi (t : Int))], r.toList ++ [], m1) κ) := fun v hv => by
        refine z_lminX (D := D + 168) hT hbr (by omega) (fun q => nx v ?_) (fun q => nx b ?_)
        · rw [hv] at q ⊢
          rcases hb with ⟨h0, _⟩ | ⟨h0, h1⟩
          · subst h0
            rfl
          · obtain ⟨t2, rfl⟩ : ∃ t2, t = t2 + 1 := ⟨t - 1, by omega⟩
            rw [show t2 + 1 - 1 = t2 by omega] at h1
            rw [h1] at q
            rw [mnp, mip_yes ((lt6 (mnp_bd t2 (fun q hq => hf q (by omega))) (hf (t2 + 1) (by omega)) (by omega)).mp q)]
        · rw [hv] at q
          rcases hb with ⟨h0, h1⟩ | ⟨h0, h1⟩
          · omega
          · obtain ⟨t2, rfl⟩ : ∃ t2, t = t2 + 1 := ⟨t - 1, by omega⟩
            rw [show t2 + 1 - 1 = t2 by omega] at h1
            rw [h1] at q
            rw [h1, mnp, mip_no (fun w => q ((lt6 (mnp_bd t2 (fun q hq => hf q (by omega))) (hf (t2 + 1) (by omega)) (by omega)).mpr w))]
      refine zb257_85 (D := D + 168) hT rfl hB1 he hx hy (by omega) (by omega) (fun q => by rw [f79 0 (by omega)] at q; omega) (fun q q2 => ?_) (fun q q2 => ?_)
      · rw [f79 1 (by omega), f79 2 (by omega), f93 t (by omega)]
        exact go _ (v3 q2 t (by omega))
      · rw [f79 1 (by omega), f79 2 (by omega), f93 t (by omega)]
        exact go _ (v2 q2 t (by omega))
  refine zb257_6 (D := D + 168) hT rfl hB1 he ha (by omega) hx (fun q1 q2 => ?_) (fun q1 q2 q3 => ?_) (fun q1 q2 q3 => ?_) (fun q1 => ?_)
  · unfold stp at hk1
    rw [if_neg (by omega), if_pos q2] at hk1
    refine loop (fun q' => adp (Q q') ((x - (a + (q : Int)) + (q' : Int)) * m 24 1 + 3 * m 24 2) (x - (a + (q : Int)) + (q' : Int))) (a + (q : Int)) (by omega) (fun q' hq' => adp_bd (hQ q' hq') (cost_rng2 (by omega) (by omega) p1 p2) (by omega)) (fun _ t ht => ?_) (fun w => by omega) hk1 (h + 1) 0 _ (by omega) (Or.inl ⟨rfl, rfl⟩)
    have hc := cost_rng2 (s := x - (a + (q : Int)) + (t : Int)) (w := 3) (by omega) (by omega) p1 p2
    rw [e6_add, Int.mul_comm (m 24 1), Int.mul_comm (m 24 2)]
    generalize (x - (a + (q : Int)) + (t : Int)) * m 24 1 + 3 * m 24 2 = c at hc ⊢
    rw [wr_id (a := c) (by omega) (by omega)]
  · rw [f79 0 (by omega), hh] at q3
    unfold stp at hk1
    rw [if_neg (by omega), if_neg q2, if_pos q3] at hk1
    refine loop (fun q' => adp (Q q') (0 * m 24 1 + 2 * m 24 2) 0) (a + (q : Int)) (by omega) (fun q' hq' => adp_bd (hQ q' hq') (cost_rng2 (by omega) (by omega) p1 p2) (by omega)) (fun w => by omega) (fun _ t ht => ?_) hk1 (h + 1) 0 _ (by omega) (Or.inl ⟨rfl, rfl⟩)
    rw [e6_add, Int.mul_comm (m 24 1), Int.mul_comm (m 24 2)]
  · rw [f79 0 (by omega), hh] at q3
    unfold stp at hk1
    rw [if_neg (by omega), if_neg q2, if_neg q3, e6_add, Int.mul_comm 0, Int.mul_comm 1] at hk1
    rw [show (((10 * (e : Int)) + (a + (q : Int))) - x).toNat = 10 * e + ((a + (q : Int)) - x).toNat by omega, f93 _ (by omega), f79 1 (by omega), f79 2 (by omega)]
    exact hk1
  · unfold stp at hk1
    rw [if_pos q1.symm, show (a + (q : Int) - x).toNat = q by omega] at hk1
    rw [f93 q hq]
    exact hk1
set_option maxHeartbeats 8000000 in
theorem w_plan (hT : zRules T) {p nn : Int} (hp : isI p) (hn : isI nn) : Way T 140 258 [(0, zr 1), (1, zi p), (2, zi nn)] [(0, zr 74), (1, zi p), (2, zi nn)] 7 173 B B True := by
  rintro D m sc ⟨n, k, hI⟩ κ hκ
  have hI0 := hI
  obtain ⟨i1, i2, i3, i4, i5, i6, i7, i8, i9, i10, i11⟩ := hI
  obtain ⟨⟨n1, n2⟩, ⟨k1, k2⟩, hh, hRel, hok⟩ := i4
  have b17 : 0 ≤ m 17 0 ∧ m 17 0 ≤ 6 := i1 17 0
  have b24 : 0 ≤ m 24 0 ∧ m 24 0 ≤ 9 := i1 24 0
  have p1 : 0 ≤ m 24 1 ∧ m 24 1 ≤ 9 := i1 24 1
  have p2 : 0 ≤ m 24 2 ∧ m 24 2 ≤ 9 := i1 24 2
  obtain ⟨h, hh0⟩ : ∃ h : Nat, m 24 0 = (h : Int) := ⟨(m 24 0).toNat, by omega⟩
  have fin : ∀ (κ2 : Option zA → zM → Prop) (a b : Int) (M1 : zM), a = b → (∀ r2 m2, (True → some (zi a) = r2) → (∃ n k, Inv B sc n k m2) → κ2 r2 m2) → zB M1 → Agree coreK0 m M1 → RowP M1 → κ2 (some (zi b)) M1 := fun κ2 a b M1 e h2 hB1 hA1 hr => h2 _ _ (fun _ => by rw [e]) ⟨n, k, Inv_row hA1 hB1 hr hI0⟩
  have rp12 : RowP (zu m 74 12 0) := RowP_fr (.of (L := [(74, some 12)]) (zFr.refl.set rfl) rfl) i11.2.2.2
  have t12 : ∀ M0, Agree coreK0 m M0 → Agree coreK0 m (zu M0 74 12 0) := fun M0 hA0 => hA0.trans (.of (L := [(74, some 12)]) (zFr.refl.set rfl) rfl)
  have no : ¬ (0 ≤ p ∧ p < n ∧ 1 ≤ nn ∧ nn ≤ 20) → κ (some (zi (-1))) m := fun hno => by
    refine hκ _ _ (fun D2 κ2 h2 => ?_)
    have f := fun hz => fin κ2 (-1) (-1) _ rfl h2 hz (t12 m (fun _ _ _ => rfl)) rp12
    exact zb258_0 (D := D2 + 168) hT i1 hp hn (fun _ hz => f hz) (fun _ _ hz => f hz) (fun _ _ _ hz => f hz) (fun _ _ _ _ hz => f hz) (fun q1 q2 q3 q4 hz => absurd ⟨by omega, by omega, by omega, by omega⟩ hno)
  refine zb140_0 hT i1 hp hn (fun _ => no (by omega)) (fun _ _ => no (by omega)) (fun _ _ _ => no (by omega)) (fun q1 q2 q3 q4 => ?_) (fun _ _ _ _ => no (by omega))
  obtain ⟨a, rfl⟩ : ∃ a : Nat, p = (a : Int) := ⟨p.toNat, by omega⟩
  obtain ⟨N, rfl⟩ : ∃ N : Nat, nn = (N : Int) := ⟨nn.toNat, by omega⟩
  obtain ⟨h78, h18⟩ := hh a (by omega)
  obtain ⟨r1, r2⟩ := hRel.1 a (by omega)
  have bpl := (hok.1 a (by omega)).1
  obtain ⟨pl, hpl⟩ : ∃ pl : Nat, m 75 a = (pl : Int) := ⟨(m 75 a).toNat, by omega⟩
  have hl : ∀ y, 0 ≤ laF m a pl y ∧ laF m a pl y ≤ 99 := fun y => laFB
  have hP := Pd_bd (N := N) (show h ≤ 9 by omega) p1 p2 hl
  have hPN : ∀ q, q ≤ h → bdp (1107 * 20) (120 * 20) (adp (Pd h (m 24 1) (m 24 2) (laF m a pl) N (N - 1) q) ((laF m a pl 0 + (q : Int)) * m 24 1 + 0 * m 24 2) (laF m a pl 0 + (q : Int))) := fun q hq => by
    have h0 := hl 0
    have h1 := adp_bd (hP (N - 1) q hq) (cost_rng2 (s := laF m a pl 0 + (q : Int)) (w := 0) (by omega) (by omega) p1 p2) (i := laF m a pl 0 + (q : Int)) (J := 120) (by omega)
    unfold bdp at h1 ⊢
    omega
  have ref : ∀ (r : Int) (M0 : zM), r = (Pall h (m 24 1) (m 24 2) (laF m a pl) N).1 → zB M0 → (Agree coreK0 m M0 ∧ M0 72 1 = 2) → κ (some (zi r)) M0 := by
    intro r M0 hr hB0 hA0
    refine hκ _ _ (fun D2 κ2 h2 => ?_)
    have e4 : M0 74 4 = (n : Int) := (hA0.1 74 4 rfl).trans n2
    refine zb258_0 (D := D2 + 168) hT hB0 hp hn (fun q => by omega) (fun _ q => by omega) (fun _ _ q => by omega) (fun _ _ _ q => by omega) (fun _ _ _ _ hz => ?_)
    have law : ∀ (d : Nat) (D3 : Nat) (κ3 : Option zA → zM → Prop) (M : zM), zB M → (Agree coreK0 m M ∧ M 72 1 = 2) → d ≤ 20 → (∀ M1, zB M1 → zFr (inL lbL) M M1 → κ3 (some (zi (laF m a pl d))) M1) → T (D3 + 171) 216 (0, [(0, zr 74), (1, zi (a : Int)), (2, zi (d : Int))], [], M) κ3 := fun d D3 κ3 M hBM hA hd h3 =>
      z_lawInF (d := d) (pl := pl) hT hI0 hBM (hA.1.sub (fun q hq => List.mem_append.mpr (Or.inr (List.mem_append.mpr (Or.inl hq))))) (funext fun j => hA.1 78 j rfl) (hA.1 75 57 rfl) (by omega) ((hA.1 75 a rfl).trans hpl) (by omega) (fun M1 hB1 hF1 => h3 M1 hB1 hF1)
    have t79 : ∀ M, (Agree coreK0 m M ∧ M 72 1 = 2) → ∀ j, j < 3 → M 79 j = m 24 j := fun M hA j hj => (hA.1 79 j rfl).trans (i5 j hj)
    -- the end: the best hem to begin with
    have h125 : ∀ (i t f : Nat) (b : Int) (M : zM), t + i = h + 1 → f ≤ 9 → ((t = 0 ∧ b = 9223372036854775807) ∨ (0 < t ∧ b = e6 (mnp (fun q => adp (Pd h (m 24 1) (m 24 2) (laF m a pl) N (N - 1) q) ((laF m a pl 0 + (q : Int)) * m 24 1 + 0 * m 24 2) (laF m a pl 0 + (q : Int))) (t - 1)))) → zB M → (Agree coreK0 m M ∧ M 72 1 = 2) → (∀ j : Nat, j ≤ h → M 93 j = e6 (Pd h (m 24 1) (m 24 2) (laF m a pl) N (N - 1) j)) → T (D2 + 173) 258 (125, [(0, zr 74), (1, zi (a : Int)), (3, zl b), (5, zi (f : Int)), (6, zi (t : Int))], [], M) κ2 := by
      intro i
      induction i with
      | zero =>
        intro t f b M ht hf hb hBM hA h93
        have e790 := t79 M hA 0 (by omega)
        have hr2 : bdp (1107 * 20) (120 * 20) (Pall h (m 24 1) (m 24 2) (laF m a pl) N) := mnp_bd h hPN
        have hr3 := e6_rng hr2
        have hb2 : b = e6 (Pall h (m 24 1) (m 24 2) (laF m a pl) N) := by
          rcases hb with ⟨h0, _⟩ | ⟨_, h1⟩
          · omega
          · rw [h1, show t - 1 = h by omega]
            rfl
        have ed : Int.tdiv b 1000000 = (Pall h (m 24 1) (m 24 2) (laF m a pl) N).1 := by
          rw [hb2, Int.tdiv_eq_ediv_of_nonneg hr3.1]
          unfold e6
          unfold bdp at hr2
          omega
        refine zb258_125 (D := D2 + 168) hT rfl hBM (by omega) (by omega) hf (by omega) (fun _ hz2 => ?_) (fun q => by omega)
        unfold bdp at hr2
        rw [ed, wl_id (by omega) (by omega), wr_id (by omega) (by omega)]
        exact fin κ2 r _ _ hr h2 hz2 (hA.1.trans (.of (L := [(74, some 11), (81, none)]) (((((zFr.refl.set rfl).set rfl).set rfl).set rfl).set rfl) rfl)) (RowP.len (by simp (disch := decide) only [zu_sm, zu_off, zu_dn, hA.2] <;> rfl))
      | succ i ih =>
        intro t f b M ht hf hb hBM hA h93
        have e790 := t79 M hA 0 (by omega)
        have hbr : 0 ≤ b ∧ b ≤ 9223372036854775807 := by
          rcases hb with ⟨_, h0⟩ | ⟨_, h1⟩
          · omega
          · have := e6_rng (mnp_bd (t - 1) (fun q hq => hPN q (by omega)))
            rw [h1]
            omega
        refine zb258_125 (D := D2 + 168) hT rfl hBM (by omega) (by omega) hf (by omega) (fun q => by omega) (fun q => ?_)
        refine law 0 (D2 + 1) _ M hBM hA (by omega) (fun M1 hB1 hF1 => ?_)
        have hA1 : (Agree coreK0 m M1 ∧ M1 72 1 = 2) := ⟨hA.1.trans (.of hF1 rfl), (hF1 72 1 rfl).trans hA.2⟩
        have c93 : ∀ j : Nat, j ≤ h → M1 93 j = e6 (Pd h (m 24 1) (m 24 2) (laF m a pl) N (N - 1) j) := fun j hj => (hF1 93 j rfl).trans (h93 j hj)
        have hft := e6_rng (hPN t (by omega))
        have ev : ((1000000 * ((((M1 79 1) * (laF m a pl 0 + (t : Int))) + ((M1 79 2) * 0)))) + ((laF m a pl 0 + (t : Int)))) + (M1 93 t) = e6 (adp (Pd h (m 24 1) (m 24 2) (laF m a pl) N (N - 1) t) ((laF m a pl 0 + (t : Int)) * m 24 1 + 0 * m 24 2) (laF m a pl 0 + (t : Int))) := by
          rw [e6_add, c93 t (by omega), t79 M1 hA1 1 (by omega), t79 M1 hA1 2 (by omega), Int.mul_comm (m 24 1), Int.mul_comm (m 24 2)]
        have elc : z_lc (e6 (adp (Pd h (m 24 1) (m 24 2) (laF m a pl) N (N - 1) t) ((laF m a pl 0 + (t : Int)) * m 24 1 + 0 * m 24 2) (laF m a pl 0 + (t : Int)))) b < 0 ↔ e6 (adp (Pd h (m 24 1) (m 24 2) (laF m a pl) N (N - 1) t) ((laF m a pl 0 + (t : Int)) * m 24 1 + 0 * m 24 2) (laF m a pl 0 + (t : Int))) < b := by
          unfold z_lc
          rw [wl_id (by omega) (by omega), wl_id (by omega) (by omega)]
          split
          · omega
          · split <;> omega
        refine zb258_143 (D := D2 + 168) hT rfl hB1 (by omega) (by omega) hf (by omega) (hl 0) (fun q4 => ?_) (fun q4 => ?_)
        · rw [ev] at q4 ⊢
          have q5 := elc.mp q4
          refine ih (t + 1) t _ M1 (by omega) (by omega) (Or.inr ⟨by omega, ?_⟩) hB1 hA1 c93
          rcases hb with ⟨h0, _⟩ | ⟨h0, h1⟩
          · subst h0
            rfl
          · obtain ⟨t2, rfl⟩ : ∃ t2, t = t2 + 1 := ⟨t - 1, by omega⟩
            rw [show t2 + 1 - 1 = t2 by omega] at h1
            rw [h1] at q5
            rw [show t2 + 1 + 1 - 1 = t2 + 1 by omega, mnp, mip_yes ((lt6 (mnp_bd t2 (fun q hq => hPN q (by omega))) (hPN (t2 + 1) (by omega)) (by omega)).mp q5)]
        · rw [ev] at q4
          have q5 := fun w => q4 (elc.mpr w)
          refine ih (t + 1) f b M1 (by omega) hf (Or.inr ⟨by omega, ?_⟩) hB1 hA1 c93
          rcases hb with ⟨h0, h1⟩ | ⟨h0, h1⟩
          · omega
          · obtain ⟨t2, rfl⟩ : ∃ t2, t = t2 + 1 := ⟨t - 1, by omega⟩
            rw [show t2 + 1 - 1 = t2 by omega] at h1
            rw [h1] at q5
            rw [h1, show t2 + 1 + 1 - 1 = t2 + 1 by omega, mnp, mip_no (fun w => q5 ((lt6 (mnp_bd t2 (fun q hq => hPN q (by omega))) (hPN (t2 + 1) (by omega)) (by omega)).mpr w))]
    -- the weeks, the last first
    have h57 : ∀ (r : Nat) (M : zM), r + 1 ≤ N → zB M → (Agree coreK0 m M ∧ M 72 1 = 2) → (∀ j : Nat, j ≤ h → M 93 (10 * r + j) = e6 (Pd h (m 24 1) (m 24 2) (laF m a pl) N (N - 1 - r) j)) → T (D2 + 173) 258 (57, [(0, zr 74), (1, zi (a : Int)), (3, zi ((r : Int) - 1))], [], M) κ2 := by
      intro r
      induction r with
      | zero =>
        intro M hr hBM hA h93
        refine zb258_57 (D := D2 + 168) hT rfl hBM (by omega) (by omega) (fun _ => ?_) (fun q => by omega)
        exact h125 (h + 1) 0 0 _ M (by omega) (by omega) (Or.inl ⟨rfl, rfl⟩) hBM hA (fun j hj => by
          have := h93 j hj
          rw [show 10 * 0 + j = j by omega] at this
          exact this)
      | succ r ih =>
        intro M hr hBM hA h93
        obtain ⟨d, hd⟩ : ∃ d : Nat, N - 1 - r = d + 1 ∧ N - 1 - (r + 1) = d ∧ N - 2 - d = r := ⟨N - 1 - (r + 1), by omega, by omega, by omega⟩
        obtain ⟨hd1, hd2, hd3⟩ := hd
        rw [hd2] at h93
        rw [show ((r + 1 : Nat) : Int) - 1 = (r : Int) by omega]
        refine zb258_57 (D := D2 + 168) hT rfl hBM (by omega) (by omega) (fun q => by omega) (fun _ => ?_)
        have row : ∀ (i t : Nat) (M : zM), t + i = h + 1 → zB M → (Agree coreK0 m M ∧ M 72 1 = 2) → (∀ j : Nat, j ≤ h → M 93 (10 * (r + 1) + j) = e6 (Pd h (m 24 1) (m 24 2) (laF m a pl) N d j)) → (∀ j : Nat, j < t → M 93 (10 * r + j) = e6 (Pd h (m 24 1) (m 24 2) (laF m a pl) N (d + 1) j)) → T (D2 + 173) 258 (64, [(0, zr 74), (1, zi (a : Int)), (3, zi (r : Int)), (4, zi (t : Int))], [], M) κ2 := by
          intro i
          induction i with
          | zero =>
            intro t M ht hBM hA h93 hr0
            have e790 := t79 M hA 0 (by omega)
            refine zb258_64 (D := D2 + 168) hT rfl hBM (by omega) (by omega) (by omega) (fun _ => ?_) (fun q => by omega)
            exact ih M (by omega) hBM hA (fun j hj => by rw [hd1]; exact hr0 j (by omega))
          | succ i ih2 =>
            intro t M ht hBM hA h93 hr0
            have e790 := t79 M hA 0 (by omega)
            refine zb258_64 (D := D2 + 168) hT rfl hBM (by omega) (by omega) (by omega) (fun q => by omega) (fun q => ?_)
            refine law r (D2 + 1) _ M hBM hA (by omega) (fun M1 hB1 hF1 => ?_)
            have hA1 : (Agree coreK0 m M1 ∧ M1 72 1 = 2) := ⟨hA.1.trans (.of hF1 rfl), (hF1 72 1 rfl).trans hA.2⟩
            rw [show (r : Int) + 1 = ((r + 1 : Nat) : Int) by omega, show (10 * (r : Int)) + (t : Int) = ((10 * r + t : Nat) : Int) by omega]
            refine zb258_97 (D := D2 + 168) hT rfl hB1 (by omega) (by omega) (by omega) (hl r) (by omega) (by omega) ?_
            have eP : Pd h (m 24 1) (m 24 2) (laF m a pl) N (d + 1) t = stp h (m 24 1) (m 24 2) (laF m a pl r) (laF m a pl r + (t : Int)) (laF m a pl (r + 1)) (Pd h (m 24 1) (m 24 2) (laF m a pl) N d) := by
              rw [Pd, hd3]
            have hPr := e6_rng (hP (d + 1) t (by omega))
            refine z_leftFrom (pl := pl) (h := h) (d := d) (Q := Pd h (m 24 1) (m 24 2) (laF m a pl) N d) hT hI0 hB1 hA1.1 (by omega) hpl (by omega) (hl r) (by omega) hh0 (by omega) (fun j hj => hP d j hj) (fun j hj => (hF1 93 _ rfl).trans (h93 j hj)) (fun M2 hB2 hF2 => ?_)
            rw [← eP]
            have hFa := hF1.trans hF2
            have hA2 : (Agree coreK0 m M2 ∧ M2 72 1 = 2) := ⟨hA1.1.trans (.of hF2 rfl), (hF2 72 1 rfl).trans hA1.2⟩
            refine zb258_102 (D := D2 + 168) hT rfl hB2 (by omega) (by omega) (by omega) (by omega) (by omega) (fun hz3 => ?_)
            refine ih2 (t + 1) _ (by omega) hz3 ⟨hA2.1.trans (.of (L := [(93, none)]) (zFr.refl.set rfl) rfl), (zu_dn (by decide)).trans hA2.2⟩ (fun j hj => ?_) (fun j hj => ?_)
            · rw [zu_off (by omega), hFa 93 (10 * (r + 1) + j) rfl]
              exact h93 j hj
            · by_cases ej : j = t
              · rw [ej, zu_sm rfl]
              · rw [zu_off (by omega), hFa 93 (10 * r + j) rfl]
                exact hr0 j (by omega)
        exact row (h + 1) 0 M (by omega) hBM hA h93 (fun j hj => by omega)
    have h27 : ∀ (i t : Nat) (M : zM), t + i = 10 → zB M → (Agree coreK0 m M ∧ M 72 1 = 2) → (∀ j : Nat, j < t → M 93 (10 * (N - 1) + j) = 0) → T (D2 + 173) 258 (27, [(0, zr 74), (1, zi (a : Int)), (2, zi (N : Int)), (3, zi (t : Int))], [], M) κ2 := by
      intro i
      induction i with
      | zero =>
        intro t M ht hBM hA h0
        refine zb258_27 (D := D2 + 168) hT rfl hBM (by omega) (by omega) (by omega) (fun _ => ?_) (fun q => by omega) (fun q => by omega)
        rw [show (N : Int) - 2 = ((N - 1 : Nat) : Int) - 1 by omega]
        refine h57 (N - 1) M (by omega) hBM hA (fun j hj => ?_)
        rw [h0 j (by omega), Nat.sub_self]
        rfl
      | succ i ih =>
        intro t M ht hBM hA h0
        have ei : ((10 * ((N : Int) - 1)) + (t : Int)).toNat = 10 * (N - 1) + t := by omega
        refine zb258_27 (D := D2 + 168) hT rfl hBM (by omega) (by omega) (by omega) (fun q => by omega) (fun _ => by omega) (fun _ hz2 => ?_)
        rw [ei] at hz2 ⊢
        refine ih (t + 1) _ (by omega) hz2 ⟨hA.1.trans (.of (L := [(93, none)]) (zFr.refl.set rfl) rfl), (zu_dn (by decide)).trans hA.2⟩ (fun j hj => ?_)
        by_cases ej : j = t
        · rw [ej, zu_sm rfl]
        · rw [zu_off (by omega)]
          exact h0 j (by omega)
    exact h27 10 0 _ (by omega) hz ⟨t12 M0 hA0.1, (zu_dn (by decide)).trans hA0.2⟩ (fun j hj => by omega)
  rw [Int.toNat_natCast, r1, hpl]
  refine z_lookAhead (D := D + 1) hT i1 (by omega) (by omega) (by omega) (by omega) i3 (fun m1 hB2 hF1 g1 g2 => ?_)
  refine zb140_39 hT rfl hB2 ?_
  have e24 : ∀ y, m1 24 y = m 24 y := fun y => hF1 24 y rfl
  refine z_planCh (N := N) (h := h) (lw := laF m a pl) hT hB2 g1 (by omega) ((e24 0).trans hh0) g2 hl (fun M hBM hF2 => ?_)
  have hFa : zFr (inL [(13, none), (52, some 1), (52, some 5), (52, some 6), (53, none), (55, none), (56, none)]) m M := (hF1.sub (inL_sub (by decide))).trans (hF2.sub (inL_sub (by decide)))
  have hA : Agree coreK m M := .of hFa rfl
  have hr2 : bdp (1107 * 20) (120 * 20) (Pall h (m 24 1) (m 24 2) (laF m a pl) N) := mnp_bd h hPN
  unfold bdp at hr2
  rw [e24 1, e24 2]
  exact zb140_50 hT rfl hBM (by omega) (fun hz => ref _ _ rfl hz ⟨hA.w0.trans (.of (L := [(72, some 1), (73, none)]) (((zFr.refl.set rfl).set rfl).set rfl) rfl), by simp (disch := decide) only [zu_sm, zu_off, zu_dn] <;> rfl⟩)
end ZPlanX
