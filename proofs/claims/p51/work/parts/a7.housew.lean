/-! house(). -/
theorem House_grow {n k p c : Nat} {m M : zM} {fx fy gx gy : Nat → Int} (hn : n ≤ p) (hp : p ≤ 6) (hk : k ≤ c) (hc : c ≤ 8) (h4 : HouseRel n k m) (e1 : M 17 0 = (p : Int)) (e2 : M 74 4 = (p : Int)) (e3 : M 17 1 = (c : Int)) (e4 : M 74 6 = (c : Int)) (t1 : ∀ q, q < n → M 18 q = m 18 q ∧ M 19 q = m 19 q ∧ M 20 q = m 20 q) (t2 : ∀ q, q < k → M 21 q = m 21 q ∧ M 22 q = m 22 q ∧ M 23 q = m 23 q) (u1 : ∀ q, n ≤ q → q < p → M 18 q = fx q ∧ M 19 q = fy q ∧ M 20 q = -1 ∧ 1 ≤ fx q ∧ 0 ≤ fy q ∧ fy q ≤ 3) (u2 : ∀ q, k ≤ q → q < c → M 21 q = gx q ∧ M 22 q = gy q ∧ M 23 q = 0 ∧ 0 ≤ gy q) (r1 : ∀ q, q < n → M 78 q = m 78 q ∧ M 75 q = m 75 q ∧ M 75 (q + 6) = m 75 (q + 6)) (r2 : ∀ q, q < k → M 75 (q + 12) = m 75 (q + 12) ∧ M 75 (q + 20) = m 75 (q + 20) ∧ M 75 (q + 28) = m 75 (q + 28)) (v1 : ∀ q, n ≤ q → q < p → M 78 q = fx q ∧ M 75 q = fy q ∧ M 75 (q + 6) = -1) (v2 : ∀ q, k ≤ q → q < c → M 75 (q + 12) = gx q ∧ M 75 (q + 20) = gy q ∧ M 75 (q + 28) = 0) (hA : Agree [(17, some 10), (17, some 11), (25, some 2), (26, none)] m M) (h75 : ∀ j, 36 ≤ j → M 75 j = m 75 j) : HouseRel p c M := by
  obtain ⟨-, -, hh, ⟨q1, q2, q3, q4, q5, q6⟩, o1, o2, o3, o4⟩ := h4
  refine ⟨⟨e1, e2⟩, ⟨e3, e4⟩, fun q hq => ?_, ⟨fun q hq => ?_, fun q hq => ?_, ?_, fun i hi => ?_, ?_, ?_⟩, fun q hq => ?_, ?_, ?_, fun q hq => ?_⟩
  · rcases Nat.lt_or_ge q n with x | x
    · rw [(r1 q x).1, (t1 q x).1]
      exact hh q x
    · obtain ⟨y1, -, -, y4, -⟩ := u1 q x hq
      rw [(v1 q x hq).1, y1]
      exact ⟨rfl, y4⟩
  · rcases Nat.lt_or_ge q n with x | x
    · rw [(t1 q x).2.1, (t1 q x).2.2, (r1 q x).2.1, (r1 q x).2.2]
      exact q1 q x
    · obtain ⟨-, y2, y3, -⟩ := u1 q x hq
      rw [(v1 q x hq).2.1, (v1 q x hq).2.2, y2, y3]
      exact ⟨rfl, rfl⟩
  · rcases Nat.lt_or_ge q k with x | x
    · rw [(t2 q x).1, (t2 q x).2.1, (t2 q x).2.2, (r2 q x).1, (r2 q x).2.1, (r2 q x).2.2]
      exact q2 q x
    · obtain ⟨y1, y2, y3, -⟩ := u2 q x hq
      rw [(v2 q x hq).1, (v2 q x hq).2.1, (v2 q x hq).2.2, y1, y2, y3]
      exact ⟨rfl, rfl, rfl⟩
  · rw [hA 25 2 rfl, h75 56 (by omega)]
    exact q3
  · rw [h75 56 (by omega)] at hi
    rw [hA 26 i rfl, h75 (i + 36) (by omega)]
    exact q4 i hi
  · rw [hA 17 11 rfl, h75 57 (by omega)]
    exact q5
  · rw [hA 17 10 rfl, h75 58 (by omega)]
    exact q6
  · rcases Nat.lt_or_ge q n with x | x
    · rw [(r1 q x).2.1, (r1 q x).2.2]
      have := o1 q x
      omega
    · obtain ⟨-, -, -, -, y5, y6⟩ := u1 q x hq
      rw [(v1 q x hq).2.1, (v1 q x hq).2.2]
      exact ⟨⟨y5, y6⟩, Or.inl rfl⟩
  · rw [h75 56 (by omega)]
    exact o2
  · rw [h75 57 (by omega)]
    exact o3
  · rcases Nat.lt_or_ge q k with x | x
    · rw [(r2 q x).2.1]
      exact o4 q x
    · rw [(v2 q x hq).2.1]
      exact (u2 q x hq).2.2.2
theorem Kept_more {B : Int} {n k p c : Nat} {m M : zM} (hn : n ≤ p) (hk : k ≤ c) (hlt : n + k < p + c) (h : Agree [(44, none), (45, none), (46, none), (47, none), (106, none), (107, none), (108, none)] m M) (e : M 74 62 = m 74 62 + 1) (i7 : KeptRel B n k m) : KeptRel B p c M := by
  have c44 : M 44 = m 44 := funext fun j => h 44 j rfl
  have c45 : M 45 = m 45 := funext fun j => h 45 j rfl
  have c46 : M 46 = m 46 := funext fun j => h 46 j rfl
  have c47 : M 47 = m 47 := funext fun j => h 47 j rfl
  have c106 : M 106 = m 106 := funext fun j => h 106 j rfl
  have c107 : M 107 = m 107 := funext fun j => h 107 j rfl
  have c108 : M 108 = m 108 := funext fun j => h 108 j rfl
  obtain ⟨⟨a1, a2⟩, a3⟩ := i7
  refine ⟨by omega, fun i hi => ?_⟩
  have e44 : M (44 + i) = m (44 + i) := by
    rcases Nat.lt_or_ge i 1 with q | q
    · have : i = 0 := by omega
      subst this
      exact c44
    · have : i = 1 := by omega
      subst this
      exact c45
  rw [c107, c46, c47, c108, e44, c106, e]
  rcases a3 i hi with q | ⟨b1, kp, kc, b2, ⟨b3, b4⟩, ⟨b5, b6⟩, b7, b8, b9, b10, b11⟩
  · exact Or.inl q
  · exact Or.inr ⟨b1, kp, kc, b2, ⟨by omega, by omega⟩, ⟨b5, by omega⟩, fun x => by omega, fun _ => by omega, b9, b10, b11⟩
theorem Seen_more {n p : Nat} {m M : zM} (hn : n ≤ p) (h : Agree KS m M) (i : SeenRel n m) : SeenRel p M := by
  obtain ⟨j1, j2⟩ := Seen_fr h i
  refine ⟨j1, fun i hi => ?_⟩
  obtain ⟨x1, x2, x3, x4, x5⟩ := j2 i hi
  exact ⟨x1, x2, x3, x4, by omega⟩
theorem Inv_ho {B : Int} {sc : zSc} {n k p c : Nat} {m M : zM} (hI : Inv B sc n k m) (hz : zB M) (h : Agree (KL ++ (KM ++ (KJ ++ KX))) m M) (e1 : M 2 1 = 0) (e2 : M 74 9 = 0) (h57 : M 75 57 = m 75 57) (hH : HouseRel p c M) (hU : UndoRel B p c M) (hK : KeptRel B p c M) (hS : SeenRel p M) : Inv B sc p c M := by
  obtain ⟨i1, i2, i3, i4, i5, i6, i7, i8, i9, i10, i11⟩ := hI
  have m1' : ∀ {L1 L2 : zLs} {q : Nat × Option Nat}, q ∈ L1 → q ∈ L1 ++ L2 := fun q => List.mem_append.mpr (Or.inl q)
  have m2' : ∀ {L1 L2 : zLs} {q : Nat × Option Nat}, q ∈ L2 → q ∈ L1 ++ L2 := fun q => List.mem_append.mpr (Or.inr q)
  refine ⟨hz, ⟨by rw [e1, e2], fun j hj => by rw [e1] at hj; omega⟩, (h.sub (K2 := KL) (fun q hq => m1' hq)).law.1 i3, hH, Term_fr (h.sub (fun q hq => m2' (m1' hq))) i5, hU, hK, hS, Job_fr (h.sub (fun q hq => m2' (m2' (m1' hq)))) i9, ?_, Scr_fr (h.sub (fun q hq => m2' (m2' (m2' hq)))) i11⟩
  rw [h57]
  exact i10
section ZHouseW
variable {T : Nat → Nat → zG → (Option zA → zM → Prop) → Prop} {B : Int}
/-- the reference: those that came are written down -/
theorem z_houseR (hT : zRules T) {D : Nat} {κ : Option zA → zM → Prop} {m : zM} (hB : zB m) {n k : Nat} {w : hTy} (n4 : m 74 4 = (n : Int)) (k6 : m 74 6 = (k : Int)) (hH : HouR n k m w) (x1 : ∀ q, n ≤ q → q < w.1 → (1 ≤ w.2.2.1 q ∧ w.2.2.1 q ≤ 99) ∧ (0 ≤ w.2.2.2.1 q ∧ w.2.2.2.1 q ≤ 3)) (x2 : ∀ q, k ≤ q → q < w.2.1 → (0 ≤ w.2.2.2.2.1 q ∧ w.2.2.2.2.1 q ≤ 99) ∧ (0 ≤ w.2.2.2.2.2 q ∧ w.2.2.2.2.2 q ≤ 9))
    (h1 : ∀ r M, zB M → zFr (inL [(74, some 4), (74, some 6), (75, none), (78, none), (74, some 35), (74, some 62)]) m M → M 74 35 = 0 → M 74 62 = m 74 62 + 1 → M 74 4 = (w.1 : Int) → M 74 6 = (w.2.1 : Int) → (∀ q, n ≤ q → q < w.1 → M 78 q = w.2.2.1 q ∧ M 75 q = w.2.2.2.1 q ∧ M 75 (q + 6) = -1) → (∀ q, k ≤ q → q < w.2.1 → M 75 (q + 12) = w.2.2.2.2.1 q ∧ M 75 (q + 20) = w.2.2.2.2.2 q ∧ M 75 (q + 28) = 0) → (∀ q, q < n → M 78 q = m 78 q ∧ M 75 q = m 75 q ∧ M 75 (q + 6) = m 75 (q + 6)) → (∀ q, q < k → M 75 (q + 12) = m 75 (q + 12) ∧ M 75 (q + 20) = m 75 (q + 20) ∧ M 75 (q + 28) = m 75 (q + 28)) → (∀ j, 36 ≤ j → M 75 j = m 75 j) → κ r M) : T (D + 7) 206 (105, [(0, zr 74), (2, zi 0)], [], m) κ := by
  obtain ⟨⟨w1, w2⟩, ⟨w3, w4⟩, w5, w6, w7, w8⟩ := hH
  -- the people
  have loop1 : ∀ (j i : Nat) (M : zM), n + i + j = w.1 → zB M → zFr (inL [(74, some 4), (75, none), (78, none)]) m M → M 74 4 = ((n + i : Nat) : Int) → (∀ q, n ≤ q → q < n + i → M 78 q = w.2.2.1 q ∧ M 75 q = w.2.2.2.1 q ∧ M 75 (q + 6) = -1) → (∀ q, q < n → M 78 q = m 78 q ∧ M 75 q = m 75 q ∧ M 75 (q + 6) = m 75 (q + 6)) → (∀ j, 12 ≤ j → M 75 j = m 75 j) →
      (∀ M, zB M → zFr (inL [(74, some 4), (75, none), (78, none)]) m M → M 74 4 = (w.1 : Int) → (∀ q, n ≤ q → q < w.1 → M 78 q = w.2.2.1 q ∧ M 75 q = w.2.2.2.1 q ∧ M 75 (q + 6) = -1) → (∀ q, q < n → M 78 q = m 78 q ∧ M 75 q = m 75 q ∧ M 75 (q + 6) = m 75 (q + 6)) → (∀ j, 12 ≤ j → M 75 j = m 75 j) → T (D + 7) 206 (180, [(0, zr 74), (2, zi 0)], [], M) κ) → T (D + 7) 206 (105, [(0, zr 74), (2, zi (i : Int))], [], M) κ := by
    intro j
    induction j with
    | zero =>
      intro i M hi hBM hF t4 c1 c2 c3 fin
      have e22 : M 74 22 = ((w.1 - n : Nat) : Int) := (hF 74 22 rfl).trans w5
      have ei : n + i = w.1 := by omega
      rw [ei] at t4 c1
      exact zb206_105 (D := D) hT rfl hBM (by omega) (fun _ => fin M hBM hF t4 c1 c2 c3) (fun q => by omega) (fun q => by omega)
    | succ j ih =>
      intro i M hi hBM hF t4 c1 c2 c3 fin
      have e22 : M 74 22 = ((w.1 - n : Nat) : Int) := (hF 74 22 rfl).trans w5
      refine zb206_105 (D := D) hT rfl hBM (by omega) (fun q => by omega) (fun _ => by omega) (fun _ => ?_)
      obtain ⟨y1, y2⟩ := w7 (n + i) (by omega) (by omega)
      rw [show n + i - n = i by omega] at y1 y2
      obtain ⟨z1, z2⟩ := x1 (n + i) (by omega) (by omega)
      rw [← y1] at z1
      rw [← y2] at z2
      have f1 : (M 74 4).toNat = n + i := by omega
      have f2 : (6 + M 74 4).toNat = n + i + 6 := by omega
      have e84 : ∀ j, M 84 j = m 84 j := fun j => hF 84 j rfl
      rw [f1, f2, e84, e84]
      have hz2 : zB (zu (zu (zu (zu M 78 (n + i) (m 84 (2 * i))) 75 (n + i) (m 84 (2 * i + 1))) 75 (n + i + 6) (-1)) 74 4 (M 74 4 + 1)) := zB_u (zB_u (zB_u (zB_u hBM (show 0 ≤ m 84 (2 * i) ∧ m 84 (2 * i) ≤ 99 by omega)) (zbSg 75 0 6 0 3 rfl _ _ (by omega) (by omega) z2)) (zbSg 75 6 12 (-1) 7 rfl _ _ (by omega) (by omega) (by omega))) (show 0 ≤ M 74 4 + 1 ∧ M 74 4 + 1 ≤ 6 by omega)
      refine ih (i + 1) _ (by omega) hz2 ((((hF.set rfl).set rfl).set rfl).set rfl) ?_ (fun q q1 q2 => ?_) (fun q q1 => ?_) (fun j hj => ?_) fin
      · rw [zu_sm rfl]
        omega
      · by_cases eq : q = n + i
        · subst eq
          refine ⟨?_, ?_, ?_⟩
          · simp (disch := omega) only [zu_sm, zu_off, zu_dn]
            exact y1
          · simp (disch := omega) only [zu_sm, zu_off, zu_dn]
            exact y2
          · simp (disch := omega) only [zu_sm, zu_off, zu_dn]
        · obtain ⟨d1, d2, d3⟩ := c1 q q1 (by omega)
          refine ⟨?_, ?_, ?_⟩
          · simp (disch := omega) only [zu_off, zu_dn]
            exact d1
          · simp (disch := omega) only [zu_off, zu_dn]
            exact d2
          · simp (disch := omega) only [zu_off, zu_dn]
            exact d3
      · obtain ⟨d1, d2, d3⟩ := c2 q q1
        refine ⟨?_, ?_, ?_⟩
        · simp (disch := omega) only [zu_off, zu_dn]
          exact d1
        · simp (disch := omega) only [zu_off, zu_dn]
          exact d2
        · simp (disch := omega) only [zu_off, zu_dn]
          exact d3
      · simp (disch := omega) only [zu_off, zu_dn]
        exact c3 j hj
  refine loop1 (w.1 - n) 0 m (by omega) hB zFr.refl (by omega) (fun q q1 q2 => absurd q2 (by omega)) (fun q _ => ⟨rfl, rfl, rfl⟩) (fun j _ => rfl) (fun m1 hB1 hF1 g4 d1 d2 d3 => ?_)
  -- the cloths
  have loop2 : ∀ (j i : Nat) (M : zM), k + i + j = w.2.1 → zB M → zFr (inL [(74, some 6), (75, none)]) m1 M → M 74 6 = ((k + i : Nat) : Int) → (∀ q, k ≤ q → q < k + i → M 75 (q + 12) = w.2.2.2.2.1 q ∧ M 75 (q + 20) = w.2.2.2.2.2 q ∧ M 75 (q + 28) = 0) → (∀ q, q < k → M 75 (q + 12) = m1 75 (q + 12) ∧ M 75 (q + 20) = m1 75 (q + 20) ∧ M 75 (q + 28) = m1 75 (q + 28)) → (∀ j, j < 12 ∨ 36 ≤ j → M 75 j = m1 75 j) → T (D + 7) 206 (180, [(0, zr 74), (2, zi (i : Int))], [], M) κ := by
    intro j
    induction j with
    | zero =>
      intro i M hi hBM hF t6 c1 c2 c3
      have e23 : M 74 23 = ((w.2.1 - k : Nat) : Int) := (hF 74 23 rfl).trans ((hF1 74 23 rfl).trans w6)
      have ei : k + i = w.2.1 := by omega
      rw [ei] at t6 c1
      refine zb206_180 (D := D) hT rfl hBM (by omega) (fun _ hz => ?_) (fun q => by omega)
      have hFa : zFr (inL [(74, some 4), (74, some 6), (75, none), (78, none), (74, some 35), (74, some 62)]) m M := (hF1.sub (inL_sub (by decide))).trans (hF.sub (inL_sub (by decide)))
      refine h1 _ _ hz ((hFa.set rfl).set rfl) ?_ ?_ ?_ ?_ (fun q q1 q2 => ?_) (fun q q1 q2 => ?_) (fun q q1 => ?_) (fun q q1 => ?_) (fun j hj => ?_)
      · rw [zu_off (by omega), zu_sm rfl]
      · rw [zu_sm rfl, hF 74 62 rfl, hF1 74 62 rfl]
      · rw [zu_off (by omega), zu_off (by omega), hF 74 4 rfl, g4]
      · rw [zu_off (by omega), zu_off (by omega), t6]
      · obtain ⟨b1, b2, b3⟩ := d1 q q1 q2
        simp (disch := omega) only [zu_dn]
        rw [hF 78 q rfl, c3 q (by omega), c3 (q + 6) (by omega)]
        exact ⟨b1, b2, b3⟩
      · simp (disch := omega) only [zu_dn]
        exact c1 q q1 q2
      · obtain ⟨b1, b2, b3⟩ := d2 q q1
        simp (disch := omega) only [zu_dn]
        rw [hF 78 q rfl, c3 q (by omega), c3 (q + 6) (by omega)]
        exact ⟨b1, b2, b3⟩
      · obtain ⟨b1, b2, b3⟩ := c2 q q1
        simp (disch := omega) only [zu_dn]
        rw [b1, b2, b3]
        exact ⟨d3 _ (by omega), d3 _ (by omega), d3 _ (by omega)⟩
      · simp (disch := omega) only [zu_dn]
        rw [c3 j (by omega)]
        exact d3 j (by omega)
    | succ j ih =>
      intro i M hi hBM hF t6 c1 c2 c3
      have e23 : M 74 23 = ((w.2.1 - k : Nat) : Int) := (hF 74 23 rfl).trans ((hF1 74 23 rfl).trans w6)
      refine zb206_180 (D := D) hT rfl hBM (by omega) (fun q => by omega) (fun _ => ?_)
      obtain ⟨y1, y2⟩ := w8 (k + i) (by omega) (by omega)
      rw [show k + i - k = i by omega] at y1 y2
      obtain ⟨z1, z2⟩ := x2 (k + i) (by omega) (by omega)
      rw [← y1] at z1
      rw [← y2] at z2
      have f1 : (12 + M 74 6).toNat = k + i + 12 := by omega
      have f2 : (20 + M 74 6).toNat = k + i + 20 := by omega
      have f3 : (28 + M 74 6).toNat = k + i + 28 := by omega
      have e85 : ∀ j, M 85 j = m 85 j := fun j => (hF 85 j rfl).trans (hF1 85 j rfl)
      rw [f1, f2, f3, e85, e85]
      have hz2 : zB (zu (zu (zu (zu M 75 (k + i + 12) (m 85 (2 * i))) 75 (k + i + 20) (m 85 (2 * i + 1))) 75 (k + i + 28) 0) 74 6 (M 74 6 + 1)) := zB_u (zB_u (zB_u (zB_u hBM (zbSg 75 12 20 (-1) 99 rfl _ _ (by omega) (by omega) (by omega))) (zbSg 75 20 28 (-1) 9 rfl _ _ (by omega) (by omega) (by omega))) (zbSn 75 28 36 rfl _ _ (by omega) (by omega))) (show 0 ≤ M 74 6 + 1 ∧ M 74 6 + 1 ≤ 8 by omega)
      refine ih (i + 1) _ (by omega) hz2 ((((hF.set rfl).set rfl).set rfl).set rfl) ?_ (fun q q1 q2 => ?_) (fun q q1 => ?_) (fun j hj => ?_)
      · rw [zu_sm rfl]
        omega
      · by_cases eq : q = k + i
        · subst eq
          refine ⟨?_, ?_, ?_⟩
          · simp (disch := omega) only [zu_sm, zu_off, zu_dn]
            exact y1
          · simp (disch := omega) only [zu_sm, zu_off, zu_dn]
            exact y2
          · simp (disch := omega) only [zu_sm, zu_off, zu_dn]
        · obtain ⟨b1, b2, b3⟩ := c1 q q1 (by omega)
          refine ⟨?_, ?_, ?_⟩
          · simp (disch := omega) only [zu_off, zu_dn]
            exact b1
          · simp (disch := omega) only [zu_off, zu_dn]
            exact b2
          · simp (disch := omega) only [zu_off, zu_dn]
            exact b3
      · obtain ⟨b1, b2, b3⟩ := c2 q q1
        refine ⟨?_, ?_, ?_⟩
        · simp (disch := omega) only [zu_off, zu_dn]
          exact b1
        · simp (disch := omega) only [zu_off, zu_dn]
          exact b2
        · simp (disch := omega) only [zu_off, zu_dn]
          exact b3
      · simp (disch := omega) only [zu_off, zu_dn]
        exact c3 j hj
  have g6 : m1 74 6 = (k : Int) := (hF1 74 6 rfl).trans k6
  exact loop2 (w.2.1 - k) 0 m1 (by omega) hB1 zFr.refl (by omega) (fun q q1 q2 => absurd q2 (by omega)) (fun q _ => ⟨rfl, rfl, rfl⟩) (fun j _ => rfl)
noncomputable def yhbL : zLs := [(74, some 9), (74, some 12), (74, some 13), (74, some 14), (74, some 15), (74, some 16), (74, some 17), (74, some 22), (74, some 23)]
noncomputable def yhwL : zLs := yhL ++ ([(2, some 1), (2, some 2)] ++ (yhbL ++ yrhL))
noncomputable def yhgL : zLs := yhwL ++ [(17, some 0), (17, some 1), (28, some 5), (74, some 4), (74, some 6), (75, none), (78, none), (74, some 35), (74, some 62)]
set_option maxHeartbeats 4000000 in
theorem w_house0 (hT : zRules T) : Way T 115 206 [(0, zr 1)] [(0, zr 74)] 7 7 B B False := by
  rintro D m sc ⟨n, k, hI⟩ κ hκ
  have hI0 := hI
  obtain ⟨i1, i2, i3, i4, i5, i6, i7, i8, i9, i10, i11⟩ := hI
  have b21 : 0 ≤ m 2 1 ∧ m 2 1 ≤ 80 := i1 2 1
  have b17 : 0 ≤ m 17 0 ∧ m 17 0 ≤ 6 := i1 17 0
  have b171 : 0 ≤ m 17 1 ∧ m 17 1 ≤ 8 := i1 17 1
  have i40 := i4
  obtain ⟨⟨n1, n2⟩, ⟨k1, k2⟩, hh, hRel, hok⟩ := i4
  obtain ⟨L, hL⟩ : ∃ L : Nat, m 2 1 = (L : Int) := ⟨(m 2 1).toNat, by omega⟩
  obtain ⟨L76, hL76⟩ : ∃ L76 : Nat, (L76 = L ∨ L76 = 76) ∧ L76 ≤ L ∧ L76 ≤ 76 := by
    rcases Nat.lt_or_ge L 76 with h | h
    · exact ⟨L, Or.inl rfl, Nat.le_refl L, by omega⟩
    · exact ⟨76, Or.inr rfl, h, Nat.le_refl 76⟩
  have hs : ∀ a, L76 ≤ a → sgT m 76 a = -1 := fun a ha => by
    unfold sgT
    rw [if_neg (by omega)]
  generalize hsd : sgT m 76 = s at hs
  -- where the reference begins
  have begR : ∀ M1, 0 < L → zB M1 → zFr (inL (yhL ++ [(2, some 1), (2, some 2), (17, some 0), (17, some 1), (28, some 5)])) m M1 → ∀ (D2 : Nat) (κ2 : Option zA → zM → Prop), (∀ N, zB N → zFr (inL yhbL) M1 N → N 74 13 = 80 → N 74 14 = (L : Int) → N 74 16 = 0 → N 74 17 = -1 → N 74 22 = 0 → N 74 23 = 0 → N 74 9 = 0 → s = sgR N 80 → T (D2 + 7) 206 (45, [(0, zr 74), (1, zi 1)], [], N) κ2) → T (D2 + 7) 206 (0, [(0, zr 74)], [], M1) κ2 := by
    intro M1 h0L hB1 hF1 D2 κ2 go
    have e9 : M1 74 9 = (L : Int) := by rw [hF1 74 9 rfl, i2.1, hL]
    refine zb206_0 (D := D2) hT hB1 (fun _ hz => ?_) (fun q => by omega)
    have hFN : zFr (inL yhbL) M1 (zu (zu (zu (zu (zu (zu (zu (zu (zu M1 74 12 0) 74 13 80) 74 14 (M1 74 9)) 74 15 76) 74 16 0) 74 17 (-1)) 74 9 0) 74 22 0) 74 23 0) := ((((((((zFr.refl.set rfl).set rfl).set rfl).set rfl).set rfl).set rfl).set rfl).set rfl).set rfl
    have f14 : (zu (zu (zu (zu (zu (zu (zu (zu (zu M1 74 12 0) 74 13 80) 74 14 (M1 74 9)) 74 15 76) 74 16 0) 74 17 (-1)) 74 9 0) 74 22 0) 74 23 0) 74 14 = (L : Int) := by
      simp (disch := omega) only [zu_off, zu_sm]
      exact e9
    have f15 : (zu (zu (zu (zu (zu (zu (zu (zu (zu M1 74 12 0) 74 13 80) 74 14 (M1 74 9)) 74 15 76) 74 16 0) 74 17 (-1)) 74 9 0) 74 22 0) 74 23 0) 74 15 = 76 := by
      simp (disch := omega) only [zu_off, zu_sm]
    refine go _ hz hFN ?_ f14 ?_ ?_ ?_ ?_ ?_ ?_
    · simp (disch := omega) only [zu_off, zu_sm]
    · simp (disch := omega) only [zu_off, zu_sm]
    · simp (disch := omega) only [zu_off, zu_sm]
    · simp (disch := omega) only [zu_off, zu_sm]
    · simp (disch := omega) only [zu_sm]
    · simp (disch := omega) only [zu_off, zu_sm]
    · rw [← hsd]
      exact (sT_R i2 (fun j => (hFN 80 j rfl).trans (hF1 80 j rfl)) (f14.trans hL.symm) f15).symm
  -- at fault
  have refF : ∀ r M1, 0 < L → hsR s L 14 n k 0 (m 18) (m 19) (m 21) (m 22) = none → zB M1 → zFr (inL (yhL ++ [(2, some 1), (2, some 2)])) m M1 → M1 2 1 = 0 → (∀ q, q < n → M1 18 q = m 18 q ∧ M1 19 q = m 19 q ∧ M1 20 q = m 20 q) → (∀ q, q < k → M1 21 q = m 21 q ∧ M1 22 q = m 22 q ∧ M1 23 q = m 23 q) → κ r M1 := by
    intro r M1 h0L hrun hB1 hF1 h21 t1 t2
    refine hκ _ _ (fun D2 κ2 h2 => ?_)
    refine begR M1 h0L hB1 (hF1.sub (inL_sub (by decide))) D2 κ2 (fun N hBN hFN f13 f14 f16 f17 f22 f23 f9 hsg => ?_)
    have hF0 : zFr (inL yhwL) m N := (hF1.sub (inL_sub (by decide))).trans (hFN.sub (inL_sub (by decide)))
    refine z_linesR (D := D2) (n := n) (k := k) (L76 := L76) (fx := m 18) (fy := m 19) (gx := m 21) (gy := m 22) hT hBN f13 hsg ((hF0 74 4 rfl).trans n2) ((hF0 74 6 rfl).trans k2) f14 (by omega) hL76.2.2 hL76.2.1 hs f16 f17 f22 f23 (fun r2 M2 _ hB2 hF2 => ?_) (fun w M2 e => by rw [hrun] at e; cases e)
    have hFz : zFr (inL (yhbL ++ yrhL)) M1 M2 := (hFN.sub (inL_sub (by decide))).trans (hF2.sub (inL_sub (by decide)))
    have hFall : zFr (inL yhwL) m M2 := hF0.trans (hF2.sub (inL_sub (by decide)))
    have hH : HouseRel n k M2 := by
      refine House_grow (fx := m 18) (fy := m 19) (gx := m 21) (gy := m 22) (Nat.le_refl n) (by omega) (Nat.le_refl k) (by omega) i40 ((hFall 17 0 rfl).trans n1) ((hFall 74 4 rfl).trans n2) ((hFall 17 1 rfl).trans k1) ((hFall 74 6 rfl).trans k2) (fun q hq => ?_) (fun q hq => ?_) (fun q q1 q2 => absurd q2 (by omega)) (fun q q1 q2 => absurd q2 (by omega)) (fun q _ => ⟨hFall 78 q rfl, hFall 75 q rfl, hFall 75 _ rfl⟩) (fun q _ => ⟨hFall 75 _ rfl, hFall 75 _ rfl, hFall 75 _ rfl⟩) (fun q q1 q2 => absurd q2 (by omega)) (fun q q1 q2 => absurd q2 (by omega)) (.of hFall rfl) (fun j _ => hFall 75 j rfl)
      · rw [hFz 18 q rfl, hFz 19 q rfl, hFz 20 q rfl]
        exact t1 q hq
      · rw [hFz 21 q rfl, hFz 22 q rfl, hFz 23 q rfl]
        exact t2 q hq
    exact h2 _ _ (fun x => x.elim) ⟨n, k, Inv_ho hI0 hB2 (.of hFall rfl) ((hFz 2 1 rfl).trans h21) ((hF2 74 9 rfl).trans f9) (hFall 75 57 rfl) hH (Undo_fr (.of hFall rfl) i6) (Kept_fr (.of hFall rfl) i7) (Seen_fr (.of hFall rfl) i8)⟩
  -- done
  have refG : ∀ (r : Option zA) (w : hTy) (M1 : zM), 0 < L → hsR s L 14 n k 0 (m 18) (m 19) (m 21) (m 22) = some w → n + k < w.1 + w.2.1 → zB M1 → zFr (inL (yhL ++ [(2, some 1), (2, some 2), (17, some 0), (17, some 1), (28, some 5)])) m M1 → M1 2 1 = 0 → M1 28 5 = 0 → M1 17 0 = (w.1 : Int) → M1 17 1 = (w.2.1 : Int) → HouC n k m M1 w → κ r M1 := by
    intro r w M1 h0L hrun hlt hB1 hF1 h21 h285 e17 e171 hC
    refine hκ _ _ (fun D2 κ2 h2 => ?_)
    refine begR M1 h0L hB1 hF1 D2 κ2 (fun N hBN hFN f13 f14 f16 f17 f22 f23 f9 hsg => ?_)
    have hF0 : zFr (inL yhgL) m N := (hF1.sub (inL_sub (by decide))).trans (hFN.sub (inL_sub (by decide)))
    refine z_linesR (D := D2) (n := n) (k := k) (L76 := L76) (fx := m 18) (fy := m 19) (gx := m 21) (gy := m 22) hT hBN f13 hsg ((hFN 74 4 rfl).trans ((hF1 74 4 rfl).trans n2)) ((hFN 74 6 rfl).trans ((hF1 74 6 rfl).trans k2)) f14 (by omega) hL76.2.2 hL76.2.1 hs f16 f17 f22 f23 (fun r2 M2 e => by rw [hrun] at e; cases e) (fun w2 M2 e hB2 hF2 hR => ?_)
    rw [hrun] at e
    cases e
    obtain ⟨⟨c1, c2⟩, ⟨c3, c4⟩, c5, c6, c7, c8, c9, c10⟩ := hC
    refine z_houseR (D := D2) hT hB2 ((hF2 74 4 rfl).trans ((hFN 74 4 rfl).trans ((hF1 74 4 rfl).trans n2))) ((hF2 74 6 rfl).trans ((hFN 74 6 rfl).trans ((hF1 74 6 rfl).trans k2))) hR (fun q q1 q2 => (c6 q q1 q2).2) (fun q q1 q2 => (c9 q q1 q2).2) (fun r3 M3 hB3 hF3 p35 p62 p4 p6 d1 d2 d3 d4 d5 => ?_)
    have hFz : zFr (inL ((yhbL ++ yrhL) ++ [(74, some 4), (74, some 6), (75, none), (78, none), (74, some 35), (74, some 62)])) M1 M3 := ((hFN.sub (inL_sub (by decide))).trans (hF2.sub (inL_sub (by decide)))).trans (hF3.sub (inL_sub (by decide)))
    have hFall : zFr (inL yhgL) m M3 := (hF1.sub (inL_sub (by decide))).trans (hFz.sub (inL_sub (by decide)))
    have g78 : ∀ q, M2 78 q = m 78 q := fun q => (hF2 78 q rfl).trans ((hFN 78 q rfl).trans (hF1 78 q rfl))
    have g75 : ∀ q, M2 75 q = m 75 q := fun q => (hF2 75 q rfl).trans ((hFN 75 q rfl).trans (hF1 75 q rfl))
    simp only [g78, g75] at d3 d4 d5
    have hH : HouseRel w.1 w.2.1 M3 := by
      refine House_grow (fx := w.2.2.1) (fy := w.2.2.2.1) (gx := w.2.2.2.2.1) (gy := w.2.2.2.2.2) c1 c2 c3 c4 i40 ((hFz 17 0 rfl).trans e17) p4 ((hFz 17 1 rfl).trans e171) p6 (fun q hq => ?_) (fun q hq => ?_) (fun q q1 q2 => ?_) (fun q q1 q2 => ?_) d3 d4 d1 d2 (.of hFall rfl) d5
      · rw [hFz 18 q rfl, hFz 19 q rfl, hFz 20 q rfl]
        exact c7 q hq
      · rw [hFz 21 q rfl, hFz 22 q rfl, hFz 23 q rfl]
        exact c10 q hq
      · rw [hFz 18 q rfl, hFz 19 q rfl, hFz 20 q rfl]
        obtain ⟨y1, y2⟩ := c5 q q2
        obtain ⟨y3, y4, y5⟩ := c6 q q1 q2
        exact ⟨y1, y2, y3, y4.1, y5.1, y5.2⟩
      · rw [hFz 21 q rfl, hFz 22 q rfl, hFz 23 q rfl]
        obtain ⟨y1, y2⟩ := c8 q q2
        exact ⟨y1, y2, (c9 q q1 q2).1, (c9 q q1 q2).2.2.1⟩
    have h285' : M3 28 5 = 0 := (hFz 28 5 rfl).trans h285
    have e62 : M3 74 62 = m 74 62 + 1 := by rw [p62, hF2 74 62 rfl, hFN 74 62 rfl, hF1 74 62 rfl]
    exact h2 _ _ (fun x => x.elim) ⟨w.1, w.2.1, Inv_ho hI0 hB3 (.of hFall rfl) ((hFz 2 1 rfl).trans h21) ((hF3 74 9 rfl).trans ((hF2 74 9 rfl).trans f9)) (d5 57 (by omega)) hH ⟨by rw [p35, h285'], fun i hi => by rw [h285'] at hi; omega⟩ (Kept_more c1 c3 hlt (.of hFall rfl) e62 i7) (Seen_more c1 (.of hFall rfl) i8)⟩
  -- the class
  have cls : ∀ N : zM, 0 < L → zB N → zFr (inL [(2, some 2), (2, some 3)]) m N → N 2 3 = 0 → s = sgC N → T (D + 6) 39 (0, [(0, zr 17), (1, zr 2)], [], N) (fun r m1 => T (D + 7) 115 (34, [(0, zr 1)], r.toList ++ [], m1) κ) := by
    intro N h0L hBN hFN h23 hsg
    have c18 : N 18 = m 18 := funext fun j => hFN 18 j rfl
    have c19 : N 19 = m 19 := funext fun j => hFN 19 j rfl
    have c20 : N 20 = m 20 := funext fun j => hFN 20 j rfl
    have c21 : N 21 = m 21 := funext fun j => hFN 21 j rfl
    have c22 : N 22 = m 22 := funext fun j => hFN 22 j rfl
    have c23 : N 23 = m 23 := funext fun j => hFN 23 j rfl
    refine z_linesC (D := D) (n := n) (k := k) (L76 := L76) hT hBN hsg ((hFN 17 0 rfl).trans n1) ((hFN 17 1 rfl).trans k1) ((hFN 2 1 rfl).trans hL) hL76.2.2 hs h23 (fun M hrun hBM hF t1 t2 => ?_) (fun w i M hrun hi hlt hBM hF e17 e171 hC => ?_)
    · rw [c18, c19, c21, c22] at hrun
      rw [c18, c19, c20] at t1
      rw [c21, c22, c23] at t2
      refine zb115_34 (D := D) (v := -1) hT rfl hBM (by omega) (fun q1 q2 => by omega) (fun q1 q2 hz => ?_) (fun q => by omega)
      refine refF _ _ h0L hrun hz (((hFN.sub (inL_sub (by decide))).trans (hF.sub (inL_sub (by decide)))).set rfl) (by rw [zu_sm rfl]) (fun q hq => ?_) (fun q hq => ?_)
      · simp (disch := omega) only [zu_dn]
        exact t1 q hq
      · simp (disch := omega) only [zu_dn]
        exact t2 q hq
    · rw [c18, c19, c21, c22] at hrun
      refine zb115_34 (D := D) (v := (i : Int)) hT rfl hBM (by omega) (fun q1 q2 => by omega) (fun q1 q2 => by omega) (fun q hz => ?_)
      refine refG _ w _ h0L hrun hlt hz ((((hFN.sub (inL_sub (by decide))).trans (hF.sub (inL_sub (by decide)))).set rfl).set rfl) (by rw [zu_sm rfl]) (by rw [zu_dn (by omega), zu_sm rfl]) (by rw [zu_dn (by omega), zu_dn (by omega), e17]) (by rw [zu_dn (by omega), zu_dn (by omega), e171]) ?_
      unfold HouC at hC ⊢
      rw [c18, c19, c20, c21, c22, c23] at hC
      simp (disch := omega) only [zu_dn]
      exact hC
  refine zb115_0 (D := D) hT i1 (fun q hz => ?_) (fun q1 q2 hz => ?_) (fun q1 q2 hz => ?_)
  · refine cls _ (by omega) hz ((zFr.refl.set rfl).set rfl) (by rw [zu_off (by omega), zu_sm rfl]) ?_
    rw [← hsd]
    refine (sT_C (fun j => by rw [zu_dn (by omega), zu_dn (by omega)]) ?_).symm
    rw [zu_sm rfl, if_neg (by omega)]
  · refine cls _ (by omega) hz ((zFr.refl.set rfl).set rfl) (by rw [zu_off (by omega), zu_sm rfl]) ?_
    rw [← hsd]
    refine (sT_C (fun j => by rw [zu_dn (by omega), zu_dn (by omega)]) ?_).symm
    rw [zu_sm rfl]
    split <;> omega
  · have hF1 : zFr (inL [(2, some 1), (2, some 2), (2, some 3)]) m (zu (zu (zu m 2 3 0) 2 2 (m 2 1)) 2 1 0) := ((zFr.refl.set rfl).set rfl).set rfl
    have g21 : (zu (zu (zu m 2 3 0) 2 2 (m 2 1)) 2 1 0) 2 1 = 0 := by rw [zu_sm rfl]
    generalize (zu (zu (zu m 2 3 0) 2 2 (m 2 1)) 2 1 0) = M1 at hz hF1 g21 ⊢
    refine hκ _ _ (fun D2 κ2 h2 => ?_)
    have e9 : M1 74 9 = 0 := by rw [hF1 74 9 rfl, i2.1, q2]
    refine zb206_0 (D := D2) hT hz (fun q => absurd e9 q) (fun _ hz2 => ?_)
    have hF2 : zFr (inL [(74, some 9), (74, some 12), (74, some 13), (74, some 14), (74, some 15), (74, some 16), (74, some 17)]) M1 (zu (zu (zu (zu (zu (zu (zu M1 74 12 0) 74 13 80) 74 14 (M1 74 9)) 74 15 76) 74 16 0) 74 17 (-1)) 74 9 0) := ((((((zFr.refl.set rfl).set rfl).set rfl).set rfl).set rfl).set rfl).set rfl
    exact h2 _ _ (fun x => x.elim) ⟨n, k, Inv_nt hI0 hz2 ((Agree.of hF1 rfl).trans (.of hF2 rfl)) ((hF2 2 1 rfl).trans g21) (by rw [zu_sm rfl])⟩
end ZHouseW
