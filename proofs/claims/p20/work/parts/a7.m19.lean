-- a7.housew.lean.txt
section
/-! house(). -/
theorem House_grow {n k p c : Nat} {m M : zM} {fx fy gx gy : Nat → Int} (hn : n ≤ p) (hp : p ≤ 6) (hk : k ≤ c) (hc : c ≤ 8) (h4 : HouseRel n k m) (e1 : M 17 0 = (p : Int)) (e2 : M 74 4 = (p : Int)) (e3 : M 17 1 = (c : Int)) (e4 : M 74 6 = (c : Int)) (t1 : ∀ q, q < n → M 18 q = m 18 q ∧ M 19 q = m 19 q ∧ M 20 q = m 20 q) (t2 : ∀ q, q < k → M 21 q = m 21 q ∧ M 22 q = m 22 q ∧ M 23 q = m 23 q) (u1 : ∀ q, n ≤ q → q < p → M 18 q = fx q ∧ M 19 q = fy q ∧ M 20 q = -1 ∧ 1 ≤ fx q ∧ 0 ≤ fy q ∧ fy q ≤ 3) (u2 : ∀ q, k ≤ q → q < c → M 21 q = gx q ∧ M 22 q = gy q ∧ M 23 q = 0 ∧ 0 ≤ gy q) (r1 : ∀ q, q < n → M 78 q = m 78 q ∧ M 75 q = m 75 q ∧ M 75 (q + 6) = m 75 (q + 6)) (r2 : ∀ q, q < k → M 75 (q + 12) = m 75 (q + 12) ∧ M 75 (q + 20) = m 75 (q + 20) ∧ M 75 (q + 28) = m 75 (q + 28)) (v1 : ∀ q, n ≤ q → q < p → M 78 q = fx q ∧ M 75 q = fy q ∧ M 75 (q + 6) = -1) (v2 : ∀ q, k ≤ q → q < c → M 75 (q + 12) = gx q ∧ M 75 (q + 20) = gy q ∧ M 75 (q + 28) = 0) (hA : Agree [(17, some 10), (17, some 11), (25, some 2), (26, none)] m M) (h75 : ∀ j, 36 ≤ j → M 75 j = m 75 j) : HouseRel p c M := by
  obtain ⟨-, -, hh, ⟨q1, q2, q3, q4, q5, q6⟩, o1, o2, o3, o4⟩ := h4
  refine ⟨⟨e1, e2⟩, ⟨e3, e4⟩, fun q hq => ?_, ⟨fun q hq => ?_, fun q hq => ?_, ?_, fun i hi => ?_, ?_, ?_⟩, fun q hq => ?_, ?_, ?_, fun q hq => ?_⟩
  · rcases Nat.lt_or_ge q n with x | x
    · rw [(r1 q x).1, (t1 q x).1]
      exact hh q x
    · obtain ⟨y1, -, -, y4, -⟩ := u1 q x hq
      rw [(v1 q x hq).1, y1]
      exact ⟨rfl, y4⟩
  · rcases Nat.lt_or_ge q n with x | x
    · rw [(t1 q x).2.1, (t1 q x).2.2, (r1 q x).2.1, (r1 q x).2.2]
      exact q1 q x
    · obtain ⟨-, y2, y3, -⟩ := u1 q x hq
      rw [(v1 q x hq).2.1, (v1 q x hq).2.2, y2, y3]
      exact ⟨rfl, rfl⟩
  · rcases Nat.lt_or_ge q k with x | x
    · rw [(t2 q x).1, (t2 q x).2.1, (t2 q x).2.2, (r2 q x).1, (r2 q x).2.1, (r2 q x).2.2]
      exact q2 q x
    · obtain ⟨y1, y2, y3, -⟩ := u2 q x hq
      rw [(v2 q x hq).1, (v2 q x hq).2.1, (v2 q x hq).2.2, y1, y2, y3]
      exact ⟨rfl, rfl, rfl⟩
  · rw [hA 25 2 rfl, h75 56 (by omega)]
    exact q3
  · rw [h75 56 (by omega)] at hi
    rw [hA 26 i rfl, h75 (i + 36) (by omega)]
    exact q4 i hi
  · rw [hA 17 11 rfl, h75 57 (by omega)]
    exact q5
  · rw [hA 17 10 rfl, h75 58 (by omega)]
    exact q6
  · rcases Nat.lt_or_ge q n with x | x
    · rw [(r1 q x).2.1, (r1 q x).2.2]
      have := o1 q x
      omega
    · obtain ⟨-, -, -, -, y5, y6⟩ := u1 q x hq
      rw [(v1 q x hq).2.1, (v1 q x hq).2.2]
      exact ⟨⟨y5, y6⟩, Or.inl rfl⟩
  · rw [h75 56 (by omega)]
    exact o2
  · rw [h75 57 (by omega)]
    exact o3
  · rcases Nat.lt_or_ge q k with x | x
    · rw [(r2 q x).2.1]
      exact o4 q x
    · rw [(v2 q x hq).2.1]
      exact (u2 q x hq).2.2.2
theorem Kept_more {B : Int} {n k p c : Nat} {m M : zM} (hn : n ≤ p) (hk : k ≤ c) (hlt : n + k < p + c) (h : Agree [(44, none), (45, none), (46, none), (47, none), (106, none), (107, none), (108, none)] m M) (e : M 74 62 = m 74 62 + 1) (i7 : KeptRel B n k m) : KeptRel B p c M := by
  have c44 : M 44 = m 44 := funext fun j => h 44 j rfl
  have c45 : M 45 = m 45 := funext fun j => h 45 j rfl
  have c46 : M 46 = m 46 := funext fun j => h 46 j rfl
  have c47 : M 47 = m 47 := funext fun j => h 47 j rfl
  have c106 : M 106 = m 106 := funext fun j => h 106 j rfl
  have c107 : M 107 = m 107 := funext fun j => h 107 j rfl
  have c108 : M 108 = m 108 := funext fun j => h 108 j rfl
  obtain ⟨⟨a1, a2⟩, a3⟩ := i7
  refine ⟨by omega, fun i hi => ?_⟩
  have e44 : M (44 + i) = m (44 + i) := by
    rcases Nat.lt_or_ge i 1 with q | q
    · have : i = 0 := by omega
      subst this
      exact c44
    · have : i = 1 := by omega
      subst this
      exact c45
  rw [c107, c46, c47, c108, e44, c106, e]
  rcases a3 i hi with q | ⟨b1, kp, kc, b2, ⟨b3, b4⟩, ⟨b5, b6⟩, b7, b8, b9, b10, b11⟩
  · exact Or.inl q
  · exact Or.inr ⟨b1, kp, kc, b2, ⟨by omega, by omega⟩, ⟨b5, by omega⟩, fun x => by omega, fun _ => by omega, b9, b10, b11⟩
theorem Seen_more {n p : Nat} {m M : zM} (hn : n ≤ p) (h : Agree KS m M) (i : SeenRel n m) : SeenRel p M := by
  obtain ⟨j1, j2⟩ := Seen_fr h i
  refine ⟨j1, fun i hi => ?_⟩
  obtain ⟨x1, x2, x3, x4, x5⟩ := j2 i hi
  exact ⟨x1, x2, x3, x4, by omega⟩
theorem Inv_ho {B : Int} {sc : zSc} {n k p c : Nat} {m M : zM} (hI : Inv B sc n k m) (hz : zB M) (h : Agree (KL ++ (KM ++ (KJ ++ KX))) m M) (e1 : M 2 1 = 0) (e2 : M 74 9 = 0) (h57 : M 75 57 = m 75 57) (hH : HouseRel p c M) (hU : UndoRel B p c M) (hK : KeptRel B p c M) (hS : SeenRel p M) : Inv B sc p c M := by
  obtain ⟨i1, i2, i3, i4, i5, i6, i7, i8, i9, i10, i11⟩ := hI
  have m1' : ∀ {L1 L2 : zLs} {q : Nat × Option Nat}, q ∈ L1 → q ∈ L1 ++ L2 := fun q => List.mem_append.mpr (Or.inl q)
  have m2' : ∀ {L1 L2 : zLs} {q : Nat × Option Nat}, q ∈ L2 → q ∈ L1 ++ L2 := fun q => List.mem_append.mpr (Or.inr q)
  refine ⟨hz, ⟨by rw [e1, e2], fun j hj => by rw [e1] at hj; omega⟩, (h.sub (K2 := KL) (fun q hq => m1' hq)).law.1 i3, hH, Term_fr (h.sub (fun q hq => m2' (m1' hq))) i5, hU, hK, hS, Job_fr (h.sub (fun q hq => m2' (m2' (m1' hq)))) i9, ?_, Scr_fr (h.sub (fun q hq => m2' (m2' (m2' hq)))) i11⟩
  rw [h57]
  exact i10
section ZHouseW
variable {T : Nat → Nat → zG → (Option zA → zM → Prop) → Prop} {B : Int}
/-- the reference: those that came are written down -/
theorem z_houseR (hT : zRules T) {D : Nat} {κ : Option zA → zM → Prop} {m : zM} (hB : zB m) {n k : Nat} {w : hTy} (n4 : m 74 4 = (n : Int)) (k6 : m 74 6 = (k : Int)) (hH : HouR n k m w) (x1 : ∀ q, n ≤ q → q < w.1 → (1 ≤ w.2.2.1 q ∧ w.2.2.1 q ≤ 99) ∧ (0 ≤ w.2.2.2.1 q ∧ w.2.2.2.1 q ≤ 3)) (x2 : ∀ q, k ≤ q → q < w.2.1 → (0 ≤ w.2.2.2.2.1 q ∧ w.2.2.2.2.1 q ≤ 99) ∧ (0 ≤ w.2.2.2.2.2 q ∧ w.2.2.2.2.2 q ≤ 9))
    (h1 : ∀ r M, zB M → zFr (inL [(74, some 4), (74, some 6), (75, none), (78, none), (74, some 35), (74, some 62)]) m M → M 74 35 = 0 → M 74 62 = m 74 62 + 1 → M 74 4 = (w.1 : Int) → M 74 6 = (w.2.1 : Int) → (∀ q, n ≤ q → q < w.1 → M 78 q = w.2.2.1 q ∧ M 75 q = w.2.2.2.1 q ∧ M 75 (q + 6) = -1) → (∀ q, k ≤ q → q < w.2.1 → M 75 (q + 12) = w.2.2.2.2.1 q ∧ M 75 (q + 20) = w.2.2.2.2.2 q ∧ M 75 (q + 28) = 0) → (∀ q, q < n → M 78 q = m 78 q ∧ M 75 q = m 75 q ∧ M 75 (q + 6) = m 75 (q + 6)) → (∀ q, q < k → M 75 (q + 12) = m 75 (q + 12) ∧ M 75 (q + 20) = m 75 (q + 20) ∧ M 75 (q + 28) = m 75 (q + 28)) → (∀ j, 36 ≤ j → M 75 j = m 75 j) → κ r M) : T (D + 7) 206 (105, [(0, zr 74), (2, zi 0)], [], m) κ := by
  obtain ⟨⟨w1, w2⟩, ⟨w3, w4⟩, w5, w6, w7, w8⟩ := hH
  -- the people
  have loop1 : ∀ (j i : Nat) (M : zM), n + i + j = w.1 → zB M → zFr (inL [(74, some 4), (75, none), (78, none)]) m M → M 74 4 = ((n + i : Nat) : Int) → (∀ q, n ≤ q → q < n + i → M 78 q = w.2.2.1 q ∧ M 75 q = w.2.2.2.1 q ∧ M 75 (q + 6) = -1) → (∀ q, q < n → M 78 q = m 78 q ∧ M 75 q = m 75 q ∧ M 75 (q + 6) = m 75 (q + 6)) → (∀ j, 12 ≤ j → M 75 j = m 75 j) →
      (∀ M, zB M → zFr (inL [(74, some 4), (75, none), (78, none)]) m M → M 74 4 = (w.1 : Int) → (∀ q, n ≤ q → q < w.1 → M 78 q = w.2.2.1 q ∧ M 75 q = w.2.2.2.1 q ∧ M 75 (q + 6) = -1) → (∀ q, q < n → M 78 q = m 78 q ∧ M 75 q = m 75 q ∧ M 75 (q + 6) = m 75 (q + 6)) → (∀ j, 12 ≤ j → M 75 j = m 75 j) → T (D + 7) 206 (180, [(0, zr 74), (2, zi 0)], [], M) κ) → T (D + 7) 206 (105, [(0, zr 74), (2, zi (i : Int))], [], M) κ := by
    intro j
    induction j with
    | zero =>
      intro i M hi hBM hF t4 c1 c2 c3 fin
      have e22 : M 74 22 = ((w.1 - n : Nat) : Int) := (hF 74 22 rfl).trans w5
      have ei : n + i = w.1 := by omega
      rw [ei] at t4 c1
      exact zb206_105 (D := D) hT rfl hBM (by omega) (fun _ => fin M hBM hF t4 c1 c2 c3) (fun q => by omega) (fun q => by omega)
    | succ j ih =>
      intro i M hi hBM hF t4 c1 c2 c3 fin
      have e22 : M 74 22 = ((w.1 - n : Nat) : Int) := (hF 74 22 rfl).trans w5
      refine zb206_105 (D := D) hT rfl hBM (by omega) (fun q => by omega) (fun _ => by omega) (fun _ => ?_)
      obtain ⟨y1, y2⟩ := w7 (n + i) (by omega) (by omega)
      rw [show n + i - n = i by omega] at y1 y2
      obtain ⟨z1, z2⟩ := x1 (n + i) (by omega) (by omega)
      rw [← y1] at z1
      rw [← y2] at z2
      have f1 : (M 74 4).toNat = n + i := by omega
      have f2 : (6 + M 74 4).toNat = n + i + 6 := by omega
      have e84 : ∀ j, M 84 j = m 84 j := fun j => hF 84 j rfl
      rw [f1, f2, e84, e84]
      have hz2 : zB (zu (zu (zu (zu M 78 (n + i) (m 84 (2 * i))) 75 (n + i) (m 84 (2 * i + 1))) 75 (n + i + 6) (-1)) 74 4 (M 74 4 + 1)) := zB_u (zB_u (zB_u (zB_u hBM (show 0 ≤ m 84 (2 * i) ∧ m 84 (2 * i) ≤ 99 by omega)) (zbSg 75 0 6 0 3 rfl _ _ (by omega) (by omega) z2)) (zbSg 75 6 12 (-1) 7 rfl _ _ (by omega) (by omega) (by omega))) (show 0 ≤ M 74 4 + 1 ∧ M 74 4 + 1 ≤ 6 by omega)
      refine ih (i + 1) _ (by omega) hz2 ((((hF.set rfl).set rfl).set rfl).set rfl) ?_ (fun q q1 q2 => ?_) (fun q q1 => ?_) (fun j hj => ?_) fin
      · rw [zu_sm rfl]
        omega
      · by_cases eq : q = n + i
        · subst eq
          refine ⟨?_, ?_, ?_⟩
          · simp (disch := omega) only [zu_sm, zu_off, zu_dn]
            exact y1
          · simp (disch := omega) only [zu_sm, zu_off, zu_dn]
            exact y2
          · simp (disch := omega) only [zu_sm, zu_off, zu_dn]
        · obtain ⟨d1, d2, d3⟩ := c1 q q1 (by omega)
          refine ⟨?_, ?_, ?_⟩
          · simp (disch := omega) only [zu_off, zu_dn]
            exact d1
          · simp (disch := omega) only [zu_off, zu_dn]
            exact d2
          · simp (disch := omega) only [zu_off, zu_dn]
            exact d3
      · obtain ⟨d1, d2, d3⟩ := c2 q q1
        refine ⟨?_, ?_, ?_⟩
        · simp (disch := omega) only [zu_off, zu_dn]
          exact d1
        · simp (disch := omega) only [zu_off, zu_dn]
          exact d2
        · simp (disch := omega) only [zu_off, zu_dn]
          exact d3
      · simp (disch := omega) only [zu_off, zu_dn]
        exact c3 j hj
  refine loop1 (w.1 - n) 0 m (by omega) hB zFr.refl (by omega) (fun q q1 q2 => absurd q2 (by omega)) (fun q _ => ⟨rfl, rfl, rfl⟩) (fun j _ => rfl) (fun m1 hB1 hF1 g4 d1 d2 d3 => ?_)
  -- the cloths
  have loop2 : ∀ (j i : Nat) (M : zM), k + i + j = w.2.1 → zB M → zFr (inL [(74, some 6), (75, none)]) m1 M → M 74 6 = ((k + i : Nat) : Int) → (∀ q, k ≤ q → q < k + i → M 75 (q + 12) = w.2.2.2.2.1 q ∧ M 75 (q + 20) = w.2.2.2.2.2 q ∧ M 75 (q + 28) = 0) → (∀ q, q < k → M 75 (q + 12) = m1 75 (q + 12) ∧ M 75 (q + 20) = m1 75 (q + 20) ∧ M 75 (q + 28) = m1 75 (q + 28)) → (∀ j, j < 12 ∨ 36 ≤ j → M 75 j = m1 75 j) → T (D + 7) 206 (180, [(0, zr 74), (2, zi (i : Int))], [], M) κ := by
    intro j
    induction j with
    | zero =>
      intro i M hi hBM hF t6 c1 c2 c3
      have e23 : M 74 23 = ((w.2.1 - k : Nat) : Int) := (hF 74 23 rfl).trans ((hF1 74 23 rfl).trans w6)
      have ei : k + i = w.2.1 := by omega
      rw [ei] at t6 c1
      refine zb206_180 (D := D) hT rfl hBM (by omega) (fun _ hz => ?_) (fun q => by omega)
      have hFa : zFr (inL [(74, some 4), (74, some 6), (75, none), (78, none), (74, some 35), (74, some 62)]) m M := (hF1.sub (inL_sub (by decide))).trans (hF.sub (inL_sub (by decide)))
      refine h1 _ _ hz ((hFa.set rfl).set rfl) ?_ ?_ ?_ ?_ (fun q q1 q2 => ?_) (fun q q1 q2 => ?_) (fun q q1 => ?_) (fun q q1 => ?_) (fun j hj => ?_)
      · rw [zu_off (by omega), zu_sm rfl]
      · rw [zu_sm rfl, hF 74 62 rfl, hF1 74 62 rfl]
      · rw [zu_off (by omega), zu_off (by omega), hF 74 4 rfl, g4]
      · rw [zu_off (by omega), zu_off (by omega), t6]
      · obtain ⟨b1, b2, b3⟩ := d1 q q1 q2
        simp (disch := omega) only [zu_dn]
        rw [hF 78 q rfl, c3 q (by omega), c3 (q + 6) (by omega)]
        exact ⟨b1, b2, b3⟩
      · simp (disch := omega) only [zu_dn]
        exact c1 q q1 q2
      · obtain ⟨b1, b2, b3⟩ := d2 q q1
        simp (disch := omega) only [zu_dn]
        rw [hF 78 q rfl, c3 q (by omega), c3 (q + 6) (by omega)]
        exact ⟨b1, b2, b3⟩
      · obtain ⟨b1, b2, b3⟩ := c2 q q1
        simp (disch := omega) only [zu_dn]
        rw [b1, b2, b3]
        exact ⟨d3 _ (by omega), d3 _ (by omega), d3 _ (by omega)⟩
      · simp (disch := omega) only [zu_dn]
        rw [c3 j (by omega)]
        exact d3 j (by omega)
    | succ j ih =>
      intro i M hi hBM hF t6 c1 c2 c3
      have e23 : M 74 23 = ((w.2.1 - k : Nat) : Int) := (hF 74 23 rfl).trans ((hF1 74 23 rfl).trans w6)
      refine zb206_180 (D := D) hT rfl hBM (by omega) (fun q => by omega) (fun _ => ?_)
      obtain ⟨y1, y2⟩ := w8 (k + i) (by omega) (by omega)
      rw [show k + i - k = i by omega] at y1 y2
      obtain ⟨z1, z2⟩ := x2 (k + i) (by omega) (by omega)
      rw [← y1] at z1
      rw [← y2] at z2
      have f1 : (12 + M 74 6).toNat = k + i + 12 := by omega
      have f2 : (20 + M 74 6).toNat = k + i + 20 := by omega
      have f3 : (28 + M 74 6).toNat = k + i + 28 := by omega
      have e85 : ∀ j, M 85 j = m 85 j := fun j => (hF 85 j rfl).trans (hF1 85 j rfl)
      rw [f1, f2, f3, e85, e85]
      have hz2 : zB (zu (zu (zu (zu M 75 (k + i + 12) (m 85 (2 * i))) 75 (k + i + 20) (m 85 (2 * i + 1))) 75 (k + i + 28) 0) 74 6 (M 74 6 + 1)) := zB_u (zB_u (zB_u (zB_u hBM (zbSg 75 12 20 (-1) 99 rfl _ _ (by omega) (by omega) (by omega))) (zbSg 75 20 28 (-1) 9 rfl _ _ (by omega) (by omega) (by omega))) (zbSn 75 28 36 rfl _ _ (by omega) (by omega))) (show 0 ≤ M 74 6 + 1 ∧ M 74 6 + 1 ≤ 8 by omega)
      refine ih (i + 1) _ (by omega) hz2 ((((hF.set rfl).set rfl).set rfl).set rfl) ?_ (fun q q1 q2 => ?_) (fun q q1 => ?_) (fun j hj => ?_)
      · rw [zu_sm rfl]
        omega
      · by_cases eq : q = k + i
        · subst eq
          refine ⟨?_, ?_, ?_⟩
          · simp (disch := omega) only [zu_sm, zu_off, zu_dn]
            exact y1
          · simp (disch := omega) only [zu_sm, zu_off, zu_dn]
            exact y2
          · simp (disch := omega) only [zu_sm, zu_off, zu_dn]
        · obtain ⟨b1, b2, b3⟩ := c1 q q1 (by omega)
          refine ⟨?_, ?_, ?_⟩
          · simp (disch := omega) only [zu_off, zu_dn]
            exact b1
          · simp (disch := omega) only [zu_off, zu_dn]
            exact b2
          · simp (disch := omega) only [zu_off, zu_dn]
            exact b3
      · obtain ⟨b1, b2, b3⟩ := c2 q q1
        refine ⟨?_, ?_, ?_⟩
        · simp (disch := omega) only [zu_off, zu_dn]
          exact b1
        · simp (disch := omega) only [zu_off, zu_dn]
          exact b2
        · simp (disch := omega) only [zu_off, zu_dn]
          exact b3
      · simp (disch := omega) only [zu_off, zu_dn]
        exact c3 j hj
  have g6 : m1 74 6 = (k : Int) := (hF1 74 6 rfl).trans k6
  exact loop2 (w.2.1 - k) 0 m1 (by omega) hB1 zFr.refl (by omega) (fun q q1 q2 => absurd q2 (by omega)) (fun q _ => ⟨rfl, rfl, rfl⟩) (fun j _ => rfl)
noncomputable def yhbL : zLs := [(74, some 9), (74, some 12), (74, some 13), (74, some 14), (74, some 15), (74, some 16), (74, some 17), (74, some 22), (74, some 23)]
noncomputable def yhwL : zLs := yhL ++ ([(2, some 1), (2, some 2)] ++ (yhbL ++ yrhL))
noncomputable def yhgL : zLs := yhwL ++ [(17, some 0), (17, some 1), (28, some 5), (74, some 4), (74, some 6), (75, none), (78, none), (74, some 35), (74, some 62)]
set_option maxHeartbeats 4000000 in
theorem w_house0 (hT : zRules T) : Way T 115 206 [(0, zr 1)] [(0, zr 74)] 7 7 B B False := by
  rintro D m sc ⟨n, k, hI⟩ κ hκ
  have hI0 := hI
  obtain ⟨i1, i2, i3, i4, i5, i6, i7, i8, i9, i10, i11⟩ := hI
  have b21 : 0 ≤ m 2 1 ∧ m 2 1 ≤ 80 := i1 2 1
  have b17 : 0 ≤ m 17 0 ∧ m 17 0 ≤ 6 := i1 17 0
  have b171 : 0 ≤ m 17 1 ∧ m 17 1 ≤ 8 := i1 17 1
  have i40 := i4
  obtain ⟨⟨n1, n2⟩, ⟨k1, k2⟩, hh, hRel, hok⟩ := i4
  obtain ⟨L, hL⟩ : ∃ L : Nat, m 2 1 = (L : Int) := ⟨(m 2 1).toNat, by omega⟩
  obtain ⟨L76, hL76⟩ : ∃ L76 : Nat, (L76 = L ∨ L76 = 76) ∧ L76 ≤ L ∧ L76 ≤ 76 := by
    rcases Nat.lt_or_ge L 76 with h | h
    · exact ⟨L, Or.inl rfl, Nat.le_refl L, by omega⟩
    · exact ⟨76, Or.inr rfl, h, Nat.le_refl 76⟩
  have hs : ∀ a, L76 ≤ a → sgT m 76 a = -1 := fun a ha => by
    unfold sgT
    rw [if_neg (by omega)]
  generalize hsd : sgT m 76 = s at hs
  -- where the reference begins
  have begR : ∀ M1, 0 < L → zB M1 → zFr (inL (yhL ++ [(2, some 1), (2, some 2), (17, some 0), (17, some 1), (28, some 5)])) m M1 → ∀ (D2 : Nat) (κ2 : Option zA → zM → Prop), (∀ N, zB N → zFr (inL yhbL) M1 N → N 74 13 = 80 → N 74 14 = (L : Int) → N 74 16 = 0 → N 74 17 = -1 → N 74 22 = 0 → N 74 23 = 0 → N 74 9 = 0 → s = sgR N 80 → T (D2 + 7) 206 (45, [(0, zr 74), (1, zi 1)], [], N) κ2) → T (D2 + 7) 206 (0, [(0, zr 74)], [], M1) κ2 := by
    intro M1 h0L hB1 hF1 D2 κ2 go
    have e9 : M1 74 9 = (L : Int) := by rw [hF1 74 9 rfl, i2.1, hL]
    refine zb206_0 (D := D2) hT hB1 (fun _ hz => ?_) (fun q => by omega)
    have hFN : zFr (inL yhbL) M1 (zu (zu (zu (zu (zu (zu (zu (zu (zu M1 74 12 0) 74 13 80) 74 14 (M1 74 9)) 74 15 76) 74 16 0) 74 17 (-1)) 74 9 0) 74 22 0) 74 23 0) := ((((((((zFr.refl.set rfl).set rfl).set rfl).set rfl).set rfl).set rfl).set rfl).set rfl).set rfl
    have f14 : (zu (zu (zu (zu (zu (zu (zu (zu (zu M1 74 12 0) 74 13 80) 74 14 (M1 74 9)) 74 15 76) 74 16 0) 74 17 (-1)) 74 9 0) 74 22 0) 74 23 0) 74 14 = (L : Int) := by
      simp (disch := omega) only [zu_off, zu_sm]
      exact e9
    have f15 : (zu (zu (zu (zu (zu (zu (zu (zu (zu M1 74 12 0) 74 13 80) 74 14 (M1 74 9)) 74 15 76) 74 16 0) 74 17 (-1)) 74 9 0) 74 22 0) 74 23 0) 74 15 = 76 := by
      simp (disch := omega) only [zu_off, zu_sm]
    refine go _ hz hFN ?_ f14 ?_ ?_ ?_ ?_ ?_ ?_
    · simp (disch := omega) only [zu_off, zu_sm]
    · simp (disch := omega) only [zu_off, zu_sm]
    · simp (disch := omega) only [zu_off, zu_sm]
    · simp (disch := omega) only [zu_off, zu_sm]
    · simp (disch := omega) only [zu_sm]
    · simp (disch := omega) only [zu_off, zu_sm]
    · rw [← hsd]
      exact (sT_R i2 (fun j => (hFN 80 j rfl).trans (hF1 80 j rfl)) (f14.trans hL.symm) f15).symm
  -- at fault
  have refF : ∀ r M1, 0 < L → hsR s L 14 n k 0 (m 18) (m 19) (m 21) (m 22) = none → zB M1 → zFr (inL (yhL ++ [(2, some 1), (2, some 2)])) m M1 → M1 2 1 = 0 → (∀ q, q < n → M1 18 q = m 18 q ∧ M1 19 q = m 19 q ∧ M1 20 q = m 20 q) → (∀ q, q < k → M1 21 q = m 21 q ∧ M1 22 q = m 22 q ∧ M1 23 q = m 23 q) → κ r M1 := by
    intro r M1 h0L hrun hB1 hF1 h21 t1 t2
    refine hκ _ _ (fun D2 κ2 h2 => ?_)
    refine begR M1 h0L hB1 (hF1.sub (inL_sub (by decide))) D2 κ2 (fun N hBN hFN f13 f14 f16 f17 f22 f23 f9 hsg => ?_)
    have hF0 : zFr (inL yhwL) m N := (hF1.sub (inL_sub (by decide))).trans (hFN.sub (inL_sub (by decide)))
    refine z_linesR (D := D2) (n := n) (k := k) (L76 := L76) (fx := m 18) (fy := m 19) (gx := m 21) (gy := m 22) hT hBN f13 hsg ((hF0 74 4 rfl).trans n2) ((hF0 74 6 rfl).trans k2) f14 (by omega) hL76.2.2 hL76.2.1 hs f16 f17 f22 f23 (fun r2 M2 _ hB2 hF2 => ?_) (fun w M2 e => by rw [hrun] at e; cases e)
    have hFz : zFr (inL (yhbL ++ yrhL)) M1 M2 := (hFN.sub (inL_sub (by decide))).trans (hF2.sub (inL_sub (by decide)))
    have hFall : zFr (inL yhwL) m M2 := hF0.trans (hF2.sub (inL_sub (by decide)))
    have hH : HouseRel n k M2 := by
      refine House_grow (fx := m 18) (fy := m 19) (gx := m 21) (gy := m 22) (Nat.le_refl n) (by omega) (Nat.le_refl k) (by omega) i40 ((hFall 17 0 rfl).trans n1) ((hFall 74 4 rfl).trans n2) ((hFall 17 1 rfl).trans k1) ((hFall 74 6 rfl).trans k2) (fun q hq => ?_) (fun q hq => ?_) (fun q q1 q2 => absurd q2 (by omega)) (fun q q1 q2 => absurd q2 (by omega)) (fun q _ => ⟨hFall 78 q rfl, hFall 75 q rfl, hFall 75 _ rfl⟩) (fun q _ => ⟨hFall 75 _ rfl, hFall 75 _ rfl, hFall 75 _ rfl⟩) (fun q q1 q2 => absurd q2 (by omega)) (fun q q1 q2 => absurd q2 (by omega)) (.of hFall rfl) (fun j _ => hFall 75 j rfl)
      · rw [hFz 18 q rfl, hFz 19 q rfl, hFz 20 q rfl]
        exact t1 q hq
      · rw [hFz 21 q rfl, hFz 22 q rfl, hFz 23 q rfl]
        exact t2 q hq
    exact h2 _ _ (fun x => x.elim) ⟨n, k, Inv_ho hI0 hB2 (.of hFall rfl) ((hFz 2 1 rfl).trans h21) ((hF2 74 9 rfl).trans f9) (hFall 75 57 rfl) hH (Undo_fr (.of hFall rfl) i6) (Kept_fr (.of hFall rfl) i7) (Seen_fr (.of hFall rfl) i8)⟩
  -- done
  have refG : ∀ (r : Option zA) (w : hTy) (M1 : zM), 0 < L → hsR s L 14 n k 0 (m 18) (m 19) (m 21) (m 22) = some w → n + k < w.1 + w.2.1 → zB M1 → zFr (inL (yhL ++ [(2, some 1), (2, some 2), (17, some 0), (17, some 1), (28, some 5)])) m M1 → M1 2 1 = 0 → M1 28 5 = 0 → M1 17 0 = (w.1 : Int) → M1 17 1 = (w.2.1 : Int) → HouC n k m M1 w → κ r M1 := by
    intro r w M1 h0L hrun hlt hB1 hF1 h21 h285 e17 e171 hC
    refine hκ _ _ (fun D2 κ2 h2 => ?_)
    refine begR M1 h0L hB1 hF1 D2 κ2 (fun N hBN hFN f13 f14 f16 f17 f22 f23 f9 hsg => ?_)
    have hF0 : zFr (inL yhgL) m N := (hF1.sub (inL_sub (by decide))).trans (hFN.sub (inL_sub (by decide)))
    refine z_linesR (D := D2) (n := n) (k := k) (L76 := L76) (fx := m 18) (fy := m 19) (gx := m 21) (gy := m 22) hT hBN f13 hsg ((hFN 74 4 rfl).trans ((hF1 74 4 rfl).trans n2)) ((hFN 74 6 rfl).trans ((hF1 74 6 rfl).trans k2)) f14 (by omega) hL76.2.2 hL76.2.1 hs f16 f17 f22 f23 (fun r2 M2 e => by rw [hrun] at e; cases e) (fun w2 M2 e hB2 hF2 hR => ?_)
    rw [hrun] at e
    cases e
    obtain ⟨⟨c1, c2⟩, ⟨c3, c4⟩, c5, c6, c7, c8, c9, c10⟩ := hC
    refine z_houseR (D := D2) hT hB2 ((hF2 74 4 rfl).trans ((hFN 74 4 rfl).trans ((hF1 74 4 rfl).trans n2))) ((hF2 74 6 rfl).trans ((hFN 74 6 rfl).trans ((hF1 74 6 rfl).trans k2))) hR (fun q q1 q2 => (c6 q q1 q2).2) (fun q q1 q2 => (c9 q q1 q2).2) (fun r3 M3 hB3 hF3 p35 p62 p4 p6 d1 d2 d3 d4 d5 => ?_)
    have hFz : zFr (inL ((yhbL ++ yrhL) ++ [(74, some 4), (74, some 6), (75, none), (78, none), (74, some 35), (74, some 62)])) M1 M3 := ((hFN.sub (inL_sub (by decide))).trans (hF2.sub (inL_sub (by decide)))).trans (hF3.sub (inL_sub (by decide)))
    have hFall : zFr (inL yhgL) m M3 := (hF1.sub (inL_sub (by decide))).trans (hFz.sub (inL_sub (by decide)))
    have g78 : ∀ q, M2 78 q = m 78 q := fun q => (hF2 78 q rfl).trans ((hFN 78 q rfl).trans (hF1 78 q rfl))
    have g75 : ∀ q, M2 75 q = m 75 q := fun q => (hF2 75 q rfl).trans ((hFN 75 q rfl).trans (hF1 75 q rfl))
    simp only [g78, g75] at d3 d4 d5
    have hH : HouseRel w.1 w.2.1 M3 := by
      refine House_grow (fx := w.2.2.1) (fy := w.2.2.2.1) (gx := w.2.2.2.2.1) (gy := w.2.2.2.2.2) c1 c2 c3 c4 i40 ((hFz 17 0 rfl).trans e17) p4 ((hFz 17 1 rfl).trans e171) p6 (fun q hq => ?_) (fun q hq => ?_) (fun q q1 q2 => ?_) (fun q q1 q2 => ?_) d3 d4 d1 d2 (.of hFall rfl) d5
      · rw [hFz 18 q rfl, hFz 19 q rfl, hFz 20 q rfl]
        exact c7 q hq
      · rw [hFz 21 q rfl, hFz 22 q rfl, hFz 23 q rfl]
        exact c10 q hq
      · rw [hFz 18 q rfl, hFz 19 q rfl, hFz 20 q rfl]
        obtain ⟨y1, y2⟩ := c5 q q2
        obtain ⟨y3, y4, y5⟩ := c6 q q1 q2
        exact ⟨y1, y2, y3, y4.1, y5.1, y5.2⟩
      · rw [hFz 21 q rfl, hFz 22 q rfl, hFz 23 q rfl]
        obtain ⟨y1, y2⟩ := c8 q q2
        exact ⟨y1, y2, (c9 q q1 q2).1, (c9 q q1 q2).2.2.1⟩
    have h285' : M3 28 5 = 0 := (hFz 28 5 rfl).trans h285
    have e62 : M3 74 62 = m 74 62 + 1 := by rw [p62, hF2 74 62 rfl, hFN 74 62 rfl, hF1 74 62 rfl]
    exact h2 _ _ (fun x => x.elim) ⟨w.1, w.2.1, Inv_ho hI0 hB3 (.of hFall rfl) ((hFz 2 1 rfl).trans h21) ((hF3 74 9 rfl).trans ((hF2 74 9 rfl).trans f9)) (d5 57 (by omega)) hH ⟨by rw [p35, h285'], fun i hi => by rw [h285'] at hi; omega⟩ (Kept_more c1 c3 hlt (.of hFall rfl) e62 i7) (Seen_more c1 (.of hFall rfl) i8)⟩
  -- the class
  have cls : ∀ N : zM, 0 < L → zB N → zFr (inL [(2, some 2), (2, some 3)]) m N → N 2 3 = 0 → s = sgC N → T (D + 6) 39 (0, [(0, zr 17), (1, zr 2)], [], N) (fun r m1 => T (D + 7) 115 (34, [(0, zr 1)], r.toList ++ [], m1) κ) := by
    intro N h0L hBN hFN h23 hsg
    have c18 : N 18 = m 18 := funext fun j => hFN 18 j rfl
    have c19 : N 19 = m 19 := funext fun j => hFN 19 j rfl
    have c20 : N 20 = m 20 := funext fun j => hFN 20 j rfl
    have c21 : N 21 = m 21 := funext fun j => hFN 21 j rfl
    have c22 : N 22 = m 22 := funext fun j => hFN 22 j rfl
    have c23 : N 23 = m 23 := funext fun j => hFN 23 j rfl
    refine z_linesC (D := D) (n := n) (k := k) (L76 := L76) hT hBN hsg ((hFN 17 0 rfl).trans n1) ((hFN 17 1 rfl).trans k1) ((hFN 2 1 rfl).trans hL) hL76.2.2 hs h23 (fun M hrun hBM hF t1 t2 => ?_) (fun w i M hrun hi hlt hBM hF e17 e171 hC => ?_)
    · rw [c18, c19, c21, c22] at hrun
      rw [c18, c19, c20] at t1
      rw [c21, c22, c23] at t2
      refine zb115_34 (D := D) (v := -1) hT rfl hBM (by omega) (fun q1 q2 => by omega) (fun q1 q2 hz => ?_) (fun q => by omega)
      refine refF _ _ h0L hrun hz (((hFN.sub (inL_sub (by decide))).trans (hF.sub (inL_sub (by decide)))).set rfl) (by rw [zu_sm rfl]) (fun q hq => ?_) (fun q hq => ?_)
      · simp (disch := omega) only [zu_dn]
        exact t1 q hq
      · simp (disch := omega) only [zu_dn]
        exact t2 q hq
    · rw [c18, c19, c21, c22] at hrun
      refine zb115_34 (D := D) (v := (i : Int)) hT rfl hBM (by omega) (fun q1 q2 => by omega) (fun q1 q2 => by omega) (fun q hz => ?_)
      refine refG _ w _ h0L hrun hlt hz ((((hFN.sub (inL_sub (by decide))).trans (hF.sub (inL_sub (by decide)))).set rfl).set rfl) (by rw [zu_sm rfl]) (by rw [zu_dn (by omega), zu_sm rfl]) (by rw [zu_dn (by omega), zu_dn (by omega), e17]) (by rw [zu_dn (by omega), zu_dn (by omega), e171]) ?_
      unfold HouC at hC ⊢
      rw [c18, c19, c20, c21, c22, c23] at hC
      simp (disch := omega) only [zu_dn]
      exact hC
  refine zb115_0 (D := D) hT i1 (fun q hz => ?_) (fun q1 q2 hz => ?_) (fun q1 q2 hz => ?_)
  · refine cls _ (by omega) hz ((zFr.refl.set rfl).set rfl) (by rw [zu_off (by omega), zu_sm rfl]) ?_
    rw [← hsd]
    refine (sT_C (fun j => by rw [zu_dn (by omega), zu_dn (by omega)]) ?_).symm
    rw [zu_sm rfl, if_neg (by omega)]
  · refine cls _ (by omega) hz ((zFr.refl.set rfl).set rfl) (by rw [zu_off (by omega), zu_sm rfl]) ?_
    rw [← hsd]
    refine (sT_C (fun j => by rw [zu_dn (by omega), zu_dn (by omega)]) ?_).symm
    rw [zu_sm rfl]
    split <;> omega
  · have hF1 : zFr (inL [(2, some 1), (2, some 2), (2, some 3)]) m (zu (zu (zu m 2 3 0) 2 2 (m 2 1)) 2 1 0) := ((zFr.refl.set rfl).set rfl).set rfl
    have g21 : (zu (zu (zu m 2 3 0) 2 2 (m 2 1)) 2 1 0) 2 1 = 0 := by rw [zu_sm rfl]
    generalize (zu (zu (zu m 2 3 0) 2 2 (m 2 1)) 2 1 0) = M1 at hz hF1 g21 ⊢
    refine hκ _ _ (fun D2 κ2 h2 => ?_)
    have e9 : M1 74 9 = 0 := by rw [hF1 74 9 rfl, i2.1, q2]
    refine zb206_0 (D := D2) hT hz (fun q => absurd e9 q) (fun _ hz2 => ?_)
    have hF2 : zFr (inL [(74, some 9), (74, some 12), (74, some 13), (74, some 14), (74, some 15), (74, some 16), (74, some 17)]) M1 (zu (zu (zu (zu (zu (zu (zu M1 74 12 0) 74 13 80) 74 14 (M1 74 9)) 74 15 76) 74 16 0) 74 17 (-1)) 74 9 0) := ((((((zFr.refl.set rfl).set rfl).set rfl).set rfl).set rfl).set rfl).set rfl
    exact h2 _ _ (fun x => x.elim) ⟨n, k, Inv_nt hI0 hz2 ((Agree.of hF1 rfl).trans (.of hF2 rfl)) ((hF2 2 1 rfl).trans g21) (by rw [zu_sm rfl])⟩
end ZHouseW
end
-- a8.zhelp.lean.txt
section
/-! The law's helpers: what may throw, called; caught. An answer is what the method's type says. -/
noncomputable def z_ans (k : Nat) (r : Option zA) : Prop := match mR k with
  | none => r = none
  | some .long => ∃ v : Int, r = some (.inr (.inr v))
  | some _ => ∃ v : Int, r = some (.inl v) ∧ (-2147483648 ≤ v ∧ v ≤ 2147483647)
theorem z_ansI {k : Nat} {v : Int} (h : mR k = some .int ∨ mR k = some .boolean) : z_ans k (some (.inl (wr v))) := by
  unfold z_ans
  rcases h with h | h
  · rw [h]
    exact ⟨_, rfl, wrB v⟩
  · rw [h]
    exact ⟨_, rfl, wrB v⟩
theorem z_ansL {k : Nat} {v : Int} (h : mR k = some .long) : z_ans k (some (.inr (.inr v))) := by
  unfold z_ans
  rw [h]
  exact ⟨_, rfl⟩
theorem z_ansN {k : Nat} (h : mR k = none) : z_ans k none := by
  unfold z_ans
  rw [h]
/-- as zT, of a method that may throw: it ends with none then -/
noncomputable def zTX2 (x : zX) (D k : Nat) (g : zG) (κ : Option zA → zM → Prop) : Prop := ∀ (p : Program) (e : Env) (s : State) (m : MethodId) (args : Array Value) (below : List Frame) (meth : Method) (c : Code), q_Ctx p (q_rm D 1 6) s m args meth c x.2.1 x.2.2.1 x.2.2.2.1 x.2.2.2.2.1 k → meth.sig.returnType = mR k → meth.locks = false → (∀ y ∈ c.exceptionTable.toList, False) → x.1.stackTraces = false → (∀ q : Nat, q < x.2.2.2.2.1.size → s.heap[q]? = x.2.2.2.2.1[q]?) →
  zW p x.1 e (q_rm D 1 6) s m args below meth c 0 0 (vx_MQ below (zQ x (fun r m1 => z_ans k r ∧ κ r m1)) (zXC x κ) args s 1 6 (fun q => x.2.2.2.2.1.size ≤ q)) x.2.1 x.2.2.1 x.2.2.2.1 x.2.2.2.2.1 x.2.2.2.2.2 k g
noncomputable def zTt2 (x : zX) (D k : Nat) (g : zG) (κ : Option zA → zM → Prop) : Prop := (z_thr k = true → zTX2 x D k g κ) ∧ (z_thr k = false → zT x D k g (fun r m1 => z_ans k r ∧ κ r m1))
theorem zRulesP2 {x : zX} {stp : List (Nat × List Nat)} {n D k : Nat} {g : zG} {κ : Option zA → zM → Prop} (hk : z_thr k = false) (h : z_blk stp k (fun g1 => zTt2 x D k g1 κ) (zCall (zTt2 x) D κ k) κ (fun m => z_thr k = true ∧ κ none m) n g) : zT x D k g (fun r m1 => z_ans k r ∧ κ r m1) := by
  intro p e s m args below meth c C hret hlocks
  refine z_blkS (G := fun g1 => zTt2 x D k g1 κ) C (fun g1 h1 => h1.2 hk p e s m args below meth c C hret hlocks) (fun c0 as nx rs lo st pc mm site hcat hc0 hC => ?_) (fun r pc lo st mm hr hκ => ?_) (fun pc lo st mm _ _ _ hF => by rw [hk] at hF; exact absurd hF.1 (by decide)) n g h
  · unfold zCall at hC
    split at hC
    · exact hC.elim
    · rename_i D1
      obtain ⟨hb, hC⟩ := z_bif hC
      rw [Bool.and_eq_true] at hb
      have hpl := hb.1
      have hnt := z_plT hpl
      simp only [z_pl, Bool.and_eq_true] at hpl
      refine z_callS C site hcat (by have := q_blt hpl.1.1; omega) hpl.2 (Nat.le_of_ble_eq_true hb.2) (by show D1 + 1 + 8 ≤ D1 + 1 + 8; omega) (by show 80 * (D1 + 1) + 400 ≤ 80 * (D1 + 1) + 400; omega) (Nat.zero_le _) (Nat.zero_le _) (hC.2 hnt) (fun r m1 h1 => h1.2.2 hk p e s m args below meth c C hret hlocks)
  · rintro ls vs H locs ⟨hlo, rfl, hH, hlc⟩
    obtain ⟨nx, a1, a2, a3, z, hr⟩ := hr
    rcases hr with ⟨hi, v, rfl, rfl, hR⟩ | ⟨hi, v, rfl, rfl, hR⟩ | ⟨hi, rfl, rfl, hR⟩
    · obtain ⟨en, hd⟩ := q_dec (n := 1) hi rfl
      have ew : zv x.2.2.2.2.2 (.inl (wr v)) = zv x.2.2.2.2.2 (.inl v) := by
        show Value.int (Int32.ofInt (wr v)) = Value.int (Int32.ofInt v)
        rw [← wrE, z_ofN]
      rcases hR with hR | ⟨hR, hb⟩
      · exact W.iret C.1 C.2.1 (hret.trans hR) (fun t ht _ => ⟨some (.inl (wr v)), mm, congrArg (fun q => Outcome.returned (some q)) ew.symm, ⟨z_ansI (Or.inl hR), hκ⟩, by rw [ht]; exact hH⟩) hlc hd
      · refine W.zret (ty := .boolean) C.1 C.2.1 (hret.trans hR) ?_ (fun t ht _ => ⟨some (.inl (wr v)), mm, congrArg (fun q => Outcome.returned (some q)) ew.symm, ⟨z_ansI (Or.inr hR), hκ⟩, by rw [ht]; exact hH⟩) hlc hd
        exact (z_ffitS (ad := x.2.2.2.2.2) (ty := .boolean) hb).1
    · obtain ⟨en, hd⟩ := q_dec (n := 1) hi rfl
      exact W.lret C.1 C.2.1 (hret.trans hR) (fun t ht _ => ⟨some (.inr (.inr v)), mm, rfl, ⟨z_ansL hR, hκ⟩, by rw [ht]; exact hH⟩) hlc hd
    · obtain ⟨en, hd⟩ := q_dec (n := 1) hi rfl
      exact W.vret C.1 C.2.1 (hret.trans hR) (fun t ht _ => ⟨none, mm, rfl, ⟨z_ansN hR, hκ⟩, by rw [ht]; exact hH⟩) hlc hd
set_option maxHeartbeats 4000000 in
theorem zRulesX2 {x : zX} {stp : List (Nat × List Nat)} {n D k : Nat} {g : zG} {κ : Option zA → zM → Prop} (hk : z_thr k = true) (h : z_blk stp k (fun g1 => zTt2 x D k g1 κ) (zCall (zTt2 x) D κ k) κ (fun m => z_thr k = true ∧ κ none m) n g) : zTX2 x D k g κ := by
  intro p e s m args below meth c C hret hlocks htab hfl hsh
  have hkc := z_thrC hk
  have hcl : (mY k).cls = "SkirtsByTheDay" := by rcases hkc with rfl | rfl | rfl | rfl <;> rfl
  have hRi : mR k = some .int := by rcases hkc with rfl | rfl | rfl | rfl <;> rfl
  refine z_blkS (G := fun g1 => zTt2 x D k g1 κ) C (fun g1 h1 => h1.1 hk p e s m args below meth c C hret hlocks htab hfl hsh) (fun c0 as nx rs lo st pc mm site hcat hc0 hC => ?_) (fun r pc lo st mm hr hκ => ?_) (fun pc lo st mm g1 g2 h8 hF => ?_) n g h
  · unfold zCall at hC
    split at hC
    · exact hC.elim
    · rename_i D1
      obtain ⟨hb, hC⟩ := z_bif hC
      rw [Bool.and_eq_true] at hb
      have hpl := hb.1
      have hnt := z_plT hpl
      simp only [z_pl, Bool.and_eq_true] at hpl
      refine z_callS C site hcat (by have := q_blt hpl.1.1; omega) hpl.2 (Nat.le_of_ble_eq_true hb.2) (by show D1 + 1 + 8 ≤ D1 + 1 + 8; omega) (by show 80 * (D1 + 1) + 400 ≤ 80 * (D1 + 1) + 400; omega) (Nat.zero_le _) (Nat.zero_le _) (hC.2 hnt) (fun r m1 h1 => h1.2.1 hk p e s m args below meth c C hret hlocks htab hfl hsh)
  · rintro ls vs H locs ⟨hlo, rfl, hH, hlc⟩
    obtain ⟨nx, a1, a2, a3, z, hr⟩ := hr
    rcases hr with ⟨hi, v, rfl, rfl, hR⟩ | ⟨hi, v, rfl, rfl, hR⟩ | ⟨hi, rfl, rfl, hR⟩
    · obtain ⟨en, hd⟩ := q_dec (n := 1) hi rfl
      have ew : zv x.2.2.2.2.2 (.inl (wr v)) = zv x.2.2.2.2.2 (.inl v) := by
        show Value.int (Int32.ofInt (wr v)) = Value.int (Int32.ofInt v)
        rw [← wrE, z_ofN]
      refine vx_ret (W.widen (k := 1) (n := 6) (by omega) (by omega) ?_)
      exact W.iret C.1 C.2.1 (hret.trans hRi) (fun t ht _ => ⟨some (.inl (wr v)), mm, congrArg (fun q => Outcome.returned (some q)) ew.symm, ⟨z_ansI (Or.inl hRi), hκ⟩, by rw [ht]; exact hH⟩) hlc hd
    · rw [hRi] at hR
      cases hR
    · rw [hRi] at hR
      cases hR
  · rintro ls vs H locs ⟨hlo, rfl, hH, hlc⟩
    obtain ⟨n9, is, text, t1, t2, t3, t4, t5, t6⟩ := q_tsC hkc g2 g1
    obtain ⟨hx, hb, hml, hown, hts, hK, hnm, hRf, hRl⟩ := C
    obtain ⟨sa, hsa⟩ := hK.2.2.2.2.1 _ t1
    have hq0 : ∀ q : Nat, q < x.2.2.2.2.1.size → ¬ x.2.2.2.2.1.size ≤ q → s.heap[q]? = x.2.2.2.2.1[q]? := fun q hq _ => hsh q hq
    have hst2 : ((st.map (zv x.2.2.2.2.2)).map fun v => v.category).sum ≤ 8 := by
      rw [z_catsS]
      exact h8
    rw [hcl] at hown
    refine q_throw (own := "SkirtsByTheDay") (cls := q_nse) (Y0 := "java/lang/RuntimeException") (rr := ["java/lang/Exception"]) (ik := 119) (is := is) (ic := 123) (i1 := 13) (by1 := q_b13) (A := fun q => x.2.2.2.2.1.size ≤ q) hx hb hfl (by decide +kernel) (by decide +kernel) (by decide +kernel) (by decide +kernel) hown (by decide) (by decide) (by decide)
      (hts _ q_own_k) (hts _ q_own_i) hsa (q_hat hts hK.2.2.2) (List.all_eq_true.mp q_own_o) (hK.2.2.2.2.2.1.kept hq0) (hK.2.2.2.2.2.2.kept hq0) (fun q hq1 hq2 => ?_) (by rw [hml]; exact hlo.1) t2 t3 t4 t5 t6 (fun y hy => (htab y hy).elim)
      (by show 1 + 4 < D + 8; omega) (by show ((st.map (zv x.2.2.2.2.2)).map fun v => v.category).sum + (13 * (1 + 2) + 43) ≤ 80 * D + 400; omega) (by show 0 + 1 ≤ 1; omega) (by show 0 + 6 ≤ 6; omega) hlocks (fun t hA hz hq => ?_) hlc (by omega) (by omega)
    · have hq3 : q < x.2.2.2.2.1.size := Nat.lt_of_not_le hq2
      rw [hH.1 q hq3, hsh q hq3]
    · exact ⟨rfl, mm, hF.2, hH.grow hz hq⟩
theorem zRulesS2 (x : zX) : zRules (zTt2 x) := ⟨fun _ _ _ _ _ _ h => ⟨fun hk => zRulesX2 hk h, fun hk => zRulesP2 hk h⟩, fun ks D k pc lo st mm κ h => ⟨fun hk p e s m args below meth c C hret hlocks htab hfl hsh ls vs H locs F => h.1 hk p e s m args below meth c C hret hlocks htab hfl hsh ls vs H locs ⟨z_keepS ks F.1, F.2⟩, fun hk p e s m args below meth c C hret hlocks ls vs H locs F => h.2 hk p e s m args below meth c C hret hlocks ls vs H locs ⟨z_keepS ks F.1, F.2⟩⟩⟩
/-- a method that may throw, as the law's helpers call it -/
theorem z_metX2 {x : zX} {κ : Option zA → zM → Prop} {D c : Nat} {as : List zA} {mm : zM} {H0 : Heap} (hk : z_thr c = true) (hfl : x.1.stackTraces = false) (hcat : z_cats as ≤ mL c) (hH : zH x.2.1 x.2.2.1 x.2.2.2.1 x.2.2.2.2.1 x.2.2.2.2.2 mm H0) (hT : zTX2 x D c (0, z_args 0 as, [], mm) κ) :
    vx_Met x.1 (mY c) (q_ws c) (q_rm D 1 6) (q_Pc x.2.1 x.2.2.1 x.2.2.2.1 x.2.2.2.2.1 H0 (as.map (zv x.2.2.2.2.2))) (zQ x (fun r m1 => z_ans c r ∧ κ r m1)) (zXC x κ) 1 6 (fun q => x.2.2.2.2.1.size ≤ q) := by
  have hkc := z_thrC hk
  have hk2 : c < 303 := by omega
  have hp : c_plain c = true := by rcases hkc with rfl | rfl | rfl | rfl <;> rfl
  have hcl : (mY c).cls = "SkirtsByTheDay" := by rcases hkc with rfl | rfl | rfl | rfl <;> rfl
  have hpn : plainName (mY c).cls = true := by rw [hcl]; decide +kernel
  obtain ⟨w1, w2, w3, w4, w5, w6, w7⟩ := q_MW (q_meth hk2 hp)
  refine vx_ofW (cc := mC c) (maxL := mL c) (ret := mR c) hpn rfl ?_
  intro p e s m args below meth cd s₁ B hml htab hv
  obtain ⟨rfl, hK, hHH⟩ := hv
  have hts0 := atoms_spec (ws := q_ws c) B.pre
  have hts : ∀ w ∈ tb, w.before (as.map (zv x.2.2.2.2.2)).toArray s = true := fun w hw => hts0 w (List.mem_cons_of_mem _ hw)
  have hown : s.vm.findClass (mY c).cls = some m.cls := findClass_of_methodNamed B.named
  have hlocks := B.notSynchronized
  have hnm : meth.name = (mY c).name := (name_of_methodNamed B.named B.method).1
  have hret := B.returns
  have C : q_Ctx p (q_rm D 1 6) s m (as.map (zv x.2.2.2.2.2)).toArray meth cd x.2.1 x.2.2.1 x.2.2.2.1 x.2.2.2.2.1 c := ⟨B.exec, B.bytes, hml, hown, hts, hK, fun q => hnm.trans q, by show 8 ≤ D + 8; omega, by show 400 ≤ 80 * D + 400; omega⟩
  have hl := lv_entry (as.map (zv x.2.2.2.2.2)) (n := mL c) (by rw [q_slN, z_catsS]; exact hcat)
  rw [lg_entry_eq, hHH]
  generalize (lg_sl (as.map (zv x.2.2.2.2.2)) ++ List.replicate (mL c - (lg_sl (as.map (zv x.2.2.2.2.2))).length) Slot.unset).toArray = ls at hl ⊢
  exact hT p e s m _ below meth cd C hret hlocks htab hfl (fun q hq => by rw [hHH]; exact hH.1 q hq) ls [] H0 [] ⟨⟨hl.1, hl.2.1, fun q hq => hl.2.2 q (z_argsL 0 q hq)⟩, rfl, hH, fun q hq => nomatch hq⟩

noncomputable def zpH (c : Nat) : Nat := bif Nat.blt c 301 then 5 else 4
/-- the helper's call is a call upon one -/
noncomputable def zHI (c : Nat) : Bool := match ins c (zpH c) with
  | some (.invokevirtual _, _) => true
  | _ => false
noncomputable def zCallH (x : zX) (D : Nat) (κ : Option zA → zM → Prop) (c kc c0 : Nat) (as : List zA) (f : zG) : Prop := kc = c0 ∧ f.1 = zpH c + 3 ∧ z_cats as ≤ mL kc ∧ ∃ κ1 : Option zA → zM → Prop, zTX2 x D kc (0, z_args 0 as, [], f.2.2.2) κ1 ∧ (∀ r m1, z_ans kc (some r) → κ1 (some r) m1 → z_blk [] c (fun _ => False) (fun _ _ _ => False) κ (fun _ => False) 20 (f.1, f.2.1, r :: f.2.2.1, m1)) ∧ (∀ m1, κ1 none m1 → κ (some (zi 1)) m1)
set_option maxHeartbeats 8000000 in
theorem z_metH {x : zX} {κ : Option zA → zM → Prop} {D c kc : Nat} {as : List zA} {mm : zM} {H0 : Heap} (hfl : x.1.stackTraces = false) (hh : q_HK c kc) (hI : zHI c = true) (hcat : z_cats as ≤ mL c) (hH : zH x.2.1 x.2.2.1 x.2.2.2.1 x.2.2.2.2.1 x.2.2.2.2.2 mm H0) (hB : z_blk [] c (fun _ => False) (zCallH x D κ c kc) (fun _ _ => False) (fun _ => False) 20 (0, z_args 0 as, [], mm)) :
    Met x.1 (mY c) (q_wsH c) (q_rm (D + 1) 1 6) (q_Pc x.2.1 x.2.2.1 x.2.2.2.1 x.2.2.2.2.1 H0 (as.map (zv x.2.2.2.2.2))) (zQ x κ) 1 6 (fun q => x.2.2.2.2.1.size ≤ q) := by
  obtain ⟨l, dC, dI, dA, Hb, ad⟩ := x
  dsimp only at hfl hH ⊢
  obtain ⟨hHh, hD, hc1, hc2, hkc⟩ := hh
  obtain ⟨w1, w2, w3, w4, w5, w6, w7, w8, w9⟩ := q_HW hHh
  have htk : z_thr kc = true := by rcases hkc with rfl | rfl | rfl | rfl <;> rfl
  have hkc2 : kc < 303 := by omega
  have hkcp : c_plain kc = true := by rcases hkc with rfl | rfl | rfl | rfl <;> rfl
  refine q_ofWH (cc := mC c) (maxL := mL c) (ret := mR c) (hh := q_hh c) w3 rfl ?_
  intro p e s m args below meth cd s₁ B hml hv0
  obtain ⟨rfl, hK, hHe⟩ := hv0
  have hts0 := atoms_spec (ws := q_wsH c) B.pre
  have hts : ∀ w ∈ tb, w.before (as.map (zv ad)).toArray s = true := fun w hw => hts0 w (List.mem_cons_of_mem _ hw)
  have hown : s.vm.findClass (mY c).cls = some m.cls := findClass_of_methodNamed B.named
  have hlocks := B.notSynchronized
  have hret : meth.sig.returnType = mR c := B.returns
  have hnm : meth.name = (mY c).name := (name_of_methodNamed B.named B.method).1
  have htab : cd.exceptionTable.toList = tableOf (q_hh c) := vx_table (x := mY c) B (hts _ w1)
  have C : q_Ctx p (q_rm (D + 1) 1 6) s m (as.map (zv ad)).toArray meth cd dC dI dA Hb c := ⟨B.exec, B.bytes, hml, hown, hts, hK, fun q => hnm.trans q, by show 8 ≤ D + 1 + 8; omega, by show 400 ≤ 80 * (D + 1) + 400; omega⟩
  have hl := lv_entry (as.map (zv ad)) (n := mL c) (by rw [q_slN, z_catsS]; exact hcat)
  rw [lg_entry_eq]
  generalize (lg_sl (as.map (zv ad)) ++ List.replicate (mL c - (lg_sl (as.map (zv ad))).length) Slot.unset).toArray = ls at hl ⊢
  show W p l e (q_rm (D + 1) 1 6) s m (as.map (zv ad)).toArray below meth cd s.heap [] 0 0 _ _
  rw [hHe]
  refine z_blkS (dC := dC) (dI := dI) (dA := dA) (Hb := Hb) (ad := ad) C (fun g h => h.elim) (fun c0 as2 nx rs lo st pc mm1 site hcr hc0 hC => ?_) (fun r pc lo st mm1 _ h => h.elim) (fun pc lo st mm1 _ _ _ h => h.elim) 20 _ hB ls [] H0 [] ⟨⟨hl.1, hl.2.1, fun q hq => hl.2.2 q (z_argsL 0 q hq)⟩, rfl, hH, fun q hq => nomatch hq⟩
  obtain ⟨e0, e1, hca2, κ1, hT, hok, hno⟩ := hC
  subst e0
  dsimp only at e1 hca2 hT hok
  rintro ls1 vs1 H1 locs1 ⟨hlo1, rfl, hH1, hlc1⟩
  show W p l e (q_rm (D + 1) 1 6) s m (as.map (zv ad)).toArray below meth cd H1 locs1 0 0 _ (F0 m pc ls1 (st.map (zv ad)))
  obtain ⟨xi, a2, a3, z, site⟩ := site
  rcases site with ⟨hi, ht⟩ | ⟨hi, ht, q, as', rfl, hq⟩
  · exfalso
    obtain ⟨en, hd⟩ := q_dec (n := 3) hi rfl
    have en' : nx = pc + 3 := en
    have epc : pc = zpH c := by omega
    unfold zHI at hI
    rw [← epc, hi] at hI
    cases hI
  · obtain ⟨en, hd⟩ := q_dec (n := 3) hi rfl
    have en' : nx = pc + 3 := en
    have hc := (q_rowI hi).2.2.1
    simp only [c_I, nMth, q_bleF (show kc < 304 by omega), Bool.false_or, Bool.and_eq_true] at hc
    have ea2 := Nat.eq_of_beq_eq_true hc.2
    obtain ⟨ws, rfl, e2, g3⟩ := z_takeS ht
    rw [List.append_nil] at e2
    have hws : ws = as'.reverse ++ [.inr (.inl (some q))] := by
      have := congrArg List.reverse e2
      rw [List.reverse_reverse, List.reverse_cons] at this
      exact this.symm
    have hlen : (as'.map (zv ad)).length = mP kc := by
      have h9 := congrArg List.length e2
      rw [List.length_cons, List.length_reverse, g3] at h9
      rw [List.length_map]
      omega
    have hq0 := hc.1.2
    unfold c_cls at hq0
    split at hq0
    · rename_i q0 hq1
      have hq2 := of_decide_eq_true hq0
      obtain ⟨hkd, hk0⟩ := z_ciS hq hq1
      obtain ⟨gb, w9', k2, cell, k3, k4, k5, k6⟩ := hH1.2.2.2.1 _ _ hk0 hkd
      have hcl9 : s.vm.findClass (mY kc).cls = some cell.cls := by rw [← hq2, k4]; exact (hK.1.1 _ _ hq1).2.1
      obtain ⟨v1', v2', v3', v4', v5', v6', v7'⟩ := q_MW (q_meth hkc2 hkcp)
      have hM := z_metX2 (x := (l, dC, dI, dA, Hb, ad)) htk hfl hca2 hH1 hT
      dsimp only at hM
      have hroom : (q_rm D 1 6).frames + 1 ≤ (q_rm (D + 1) 1 6).frames ∧ 8 + (mL kc + 11) + (q_rm D 1 6).locals ≤ (q_rm (D + 1) 1 6).locals := ⟨by show D + 8 + 1 ≤ D + 1 + 8; omega, q_key0 (by show 80 * D + 480 ≤ 80 * (D + 1) + 400; omega) _ v7'⟩
      have hrun := vx_runV (p := p) (e := e) (R := q_rm (D + 1) 1 6) (below := below) (meth := meth) (locs := locs1) (cells := 0) (slots := 0) (g := F0 m pc ls1 ((ws ++ rs).map (zv ad))) (As := as'.map (zv ad)) (rest := rs.map (zv ad)) (b := ad q) (C := (mY kc).cls) ⟨C.1, C.2.1, hml, hown, hts⟩ hM
        ⟨callB_of (R := q_rm (D + 1) 1 6) (mP kc) hts (q_good v1') rfl rfl rfl (hts _ v2') (hts _ (wAt_mem hc.1.1.1.1.2)) ⟨v4', v5', v6'⟩ hroom, hts _ (wAt_mem hc.1.1.1.2), hts _ (wAt_mem hc.1.1.2)⟩
        ⟨fun a U g mk q => ⟨q.1, q.2.1.calling, q.2.2⟩, ⟨cell, k3, by rw [k5]; rfl, hcl9⟩, fun U hU hW => ⟨rfl, hK.moved hW, hU⟩⟩ rfl hlen hlo1.1 (by rw [hws, List.map_append, List.map_append, List.map_reverse, List.append_assoc]; rfl) (lv_room (by rw [z_catsS]; exact hcr)) hd ⟨by rw [Nat.zero_add]; exact Nat.le_refl _, by rw [Nat.zero_add]; exact Nat.le_refl _⟩
      intro T hTT XT
      rcases hrun T hTT XT with ⟨v, st₀, t, T', L9, a0, X', hL9, a1, a2', hq9, st9⟩ | ⟨q9, st₀, t, T', L9, E9, ce, a0, X', hL9, a1, a2', hXC, hce, hcv, hcl, st9⟩
      · obtain ⟨r, m1, hr, ⟨hrn, hκ⟩, hh1⟩ := hq9
        cases hr
        cases r with
        | none =>
          unfold z_ans at hrn
          have hi1 : mR kc = some .int := by rcases hkc with rfl | rfl | rfl | rfl <;> rfl
          rw [hi1] at hrn
          obtain ⟨v, hv, -⟩ := hrn
          cases hv
        | some ra =>
          have hlx : ∀ z ∈ locs1 ++ L9, Hb.size ≤ z.base := fun z hz => by
            rcases List.mem_append.mp hz with hz | hz
            · exact hlc1 z hz
            · exact hL9 z hz
          have KW : W p l e (q_rm (D + 1) 1 6) s m (as.map (zv ad)).toArray below meth cd t.heap (locs1 ++ L9) 1 6 (MQ below (zQ (l, dC, dI, dA, Hb, ad) κ) (as.map (zv ad)).toArray s 1 6 (fun q => Hb.size ≤ q)) (F0 m nx ls1 ((ra :: rs).map (zv ad))) := by
            refine z_blkS (dC := dC) (dI := dI) (dA := dA) (Hb := Hb) (ad := ad) (cells := 1) (slots := 6) C (fun g h => h.elim) (fun _ _ _ _ _ _ _ _ _ _ _ h => h.elim) (fun r pc2 lo2 st2 mm2 hr hκ2 => ?_) (fun _ _ _ _ _ _ _ h => h.elim) 20 (nx, lo, ra :: rs, m1) (hok ra m1 hrn hκ) ls1 _ t.heap (locs1 ++ L9) ⟨hlo1, rfl, hh1, hlx⟩
            rintro ls2 vs2 H2 locs2 ⟨hlo2, rfl, hH2, hlc2⟩
            obtain ⟨nx2, b1, b2, b3, z2, hr⟩ := hr
            rcases hr with ⟨hi2, v, rfl, rfl, hR⟩ | ⟨hi2, v, rfl, rfl, hR⟩ | ⟨hi2, rfl, rfl, hR⟩
            · obtain ⟨en2, hd2⟩ := q_dec (n := 1) hi2 rfl
              have ew : zv ad (.inl (wr v)) = zv ad (.inl v) := by
                show Value.int (Int32.ofInt (wr v)) = Value.int (Int32.ofInt v)
                rw [← wrE, z_ofN]
              exact W.iret C.1 C.2.1 (hret.trans w8) (fun t ht _ => ⟨some (.inl (wr v)), mm2, congrArg (fun q => Outcome.returned (some q)) ew.symm, hκ2, by rw [ht]; exact hH2⟩) hlc2 hd2
            · rw [w8] at hR
              cases hR
            · rw [w8] at hR
              cases hR
          obtain ⟨t2, b9, c9⟩ := KW T' (by rw [a1]) X'
          exact ⟨t2, st9 t2 (by rw [en'] at b9; exact b9), c9⟩
      · obtain ⟨hE9, m1, hκ, hh1⟩ := hXC
        subst hE9
        have hlx : ∀ z ∈ locs1 ++ L9, Hb.size ≤ z.base := fun z hz => by
          rcases List.mem_append.mp hz with hz | hz
          · exact hlc1 z hz
          · exact hL9 z hz
        have fin : ∀ (pcx : Nat) (lsx : Array Slot), decode (mC c) pcx = .ok (.iconst 1, 1) → decode (mC c) (pcx + 1) = .ok (.ireturn, 1) → W p l e (q_rm (D + 1) 1 6) s m (as.map (zv ad)).toArray below meth cd T'.heap (locs1 ++ L9) (0 + 1) (0 + 6) (MQ below (zQ (l, dC, dI, dA, Hb, ad) κ) (as.map (zv ad)).toArray s 1 6 (fun q => Hb.size ≤ q)) (F0 m pcx lsx []) := by
          intro pcx lsx d1 d2
          refine lv_iconst (v := 1) C.1 C.2.1 d1 rfl ?_
          rw [Nat.zero_add, Nat.zero_add]
          exact W.iret C.1 C.2.1 (hret.trans w8) (fun t3 ht3 _ => ⟨some (zi 1), m1, rfl, hno m1 hκ, by rw [ht3, a1]; exact hh1⟩) hlx d2
        have hlink : ∀ en : ExceptionTableEntry, en.catchType = 13 → (Cond.classLink (mY c).cls en.catchType q_nse).before (as.map (zv ad)).toArray s = true := fun en hen => by rw [hen, w9]; exact hts _ q_own_c
        rcases hD with ⟨d0, d1, d2, d3, d4⟩ | ⟨d0, d1, d2, d3, d4⟩
        · have nb : Nat.blt c 301 = true := Nat.ble_eq_true_of_le d0
          have epc : pc = 5 := by
            unfold zpH at e1
            rw [nb] at e1
            simp only [cond_true] at e1
            omega
          have ehh : q_hh c = [(0, 10, 13, 13)] := by unfold q_hh; rw [nb]; rfl
          rw [ehh] at htab
          have KX : vx_W p l e (q_rm (D + 1) 1 6) s m (as.map (zv ad)).toArray below meth cd T'.heap (locs1 ++ L9) (0 + 1) (0 + 6) (MQ below (zQ (l, dC, dI, dA, Hb, ad) κ) (as.map (zv ad)).toArray s 1 6 (fun q => Hb.size ≤ q)) (F0 m pc ls1 (rs.map (zv ad))) q9 :=
            vx_catch (name := q_nse) hown [] { startPc := 0, endPc := 10, handlerPc := 13, catchType := 13 } [] htab (fun z hz => nomatch hz) (by rw [epc]; rfl) (by decide) (hlink _ rfl) (va_Nw.use rfl (hK.2.2.2.1 _ (by simp [q_xw]))) (by rw [a1]; exact hce) hcv hcl (by
              refine lv_astore C.1 C.2.1 d2 hlo1 (by rw [d1]; decide) rfl (fun ls' _ => ?_)
              exact fin 15 ls' d3 d4)
          obtain ⟨t2, a9, b9⟩ := KX T' rfl X'
          exact ⟨t2, st9.trans a9, b9⟩
        · have nb : Nat.blt c 301 = false := by
            cases hb : Nat.blt c 301 with
            | false => rfl
            | true =>
              have := Nat.le_of_ble_eq_true hb
              omega
          have epc : pc = 4 := by
            unfold zpH at e1
            rw [nb] at e1
            simp only [cond_false] at e1
            omega
          have ehh : q_hh c = [(0, 9, 12, 13)] := by unfold q_hh; rw [nb]; rfl
          rw [ehh] at htab
          have KX : vx_W p l e (q_rm (D + 1) 1 6) s m (as.map (zv ad)).toArray below meth cd T'.heap (locs1 ++ L9) (0 + 1) (0 + 6) (MQ below (zQ (l, dC, dI, dA, Hb, ad) κ) (as.map (zv ad)).toArray s 1 6 (fun q => Hb.size ≤ q)) (F0 m pc ls1 (rs.map (zv ad))) q9 :=
            vx_catch (name := q_nse) hown [] { startPc := 0, endPc := 9, handlerPc := 12, catchType := 13 } [] htab (fun z hz => nomatch hz) (by rw [epc]; rfl) (by decide) (hlink _ rfl) (va_Nw.use rfl (hK.2.2.2.1 _ (by simp [q_xw]))) (by rw [a1]; exact hce) hcv hcl (by
              refine lv_astore_n C.1 C.2.1 d2 rfl hlo1 (by rw [d1]; decide) rfl (fun ls' _ => ?_)
              exact fin 13 ls' d3 d4)
          obtain ⟨t2, a9, b9⟩ := KX T' rfl X'
          exact ⟨t2, st9.trans a9, b9⟩
    · cases hq0
end
-- a9.start.lean.txt
section
/-! The law's start: what its words give. -/
theorem t_xw : q_xw.all (fun w => decide (w ∈ lw_tbl)) = true := by decide +kernel
theorem t_xs : q_xs.all (fun q => decide (Cond.stringRef "SkirtsByTheDay" q.1 q.2 ∈ lw_tbl)) = true := by decide +kernel
theorem t_xe : q_xs.all (fun q => decide (Cond.exactly (.string "SkirtsByTheDay" q.1) "java/lang/String" ∈ flatC (Jvm.Cond.and given_1 narrow_1))) = true := by decide +kernel
theorem t_u1 : Cond.laysStatic Bundle.tN "UNASSIGNED_STACK" Bundle.steD ∈ lw_tbl := List.mem_of_getElem? (i := 1236) (by decide +kernel)
theorem t_u2 : Cond.laysStatic Bundle.tN "SUPPRESSED_SENTINEL" Bundle.listD ∈ lw_tbl := List.mem_of_getElem? (i := 1238) (by decide +kernel)
theorem t_u3 : Cond.initialized Bundle.tN ∈ lw_tbl := List.mem_of_getElem? (i := 82) (by decide +kernel)
theorem t_u4 : Cond.isRef (.static Bundle.tN "UNASSIGNED_STACK" Bundle.steD) ∈ flatC (Jvm.Cond.and given_1 narrow_1) := by decide +kernel
theorem t_u5 : Cond.isRef (.static Bundle.tN "SUPPRESSED_SENTINEL" Bundle.listD) ∈ flatC (Jvm.Cond.and given_1 narrow_1) := by decide +kernel
theorem t_arr {args : Array Value} {s : State} {ty : FieldType} (h : (Cond.arrayClass ty).before args s = true) : ∃ cA : ClassId, ArrOfT s cA ty ∧ s.vm.findClass ("[" ++ ty.toString) = some cA := by
  obtain ⟨c, k, comp, h1, h2, h3⟩ := Cond.arrayClass_spec h
  exact ⟨c, fun n z => ⟨fun k h => (by cases h), k, h2, comp, h3⟩, h1⟩
theorem t_arr2 {s : State} (h : va_AOA .int s) : ∃ cA : ClassId, ArrOfT s cA (.array .int) ∧ s.vm.findClass ("[" ++ (FieldType.array .int).toString) = some cA := by
  obtain ⟨comp, c, k, h1, h2, h3, h4, h5⟩ := q_aoS h
  exact ⟨c, fun n z => ⟨fun k h => (by cases h), k, h3, comp, h4⟩, h5⟩
theorem t_init {args : Array Value} {s : State} (hts : ∀ w ∈ lw_tbl, w.before args s = true) (hgv : (Jvm.Cond.and given_1 narrow_1).before args s = true) {b L : Nat} {xs : Nat → Int32} (hX : va_X b L xs s s.heap) : ∃ (dC : Nat → ClassId) (dI : Nat → Nat → Nat) (dA : FieldType → ClassId), q_K dC dI dA s.heap s ∧ dA .short = b := by
  have htb : ∀ w ∈ tb, w.before args s = true := fun w hw => hts w (List.mem_filter.mp hw).1
  have hfl := flat_of_before _ hgv
  have hcl : ∀ ci : Nat, ∃ pr : ClassId × (Nat → Nat), ∀ q, vwCl[ci]? = some q → u_Kn s q.1 q.2.1 q.2.2 pr.1 pr.2 := by
    intro ci
    cases hq : vwCl[ci]? with
    | none => exact ⟨(0, fun _ => 0), fun q h => by cases h⟩
    | some q =>
      obtain ⟨k1, k2, k3, k4, k5, k6⟩ := q_clsA ci q hq
      obtain ⟨cC, iS, hk⟩ := u_known htb k1 (htb _ k4)
      exact ⟨(cC, iS), fun q' h => by cases h; exact hk⟩
  have hao : va_AOA .int s := hts _ (List.mem_of_getElem? q_ao)
  obtain ⟨cI, i1, i2⟩ := t_arr (htb _ q_ac_int)
  obtain ⟨cB, b1, b2⟩ := t_arr (htb _ q_ac_byte)
  obtain ⟨cZ, z1, z2⟩ := t_arr (htb _ q_ac_boolean)
  obtain ⟨cC, c1, c2⟩ := t_arr (htb _ q_ac_char)
  obtain ⟨cJ, j1, j2⟩ := t_arr (htb _ q_ac_long)
  obtain ⟨cA, a1, a2⟩ := t_arr2 hao
  refine ⟨fun ci => (Classical.choose (hcl ci)).1, fun ci => (Classical.choose (hcl ci)).2, fun ty => match ty with
    | .int => cI
    | .byte => cB
    | .boolean => cZ
    | .char => cC
    | .long => cJ
    | .short => b
    | _ => cA, ⟨⟨fun ci q hq => Classical.choose_spec (hcl ci) q hq, fun k q hk => ?_⟩, fun w hw => ?_, ⟨hao, fun scr hs => ?_⟩, fun w hw => ?_, fun q hq => ?_, ?_, ?_⟩, rfl⟩
  · rcases k with _ | _ | _ | _ | _ | _ | k
    · cases hk; exact ⟨i1, i2⟩
    · cases hk; exact ⟨b1, b2⟩
    · cases hk; exact ⟨z1, z2⟩
    · cases hk; exact ⟨c1, c2⟩
    · cases hk; exact ⟨j1, j2⟩
    · cases hk; exact ⟨a1, a2⟩
    · cases hk
  · exact va_Nw.of (by have h2 := (List.mem_filter.mp hw).2; cases w <;> simp at h2; rfl) (hts w (List.mem_filter.mp hw).1)
  · obtain ⟨sc, x1, x2, -⟩ := hX
    have hs : s.heap[b]? = some scr := hs
    rw [x1] at hs
    cases hs
    exact x2
  · exact va_Nw.of (q_xwT hw) (hts w (of_decide_eq_true (List.all_eq_true.mp t_xw w hw)))
  · obtain ⟨a, c, cell, k, h1, -⟩ := Cond.exactly_spec (hfl _ (of_decide_eq_true (List.all_eq_true.mp t_xe q hq)))
    exact ⟨a, vk_R.of (hts _ (of_decide_eq_true (List.all_eq_true.mp t_xs q hq))) h1⟩
  · exact vx_Zqof (hts _ t_u1) (hts _ t_u3) (hfl _ t_u4) (fun a ha h => absurd ha (Nat.not_lt.mpr h))
  · exact vx_Zqof (hts _ t_u2) (hts _ t_u3) (hfl _ t_u5) (fun a ha h => absurd ha (Nat.not_lt.mpr h))
end
-- b0.zstart.lean.txt
section
/-! The law's start: the first table. -/
noncomputable def zini (c j : Nat) : Int := bif Nat.beq c 46 then -1 else bif Nat.beq c 24 || Nat.beq c 79 then (bif Nat.beq j 0 then 3 else bif Nat.beq j 1 then 2 else bif Nat.beq j 2 then 1 else 0) else 0
noncomputable def zm0 (L : Int) (xs : Nat → Int) (G : Nat → Nat → Int) : zM := fun c j => bif Nat.beq c 0 then xs j else bif Nat.beq c 110 then (bif Nat.beq j 0 then L else 0) else match zkd c with
  | some (.inr (.inl _)) => G c j
  | _ => zini c j
noncomputable def zone (w : sW) (v : Int) : Bool := match w with
  | .inl f => s_nil f.1 && s_ie f.2 v
  | _ => false
noncomputable def zpat (ws : List sW) (c n : Nat) : Bool := match ws with
  | [] => false
  | [w] => zone w (zini c 0) && (!(Nat.beq c 24) && !(Nat.beq c 79))
  | ws => Nat.beq ws.length n && (List.range n).all (fun j => match ws[j]? with
    | some w => zone w (zini c j)
    | none => false)
noncomputable def zty : FieldType → FieldType → Bool
  | .int, .int => true
  | .byte, .byte => true
  | .boolean, .boolean => true
  | .char, .char => true
  | _, _ => false
noncomputable def zsame : List (Option Nat) → List Nat → Bool
  | [], [] => true
  | some a :: r, b :: q => Nat.beq a b && zsame r q
  | _, _ => false
noncomputable def zfa (a : sA) (c k : Nat) : Bool := bif Nat.beq (z_fk c k) 0 then (match a with
  | .inl f => s_nil f.1 && s_ie f.2 (zini c k)
  | _ => false) else bif Nat.beq (z_fk c k) 999 then (match a with
  | .inr (.inl none) => s_ie (zini c k) 0
  | _ => false) else (match a with
  | .inr (.inl (some q)) => Nat.beq q (z_fk c k)
  | _ => false)
noncomputable def zkc (o : Option sC) (c : Nat) (κ : zK) : Bool := match κ with
  | .inl (ty, n) => (match o with
    | some (.inl ro) => zty ro.1 ty && (s_nil ro.2.1.1 && (s_ie ro.2.1.2 (n : Int) && zpat ro.2.2.1 c n))
    | _ => false)
  | .inr (.inl n) => (match o with
    | some (.inr (.inl n2)) => Nat.beq n2 n
    | _ => false)
  | .inr (.inr (.inl cs)) => (match o with
    | some (.inr (.inr (.inl (n, ds)))) => Nat.beq n cs.length && zsame ds cs
    | _ => false)
  | .inr (.inr (.inr ci)) => (match o with
    | some (.inr (.inr (.inr (ci2, fs)))) => Nat.beq ci2 ci && ((match vwCl[ci2]? with
      | some q => Nat.beq q.2.2 fs.length
      | none => false) && (List.range fs.length).all (fun k => match fs[k]? with
        | some a => zfa a c k
        | none => false))
    | _ => false)
noncomputable def zlo (lo : sL) : Bool := (match s_lget lo 0 with
  | some (.inr (.inl (some q))) => Nat.beq q 0
  | _ => false) && ((match s_lget lo 1 with
  | some (.inr (.inl (some q))) => Nat.beq q 1
  | _ => false) && ((match s_lget lo 2 with
  | some (.inr (.inl (some q))) => Nat.beq q 74
  | _ => false) && ((match s_lget lo 3 with
  | some (.inr (.inl (some q))) => Nat.beq q 109
  | _ => false) && (match s_lget lo 4 with
  | some (.inl f) => s_nil f.1 && s_ie f.2 0
  | _ => false))))
noncomputable def t_dp : sF := s_num (400)
noncomputable def t_f0 : sG := (0, [(0, .inr (.inl (some 0)))], [], (true, [(0, 2560)], [], []), [(0, .inl (.int, s_nm 0, [.inr ((-2147483648, 2147483647), none)], [], []))])
noncomputable def t_r0 : Option sZ := s_run (s_X (fun _ => []) 8) t_dp 303 (fun f => Nat.beq f.1 23) 200 t_f0
noncomputable def t_chk (z : Option sZ) : Bool := match z with
  | some (c, s, [(e, _, S)]) => Nat.ble c 1000 && (Nat.ble s 100000 && (Nat.beq e 2 && (Nat.beq S.1 23 && (zlo S.2.1 && (s_nil S.2.2.1 && (List.range 110).all (fun c => Nat.beq c 0 || (match zkd c with
    | none => true
    | some κ => zkc (s_hget S.2.2.2.2 c) c κ)))))))
  | _ => false
theorem t_c0 : t_chk t_r0 = true := by decide +kernel
theorem zkd_lt {c : Nat} {κ : zK} (h : zkd c = some κ) : c < 110 := by
  have e : zkd c = bif Nat.blt c 110 then zkd c else none := by
    cases hb : Nat.blt c 110 with
    | true => rfl
    | false =>
      unfold zkd
      rw [hb]
      rfl
  cases hb : Nat.blt c 110 with
  | true => exact q_blt hb
  | false =>
    rw [hb] at e
    rw [e] at h
    cases h
theorem zoneS {rs : List Int} {w : sW} {v : Int} {x : Int32} (h : zone w v = true) (hw : q_W rs w x) : x.toInt = v := by
  unfold zone at h
  split at h
  · rename_i f
    rw [Bool.and_eq_true] at h
    have e1 := s_nilS h.1
    have e2 := s_ie_iff.mp h.2
    have hw : s_val rs f = some x.toInt := hw
    have e3 : f = s_num v := by
      rw [show f = (f.1, f.2) from rfl, e1, e2]
      rfl
    rw [e3, s_numS] at hw
    exact (Option.some.inj hw).symm
  · cases h
theorem zini_c {c j : Nat} (h : (!(Nat.beq c 24) && !(Nat.beq c 79)) = true) : zini c j = zini c 0 := by
  rw [Bool.and_eq_true, Bool.not_eq_true', Bool.not_eq_true'] at h
  unfold zini
  rw [h.1, h.2]
  rfl
theorem zpatS {rs : List Int} {ws : List sW} {c n : Nat} {g : Nat → Int32} (h : zpat ws c n = true) (hw : ∀ j, j < n → ∃ w, ws[j % ws.length]? = some w ∧ q_W rs w (g j)) : ∀ j, j < n → (g j).toInt = zini c j := by
  intro j hj
  obtain ⟨w, h1, h2⟩ := hw j hj
  unfold zpat at h
  split at h
  · cases h
  · rename_i w0
    rw [Bool.and_eq_true] at h
    rw [List.length_singleton, Nat.mod_one] at h1
    cases h1
    rw [zini_c h.2]
    exact zoneS h.1 h2
  · rw [Bool.and_eq_true] at h
    have e := Nat.eq_of_beq_eq_true h.1
    rw [e, Nat.mod_eq_of_lt hj] at h1
    have h3 := List.all_eq_true.mp h.2 j (List.mem_range.mpr hj)
    rw [h1] at h3
    exact zoneS h3 h2
theorem ztyS {a b : FieldType} (h : zty a b = true) : a = b ∧ (b = .int ∨ b = .byte ∨ b = .boolean ∨ b = .char) := by
  unfold zty at h
  split at h
  · exact ⟨rfl, Or.inl rfl⟩
  · exact ⟨rfl, Or.inr (Or.inl rfl)⟩
  · exact ⟨rfl, Or.inr (Or.inr (Or.inl rfl))⟩
  · exact ⟨rfl, Or.inr (Or.inr (Or.inr rfl))⟩
  · cases h
theorem zsameS : ∀ {ds : List (Option Nat)} {cs : List Nat}, zsame ds cs = true → ∀ (j d : Nat), cs[j]? = some d → ds[j]? = some (some d)
  | [], [], _, j, d, h => by simp at h
  | some a :: r, b :: q, h, j, d, hd => by
    unfold zsame at h
    rw [Bool.and_eq_true] at h
    have e := Nat.eq_of_beq_eq_true h.1
    cases j with
    | zero =>
      have : b = d := Option.some.inj hd
      rw [← this, e]
      rfl
    | succ j => exact zsameS (ds := r) (cs := q) h.2 j d hd
  | none :: _, [], h, _, _, _ => by cases h
  | none :: _, _ :: _, h, _, _, _ => by cases h
  | some _ :: _, [], h, _, _, _ => by cases h
  | [], _ :: _, h, _, _, _ => by cases h
theorem vp_congr {cA : ClassId} {n : Nat} {f g : Nat → Int32} (h : ∀ j, j < n → f j = g j) : vp_cell cA (n, .inl f) = vp_cell cA (n, .inl g) := by
  show arrV cA n (fun j => .int (f j)) = arrV cA n (fun j => .int (g j))
  unfold arrV
  have e : (Array.ofFn (n := n) fun j => Value.int (f j.val)) = Array.ofFn (n := n) fun j => Value.int (g j.val) := by
    congr 1
    funext j
    rw [h j.val j.isLt]
  rw [e]
theorem q_LgetZ {rs : List Int} {ad : Nat → Nat} : ∀ {as : List sA} {vs : List Value} {k : Nat} {a : sA}, q_L rs ad as vs → as[k]? = some a → ∃ v, vs[k]? = some v ∧ q_A rs ad a v
  | [], vs, k, a, h, hk => by simp at hk
  | b :: as, vs, k, a, h, hk => by
    obtain ⟨v, vs', rfl, h1, h2⟩ := h
    cases k with
    | zero =>
      cases hk
      exact ⟨v, rfl, h1⟩
    | succ k =>
      obtain ⟨w, w1, w2⟩ := q_LgetZ (as := as) (vs := vs') (k := k) h2 hk
      exact ⟨w, w1, w2⟩
/-- a cell as the check has it -/
theorem zkcS {dC : Nat → ClassId} {dI : Nat → Nat → Nat} {dA : FieldType → ClassId} {rs : List Int} {ad : Nat → Nat} {b0 c : Nat} {H : Heap} {sc : sC} {κ : zK} {m : zM} (h : zkc (some sc) c κ = true) (hC : q_C dC dI dA rs ad b0 (ad c) H sc) (hb : b0 ≤ ad c) (hm : (∀ n, κ ≠ .inr (.inl n)) → m c = zini c) (hl : ∀ n, κ = .inr (.inl n) → ∀ g : Nat → Int64, H[ad c]? = some (vp_cell (dA .long) (n, .inr (.inl g))) → H[ad c]? = some (vp_cell (dA .long) (n, .inr (.inl (fun j => Int64.ofInt (m c j)))))) : zC dC dI dA ad m H c κ := by
  unfold zkc at h
  split at h
  · rename_i ty n
    have hm2 := hm (fun n e => by cases e)
    split at h
    · rename_i ro heq
      cases heq
      rw [Bool.and_eq_true, Bool.and_eq_true, Bool.and_eq_true] at h
      obtain ⟨h1, h2, h3, h4⟩ := h
      obtain ⟨n2, g, k1, k2, k3, k4⟩ := hC
      obtain ⟨e1, e2⟩ := ztyS h1
      have e3 := s_nilS h2
      have e4 := s_ie_iff.mp h3
      have hn : n2 = n := by
        have h9 := k2.1
        rw [show ro.2.1 = s_num (n : Int) by rw [show ro.2.1 = (ro.2.1.1, ro.2.1.2) from rfl, e3, e4]; rfl, s_numS] at h9
        have := Option.some.inj h9
        omega
      subst hn
      have hv := zpatS h4 k2.2.2.1
      have hcell := k1.cl (Or.inl h2)
      refine ⟨?_, e2⟩
      rw [hcell, e1]
      refine congrArg some (vp_congr (fun j hj => ?_))
      rw [hm2, ← hv j hj, z_ofN]
    · cases h
  · rename_i n
    split at h
    · rename_i n2 heq
      cases heq
      have e := Nat.eq_of_beq_eq_true h
      subst e
      obtain ⟨-, g, hg⟩ := hC
      exact hl _ rfl g hg
    · cases h
  · rename_i cs
    split at h
    · rename_i n ds heq
      cases heq
      rw [Bool.and_eq_true] at h
      have e := Nat.eq_of_beq_eq_true h.1
      subst e
      obtain ⟨g, g1, g2⟩ := hC
      exact ⟨g, g1, fun j d hd => g2 j (some d) (zsameS h.2 j d hd)⟩
    · cases h
  · rename_i ci
    have hm2 := hm (fun n e => by cases e)
    split at h
    · rename_i ci2 fs heq
      cases heq
      rw [Bool.and_eq_true, Bool.and_eq_true] at h
      obtain ⟨h1, h2, h3⟩ := h
      have e := Nat.eq_of_beq_eq_true h1
      subst e
      obtain ⟨-, vs, q, q1, q2, q3⟩ := hC
      rw [q2] at h2
      have e2 := Nat.eq_of_beq_eq_true h2
      refine ⟨q, q2, q3.to (fun k hk => ?_)⟩
      have h4 := List.all_eq_true.mp h3 k (List.mem_range.mpr (by omega))
      split at h4
      · rename_i a ha
        obtain ⟨v, v1, v2⟩ := q_LgetZ q1 ha
        have eL : vp_V vs k = v := by
          show vs.getD k .null = v
          rw [List.getD_eq_getElem?_getD, v1]
          rfl
        have eR : vp_V ((List.range q.2.2).map (fun k => zv ad (z_fv m c k))) k = zv ad (z_fv m c k) := by
          show ((List.range q.2.2).map (fun k => zv ad (z_fv m c k))).getD k .null = _
          rw [List.getD_eq_getElem?_getD, List.getElem?_map, List.getElem?_range hk]
          rfl
        rw [eL, eR]
        unfold zfa at h4
        unfold z_fv
        rw [hm2]
        cases b1 : Nat.beq (z_fk c k) 0 with
        | true =>
          rw [b1] at h4
          simp only [cond_true] at h4 ⊢
          split at h4
          · rename_i f
            rw [Bool.and_eq_true] at h4
            obtain ⟨y, rfl, hy⟩ := v2
            have e3 : f = s_num (zini c k) := by
              rw [show f = (f.1, f.2) from rfl, s_nilS h4.1, s_ie_iff.mp h4.2]
              rfl
            rw [e3, s_numS] at hy
            show Value.int y = Value.int (Int32.ofInt (zini c k))
            rw [Option.some.inj hy, z_ofN]
          · cases h4
        | false =>
          rw [b1] at h4
          simp only [cond_false] at h4 ⊢
          cases b2 : Nat.beq (z_fk c k) 999 with
          | true =>
            rw [b2] at h4
            simp only [cond_true] at h4 ⊢
            split at h4
            · rw [s_ie_iff.mp h4]
              exact v2
            · cases h4
          | false =>
            rw [b2] at h4
            simp only [cond_false] at h4 ⊢
            split at h4
            · rename_i q9
              have e5 := Nat.eq_of_beq_eq_true h4
              subst e5
              exact v2
            · cases h4
      · cases h4
    · cases h
noncomputable def zok (o : Option (Int × Int)) : Prop := ∀ q, o = some q → q.1 ≤ 0 ∧ 0 ≤ q.2
theorem zok_bif {x : Bool} {a b : Option (Int × Int)} (h1 : zok a) (h2 : zok b) : zok (bif x then a else b) := by
  cases x
  · exact h2
  · exact h1
theorem zok_none : zok none := fun q h => nomatch h
theorem zok_some {l h : Int} (e : l ≤ 0 ∧ 0 ≤ h) : zok (some (l, h)) := fun q h => by
  cases h
  exact e
theorem zok75 (j : Nat) : zok (zb75 j) := by
  unfold zb75
  repeat' first
    | exact zok_none
    | exact zok_some (by decide)
    | refine zok_bif ?_ ?_
theorem zokMm (j : Nat) : zok (zbMm j) := by
  unfold zbMm
  repeat' first
    | exact zok_none
    | exact zok_some (by decide)
    | refine zok_bif ?_ ?_
theorem zbt0 (c j : Nat) : zok (zbt c j) := by
  unfold zbt
  repeat' first
    | exact zok_none
    | exact zok_some (by decide)
    | exact zok75 _
    | exact zokMm _
    | refine zok_bif ?_ ?_
theorem zini0 {c j : Nat} (h1 : c ≠ 46) (h2 : c ≠ 24) (h3 : c ≠ 79) : zini c j = 0 := by
  unfold zini
  rw [q_beqF h1, q_beqF h2, q_beqF h3]
  rfl
noncomputable def zi3 (j : Nat) : Int := bif Nat.beq j 0 then 3 else bif Nat.beq j 1 then 2 else bif Nat.beq j 2 then 1 else 0
theorem zi3B (j : Nat) : 0 ≤ zi3 j ∧ zi3 j ≤ 9 := by
  unfold zi3
  cases Nat.beq j 0 <;> cases Nat.beq j 1 <;> cases Nat.beq j 2 <;> (constructor <;> simp only [cond_true, cond_false] <;> omega)
theorem zini_b (c j : Nat) : zbd c j (zini c j) := by
  by_cases h1 : c = 46
  · subst h1
    trivial
  · by_cases h2 : c = 24
    · subst h2
      exact zi3B j
    · by_cases h3 : c = 79
      · subst h3
        exact zi3B j
      · rw [zini0 h1 h2 h3]
        have := zbt0 c j
        unfold zbd
        cases e : zbt c j with
        | none => trivial
        | some q => exact this q e
theorem zlrc : (List.range 110).all (fun c => match zkd c with
  | some (.inr (.inl _)) => Nat.beq c 93 || Nat.beq c 109
  | _ => true) = true := by decide +kernel
theorem zlr {c n : Nat} (h : zkd c = some (.inr (.inl n))) : c = 93 ∨ c = 109 := by
  have h1 := List.all_eq_true.mp zlrc c (List.mem_range.mpr (zkd_lt h))
  rw [h] at h1
  have h1 : (Nat.beq c 93 || Nat.beq c 109) = true := h1
  rw [Bool.or_eq_true] at h1
  rcases h1 with h1 | h1
  · exact Or.inl (Nat.eq_of_beq_eq_true h1)
  · exact Or.inr (Nat.eq_of_beq_eq_true h1)
section ZStart
variable {L : Int} {xs : Nat → Int} {G : Nat → Nat → Int}
theorem zm0_i {c j : Nat} (h0 : c ≠ 0) (h1 : c ≠ 110) (h2 : ∀ n, zkd c ≠ some (.inr (.inl n))) : zm0 L xs G c j = zini c j := by
  unfold zm0
  rw [q_beqF h0, q_beqF h1]
  simp only [cond_false]
theorem zm0_l {c n j : Nat} (h : zkd c = some (.inr (.inl n))) : zm0 L xs G c j = G c j := by
  have h2 := zlr h
  unfold zm0
  rw [q_beqF (show c ≠ 0 by omega), q_beqF (show c ≠ 110 by omega)]
  simp only [cond_false]
  rw [h]
theorem zm0_b : zB (zm0 L xs G) := by
  intro c j
  by_cases h0 : c = 0
  · subst h0
    trivial
  · by_cases h1 : c = 110
    · subst h1
      trivial
    · by_cases h2 : ∃ n, zkd c = some (.inr (.inl n))
      · obtain ⟨n, h2⟩ := h2
        rcases zlr h2 with rfl | rfl
        · trivial
        · trivial
      · rw [zm0_i h0 h1 (fun n e => h2 ⟨n, e⟩)]
        exact zini_b c j
theorem zm0_inv : Inv 0 (xs, L) 0 0 (zm0 L xs G) := by
  refine ⟨zm0_b, ⟨rfl, fun j hj => ?_⟩, ⟨⟨fun p hp => ?_, fun k hk => absurd hk (Nat.not_lt_zero k)⟩, ⟨rfl, fun p hp => ?_⟩, Or.inl ⟨(by show (0 : Int) < 1; decide), rfl⟩⟩, ⟨⟨rfl, rfl⟩, ⟨rfl, rfl⟩, fun p hp => absurd hp (Nat.not_lt_zero p), ⟨fun p hp => absurd hp (Nat.not_lt_zero p), fun p hp => absurd hp (Nat.not_lt_zero p), rfl, fun i hi => ?_, rfl, rfl⟩, fun p hp => absurd hp (Nat.not_lt_zero p), ⟨(by show (0 : Int) ≤ 0; decide), (by show (0 : Int) ≤ 20; decide)⟩, (by show (0 : Int) ≤ 0; decide), fun p hp => absurd hp (Nat.not_lt_zero p)⟩, fun j hj => rfl, ⟨rfl, fun i hi => ?_⟩, ⟨⟨(by show (0 : Int) ≤ 0; decide), (by show (0 : Int) ≤ 0; decide)⟩, fun i hi => Or.inl ⟨?_, rfl⟩⟩, ⟨rfl, fun i hi => ?_⟩, ⟨rfl, fun i hi => ?_⟩, (by show (0 : Int) ≤ 0; decide), rfl, rfl, fun j _ => rfl⟩
  · have hj : (j : Int) < 0 := hj
    omega
  · have hp : (p : Int) < 0 := hp
    omega
  · have hp : (p : Int) < 0 := hp
    omega
  · have hi : (i : Int) < 0 := hi
    omega
  · have hi : (i : Int) < 0 := hi
    omega
  · rfl
  · have hi : (i : Int) < 0 := hi
    omega
  · have hi : (i : Int) < 0 := hi
    omega
end ZStart
noncomputable def lo0 (i : Int) : zL := [(0, zr 0), (1, zr 1), (2, zr 74), (3, zr 109), (4, zi i)]
noncomputable def t_ad (b z : Nat) : Nat → Nat
  | 0 => b
  | k + 1 => z + k
set_option maxHeartbeats 4000000 in
theorem zF_start {dC : Nat → ClassId} {dI : Nat → Nat → Nat} {dA : FieldType → ClassId} {Hb H0 H : Heap} {b L n : Nat} {xs : Nat → Int32} {rs : List Int} {ls : Array Slot} {vs : List Value} {locs : List Loc} {S : sG} (hsh : dA .short = b) (hb : b < Hb.size) (hX : ∃ scr : Cell, Hb[b]? = some scr ∧ scr.vm ≠ .unknown ∧ scr.slots.size = L ∧ ∀ j : Nat, j < L → scr.slots[j]? = some (.int (xs j))) (hlo : zlo S.2.1 = true) (hst : s_nil S.2.2.1 = true) (hh : (List.range 110).all (fun c => Nat.beq c 0 || (match zkd c with
    | none => true
    | some κ => zkc (s_hget S.2.2.2.2 c) c κ)) = true) (F : q_Fr dC dI dA rs (t_ad b Hb.size) Hb H0 n S ls vs H locs) : ∃ G, zF dC dI dA Hb (t_ad b Hb.size) n (23, lo0 0, [], zm0 (L : Int) (fun j => (xs j).toInt) G) ls vs H locs := by
  obtain ⟨f1, f2, f3, ⟨g1, g2, ⟨g3, g3'⟩, g4, g5, g6, g7⟩, f5⟩ := F
  have hch : ∀ c : Nat, ∃ g : Nat → Int, ∀ (n : Nat) (g9 : Nat → Int64), zkd c = some (.inr (.inl n)) → H[t_ad b Hb.size c]? = some (vp_cell (dA .long) (n, .inr (.inl g9))) → H[t_ad b Hb.size c]? = some (vp_cell (dA .long) (n, .inr (.inl (fun j => Int64.ofInt (g j))))) := by
    intro c
    by_cases hex : ∃ (n : Nat) (g9 : Nat → Int64), zkd c = some (.inr (.inl n)) ∧ H[t_ad b Hb.size c]? = some (vp_cell (dA .long) (n, .inr (.inl g9)))
    · obtain ⟨n, g9, e1, e2⟩ := hex
      refine ⟨fun j => (g9 j).toInt, fun n2 g8 q1 _ => ?_⟩
      have en : n = n2 := by
        rw [e1] at q1
        cases q1
        rfl
      subst en
      have eg : (fun j => Int64.ofInt (g9 j).toInt) = g9 := funext fun j => Int64.ofInt_toInt _
      rw [eg]
      exact e2
    · exact ⟨fun _ => 0, fun n g9 q1 q2 => absurd ⟨n, g9, q1, q2⟩ hex⟩
  have ref : ∀ (i q : Nat), s_lget S.2.1 i = some (.inr (.inl (some q))) → ls[i]? = some (.val (zv (t_ad b Hb.size) (zr q))) := fun i q e => by
    obtain ⟨v, h1, h2⟩ := f1.get e
    have h2 : v = q_rf (t_ad b Hb.size) (some q) := h2
    rw [h1, h2]
    rfl
  unfold zlo at hlo
  rw [Bool.and_eq_true, Bool.and_eq_true, Bool.and_eq_true, Bool.and_eq_true] at hlo
  obtain ⟨h0, h1, h2, h3, h4⟩ := hlo
  have L0 : ls[0]? = some (.val (zv (t_ad b Hb.size) (zr 0))) := by
    split at h0
    · rename_i q e
      exact ref 0 0 (by rw [e, Nat.eq_of_beq_eq_true h0])
    · cases h0
  have L1 : ls[1]? = some (.val (zv (t_ad b Hb.size) (zr 1))) := by
    split at h1
    · rename_i q e
      exact ref 1 1 (by rw [e, Nat.eq_of_beq_eq_true h1])
    · cases h1
  have L2 : ls[2]? = some (.val (zv (t_ad b Hb.size) (zr 74))) := by
    split at h2
    · rename_i q e
      exact ref 2 74 (by rw [e, Nat.eq_of_beq_eq_true h2])
    · cases h2
  have L3 : ls[3]? = some (.val (zv (t_ad b Hb.size) (zr 109))) := by
    split at h3
    · rename_i q e
      exact ref 3 109 (by rw [e, Nat.eq_of_beq_eq_true h3])
    · cases h3
  have L4 : ls[4]? = some (.val (zv (t_ad b Hb.size) (zi 0))) := by
    split at h4
    · rename_i f e
      rw [Bool.and_eq_true] at h4
      obtain ⟨v, k1, y, rfl, hy⟩ := f1.get e
      have e3 : f = s_num 0 := by
        rw [show f = (f.1, f.2) from rfl, s_nilS h4.1, s_ie_iff.mp h4.2]
        rfl
      rw [e3, s_numS] at hy
      rw [k1]
      show some (Slot.val (Value.int y)) = some (Slot.val (Value.int (Int32.ofInt 0)))
      rw [Option.some.inj hy, z_ofN]
    · cases h4
  refine ⟨fun c => Classical.choose (hch c), ⟨f1.1, f1.2.1, fun q hq => ?_⟩, ?_, ⟨g1, g3', ⟨⟨hsh.symm, hb⟩, ?_⟩, fun c κ hc0 hc => ?_, fun c d _ _ e => ?_⟩, f5⟩
  · have hq : q ∈ [(0, zv (t_ad b Hb.size) (zr 0)), (1, zv (t_ad b Hb.size) (zr 1)), (2, zv (t_ad b Hb.size) (zr 74)), (3, zv (t_ad b Hb.size) (zr 109)), (4, zv (t_ad b Hb.size) (zi 0))] := hq
    rcases List.mem_cons.mp hq with rfl | hq
    · exact L0
    rcases List.mem_cons.mp hq with rfl | hq
    · exact L1
    rcases List.mem_cons.mp hq with rfl | hq
    · exact L2
    rcases List.mem_cons.mp hq with rfl | hq
    · exact L3
    rcases List.mem_cons.mp hq with rfl | hq
    · exact L4
    · cases hq
  · rw [s_nilS hst] at f2
    exact f2
  · obtain ⟨scr, k1, k2, k3, k4⟩ := hX
    refine ⟨scr, (g1 b hb).trans k1, k2, ?_, fun j hj => ?_⟩
    · show ((scr.slots.size : Nat) : Int) = (L : Int)
      rw [k3]
    · rw [k4 j (by omega)]
      show some (Value.int (xs j)) = some (Value.int (Int32.ofInt (xs j).toInt))
      rw [z_ofN]
  · have hlt := zkd_lt hc
    have hbc : Hb.size ≤ t_ad b Hb.size c := by
      cases c with
      | zero => exact absurd rfl hc0
      | succ k =>
        show Hb.size ≤ Hb.size + k
        omega
    refine ⟨hbc, ?_⟩
    have hk := List.all_eq_true.mp hh c (List.mem_range.mpr hlt)
    rw [q_beqF hc0, hc] at hk
    have hk : zkc (s_hget S.2.2.2.2 c) c κ = true := hk
    cases e : s_hget S.2.2.2.2 c with
    | none =>
      rw [e] at hk
      rcases κ with ⟨ty, n⟩ | n | cs | ci <;> cases hk
    | some sc =>
      rw [e] at hk
      refine zkcS hk (g5 (c, sc) (s_hgetS e)) hbc (fun hn => ?_) (fun n en g9 hg => ?_)
      · funext j
        exact zm0_i (L := (L : Int)) (xs := fun j => (xs j).toInt) (G := fun c => Classical.choose (hch c)) hc0 (by omega) (fun n e9 => by
          rw [hc] at e9
          exact hn n (Option.some.inj e9))
      · have h9 := Classical.choose_spec (hch c) n g9 (by rw [hc, en]) hg
        have e9 : (fun j => Int64.ofInt (zm0 (L : Int) (fun j => (xs j).toInt) (fun c => Classical.choose (hch c)) c j)) = (fun j => Int64.ofInt (Classical.choose (hch c) j)) := funext fun j => by rw [zm0_l (by rw [hc, en])]
        rw [e9]
        exact h9
  · cases c with
    | zero =>
      cases d with
      | zero => rfl
      | succ k =>
        have e : b = Hb.size + k := e
        omega
    | succ k =>
      cases d with
      | zero =>
        have e : Hb.size + k = b := e
        omega
      | succ k2 =>
        have e : Hb.size + k = Hb.size + k2 := e
        omega
end
-- b1.zlaw.lean.txt
section
/-! The law's own rules. -/
noncomputable def zn (a : zA) : zA := match a with
  | .inl v => .inl (wr v)
  | a => a
theorem zn_v (ad : Nat → Nat) (a : zA) : zv ad (zn a) = zv ad a := by
  rcases a with v | o
  · show Value.int (Int32.ofInt (wr v)) = Value.int (Int32.ofInt v)
    rw [← wrE, z_ofN]
  · rfl
theorem zn_cat (a : zA) : z_cat (zn a) = z_cat a := by
  rcases a with v | o
  · rfl
  · rfl
theorem zn_args (ad : Nat → Nat) : ∀ (as : List zA) (i : Nat), z_lm ad (z_args i as) = z_lm ad (z_args i (as.map zn))
  | [], _ => rfl
  | a :: as, i => by
    have e := zn_args ad as
    rw [List.map_cons]
    unfold z_args
    unfold z_lm at e ⊢
    rw [List.map_cons, List.map_cons, e, zn_cat, zn_v]
theorem zT2_lo {x : zX} {D k pc : Nat} {lo lo2 : zL} {st : List zA} {mm : zM} {κ : Option zA → zM → Prop} (e : z_lm x.2.2.2.2.2 lo = z_lm x.2.2.2.2.2 lo2) (h : zTt2 x D k (pc, lo2, st, mm) κ) : zTt2 x D k (pc, lo, st, mm) κ := by
  refine ⟨fun hk p e1 s m args below meth c C hret hlocks htab hfl hsh ls vs H locs F => h.1 hk p e1 s m args below meth c C hret hlocks htab hfl hsh ls vs H locs ⟨?_, F.2⟩, fun hk p e1 s m args below meth c C hret hlocks ls vs H locs F => h.2 hk p e1 s m args below meth c C hret hlocks ls vs H locs ⟨?_, F.2⟩⟩
  · have := F.1
    dsimp only at this ⊢
    rw [e] at this
    exact this
  · have := F.1
    dsimp only at this ⊢
    rw [e] at this
    exact this
section ZCallH
variable {p : Program} {e : Env} {R : Room} {s : State} {m : MethodId} {args : Array Value} {below : List Frame} {meth : Method} {cd : Code} {cells slots : Nat} {Q : State → Prop} {x : zX} {κ : Option zA → zM → Prop} {D k pc nx c kc : Nat} {st as rs : List zA} {lo : zL} {mm : zM}
set_option maxHeartbeats 4000000 in
theorem z_callH (C : q_Ctx p R s m args meth cd x.2.1 x.2.2.1 x.2.2.2.1 x.2.2.2.2.1 k) (site : z_Site k pc nx c st as rs) (hcat : z_cats rs ≤ 8) (hh : q_HK c kc) (hI : zHI c = true) (hca : z_cats as ≤ mL c) (hfl : x.1.stackTraces = false) (hD : D + 2 + 8 ≤ R.frames) (hD2 : 80 * (D + 2) + 400 ≤ R.locals) (hcl : cells + 1 ≤ R.cells) (hsl : slots + 6 ≤ R.slots)
    (hB : z_blk [] c (fun _ => False) (zCallH x D κ c kc) (fun _ _ => False) (fun _ => False) 20 (0, z_args 0 as, [], mm)) (kk : ∀ r m1, κ r m1 → zW p x.1 e R s m args below meth cd (cells + 1) (slots + 6) Q x.2.1 x.2.2.1 x.2.2.2.1 x.2.2.2.2.1 x.2.2.2.2.2 k (nx, lo, r.toList ++ rs, m1)) : zW p x.1 e R s m args below meth cd cells slots Q x.2.1 x.2.2.1 x.2.2.2.1 x.2.2.2.2.1 x.2.2.2.2.2 k (pc, lo, st, mm) := by
  obtain ⟨l, dC, dI, dA, Hb, ad⟩ := x
  dsimp only at C hfl kk ⊢
  rintro ls vs H locs ⟨hlo, rfl, hH, hlc⟩
  show W p l e R s m args below meth cd H locs cells slots Q (F0 m pc ls (st.map (zv ad)))
  obtain ⟨hx, hb, hml, hown, hts, hK, hnm, hRf, hRl⟩ := C
  have hM := z_metH (x := (l, dC, dI, dA, Hb, ad)) hfl hh hI hca hH hB
  dsimp only at hM
  obtain ⟨hHh, hHD, hc1, hc2, hkc⟩ := hh
  obtain ⟨w1, w2, w3, w4, w5, w6, w7, w8, w9⟩ := q_HW hHh
  have hlo1 : ls.size = mL k := hlo.1
  have hroom : (q_rm (D + 1) 1 6).frames + 1 ≤ R.frames ∧ 8 + (mL c + 11) + (q_rm (D + 1) 1 6).locals ≤ R.locals := ⟨by show D + 1 + 8 + 1 ≤ R.frames; omega, q_key0 (by show 80 * (D + 1) + 480 ≤ R.locals; omega) _ w7⟩
  obtain ⟨xi, a2, a3, z, site⟩ := site
  have hnp : c_plain c = false := by
    have : c = 299 ∨ c = 300 ∨ c = 301 ∨ c = 302 := by omega
    rcases this with rfl | rfl | rfl | rfl <;> rfl
  rcases site with ⟨hi, ht⟩ | ⟨hi, ht, q, as', rfl, hq⟩
  · obtain ⟨en, hd⟩ := q_dec (n := 3) hi rfl
    have hc := (q_rowI hi).2.2.1
    simp only [c_I, q_beqF (show c ≠ 901 by omega), cond_false, nMth, q_bleF (show c < 304 by omega), Bool.false_or, Bool.and_eq_true] at hc
    have ea2 := Nat.eq_of_beq_eq_true hc.2
    obtain ⟨ws, rfl, rfl, g3⟩ := z_takeS ht
    refine q_callW (vx_runSW (hh := q_hh c) (bytes := mC c) (maxL := mL c) (ret := mR c) (n := mP c) (As := (ws.reverse ++ []).map (zv ad)) (rest := rs.map (zv ad)) ⟨hx, hb, hml, hown, hts⟩ hM
      ⟨⟨rfl, rfl, hroom.1, hroom.2, pay_in hts (q_goodH w1), List.mem_cons_self⟩, hts _ w1, hts _ w2, ⟨w4, w5⟩, fun sig hsig => by
        have h2 := w6
        rw [hsig] at h2
        exact (Option.some.inj h2).symm, hts _ (wAt_mem hc.1.1), hts _ (wAt_mem hc.1.2)⟩
      ⟨fun a U g mk q => ⟨q.1, q.2.1.calling, q.2.2⟩, fun U hU hW => ⟨rfl, hK.moved hW, hU⟩⟩ rfl ?_ hlo1 ?_ (lv_room (by rw [z_catsS]; exact hcat)) hd ⟨hcl, hsl⟩) hlc (fun v st2 t locs1 hq hl1 => ?_)
    · rw [List.length_map, List.append_nil, List.length_reverse, g3, ea2]
    · rw [List.append_nil, List.map_reverse, List.reverse_reverse, List.map_append]
    · obtain ⟨r, m1, hr, hκ, hh1⟩ := hq
      cases hr
      have en : nx = pc + 3 := en
      subst en
      refine kk r m1 hκ ls _ t.heap locs1 ⟨hlo, ?_, hh1, hl1⟩
      show (r.map (zv ad)).toList ++ rs.map (zv ad) = (r.toList ++ rs).map (zv ad)
      rw [List.map_append]
      cases r <;> rfl
  · have hc := (q_rowI hi).2.2.1
    simp only [c_I, nMth, q_bleF (show c < 304 by omega), Bool.false_or, Bool.and_eq_true] at hc
    have := hc.1.1.1.1.1
    rw [hnp] at this
    cases this
end ZCallH
/-- what a helper does -/
noncomputable def zLK (TL : Nat → zG → Prop) (t : Nat) (f : zG) : Option zA → zM → Prop := fun r m1 => (r = none → TL (t + 1) (f.1, f.2.1, zi 1 :: f.2.2.1, m1)) ∧ (∀ v : Int, r = some (.inl v) → -2147483648 ≤ v ∧ v ≤ 2147483647 → TL (t + 1) (f.1, f.2.1, zi 0 :: f.2.2.1, zu m1 109 0 (wr v)))
noncomputable def zLHlp (T : Nat → Nat → zG → (Option zA → zM → Prop) → Prop) (TL : Nat → zG → Prop) (t c : Nat) (as : List zA) (f : zG) : Prop := (∃ a b : Int, as = [zr 1, zi a, zi b, zr 109] ∧ ((c = 299 ∧ T 398 117 (0, [(0, zr 1), (1, zi (wr a)), (2, zi (wr b))], [], f.2.2.2) (zLK TL t f)) ∨ (c = 300 ∧ T 398 118 (0, [(0, zr 1), (1, zi (wr a)), (2, zi (wr b))], [], f.2.2.2) (zLK TL t f)))) ∨ (∃ a : Int, as = [zr 1, zi a, zr 109] ∧ ((c = 301 ∧ T 398 130 (0, [(0, zr 1), (1, zi (wr a))], [], f.2.2.2) (zLK TL t f)) ∨ (c = 302 ∧ T 398 162 (0, [(0, zr 1), (1, zi (wr a))], [], f.2.2.2) (zLK TL t f))))
noncomputable def zLCall (T : Nat → Nat → zG → (Option zA → zM → Prop) → Prop) (TL : Nat → zG → Prop) (t c : Nat) (as : List zA) (f : zG) : Prop := bif z_pl c && Nat.ble (z_cats as) (mL c) then T 399 c (0, z_args 0 (as.map zn), [], f.2.2.2) (fun r m1 => z_ans c r → TL t (f.1, f.2.1, r.toList ++ f.2.2.1, m1)) else (t + 1 ≤ 520 ∧ zLHlp T TL t c as f)
noncomputable def zLRules (T : Nat → Nat → zG → (Option zA → zM → Prop) → Prop) (TL : Nat → zG → Prop) (L : Int) (xs : Nat → Int) : Prop :=
  (∀ (n t : Nat) (g : zG), z_blk [] 303 (TL t) (zLCall T TL t) (fun r _ => r = some (zi 1)) (fun _ => False) n g → TL t g) ∧
  (∀ (ks : List Nat) (t pc : Nat) (lo : zL) (st : List zA) (m : zM), TL t (pc, z_keep ks lo, st, m) → TL t (pc, lo, st, m)) ∧
  (∀ (t : Nat) (g : zG), t + 1 ≤ 520 → TL (t + 1) g → TL t g) ∧
  (∀ (t pc : Nat) (lo : zL) (st : List zA) (m : zM), ((m 110 0 = L ∧ ∀ j : Nat, (j : Int) < L → wr (m 0 j) = xs j) → TL t (pc, lo, st, m)) → TL t (pc, lo, st, m))
noncomputable def zTL (x : zX) (p : Program) (e : Env) (R : Room) (s : State) (m : MethodId) (args : Array Value) (below : List Frame) (meth : Method) (c : Code) (Q : State → Prop) (t : Nat) (g : zG) : Prop := t ≤ 520 → ∀ cells slots : Nat, cells ≤ 1000 + t → slots ≤ 100000 + 6 * t → zW p x.1 e R s m args below meth c cells slots Q x.2.1 x.2.2.1 x.2.2.2.1 x.2.2.2.2.1 x.2.2.2.2.2 303 g
section ZLaw
variable {p : Program} {e : Env} {R : Room} {s : State} {m : MethodId} {args : Array Value} {below : List Frame} {meth : Method} {cd : Code} {Q : State → Prop} {x : zX}
theorem zh_298 {κ : Option zA → zM → Prop} {D : Nat} {mm : zM} {a b : Int} {κ1 : Option zA → zM → Prop} (hT : zTX2 x D 117 (0, z_args 0 [zr 1, zi a, zi b], [], mm) κ1) (h1 : ∀ v m1, κ1 (some (.inl v)) m1 → -2147483648 ≤ v ∧ v ≤ 2147483647 → κ (some (zi 0)) (zu m1 109 0 (wr v))) (h2 : ∀ m1, κ1 none m1 → κ (some (zi 1)) m1) : z_blk [] 299 (fun _ => False) (zCallH x D κ 299 117) (fun _ _ => False) (fun _ => False) 20 (0, z_args 0 [zr 1, zi a, zi b, zr 109], [], mm) := by
  have key : zCallH x D κ 299 117 117 [zr 1, zi a, zi b] (8, [(0, zr 1), (1, zi a), (2, zi b), (3, zr 109)], [zi 0, zr 109], mm) := by
    refine ⟨rfl, rfl, Nat.le_of_ble_eq_true rfl, κ1, hT, fun r m1 hr h => ?_, h2⟩
    have hr : ∃ v : Int, some r = some (.inl v) ∧ (-2147483648 ≤ v ∧ v ≤ 2147483647) := hr
    obtain ⟨v, hv, hB⟩ := hr
    cases hv
    exact ⟨z_ixL rfl, h1 v m1 h hB⟩
  exact key
theorem zh_299 {κ : Option zA → zM → Prop} {D : Nat} {mm : zM} {a b : Int} {κ1 : Option zA → zM → Prop} (hT : zTX2 x D 118 (0, z_args 0 [zr 1, zi a, zi b], [], mm) κ1) (h1 : ∀ v m1, κ1 (some (.inl v)) m1 → -2147483648 ≤ v ∧ v ≤ 2147483647 → κ (some (zi 0)) (zu m1 109 0 (wr v))) (h2 : ∀ m1, κ1 none m1 → κ (some (zi 1)) m1) : z_blk [] 300 (fun _ => False) (zCallH x D κ 300 118) (fun _ _ => False) (fun _ => False) 20 (0, z_args 0 [zr 1, zi a, zi b, zr 109], [], mm) := by
  have key : zCallH x D κ 300 118 118 [zr 1, zi a, zi b] (8, [(0, zr 1), (1, zi a), (2, zi b), (3, zr 109)], [zi 0, zr 109], mm) := by
    refine ⟨rfl, rfl, Nat.le_of_ble_eq_true rfl, κ1, hT, fun r m1 hr h => ?_, h2⟩
    have hr : ∃ v : Int, some r = some (.inl v) ∧ (-2147483648 ≤ v ∧ v ≤ 2147483647) := hr
    obtain ⟨v, hv, hB⟩ := hr
    cases hv
    exact ⟨z_ixL rfl, h1 v m1 h hB⟩
  exact key
theorem zh_300 {κ : Option zA → zM → Prop} {D : Nat} {mm : zM} {a : Int} {κ1 : Option zA → zM → Prop} (hT : zTX2 x D 130 (0, z_args 0 [zr 1, zi a], [], mm) κ1) (h1 : ∀ v m1, κ1 (some (.inl v)) m1 → -2147483648 ≤ v ∧ v ≤ 2147483647 → κ (some (zi 0)) (zu m1 109 0 (wr v))) (h2 : ∀ m1, κ1 none m1 → κ (some (zi 1)) m1) : z_blk [] 301 (fun _ => False) (zCallH x D κ 301 130) (fun _ _ => False) (fun _ => False) 20 (0, z_args 0 [zr 1, zi a, zr 109], [], mm) := by
  have key : zCallH x D κ 301 130 130 [zr 1, zi a] (7, [(0, zr 1), (1, zi a), (2, zr 109)], [zi 0, zr 109], mm) := by
    refine ⟨rfl, rfl, Nat.le_of_ble_eq_true rfl, κ1, hT, fun r m1 hr h => ?_, h2⟩
    have hr : ∃ v : Int, some r = some (.inl v) ∧ (-2147483648 ≤ v ∧ v ≤ 2147483647) := hr
    obtain ⟨v, hv, hB⟩ := hr
    cases hv
    exact ⟨z_ixL rfl, h1 v m1 h hB⟩
  exact key
theorem zh_301 {κ : Option zA → zM → Prop} {D : Nat} {mm : zM} {a : Int} {κ1 : Option zA → zM → Prop} (hT : zTX2 x D 162 (0, z_args 0 [zr 1, zi a], [], mm) κ1) (h1 : ∀ v m1, κ1 (some (.inl v)) m1 → -2147483648 ≤ v ∧ v ≤ 2147483647 → κ (some (zi 0)) (zu m1 109 0 (wr v))) (h2 : ∀ m1, κ1 none m1 → κ (some (zi 1)) m1) : z_blk [] 302 (fun _ => False) (zCallH x D κ 302 162) (fun _ _ => False) (fun _ => False) 20 (0, z_args 0 [zr 1, zi a, zr 109], [], mm) := by
  have key : zCallH x D κ 302 162 162 [zr 1, zi a] (7, [(0, zr 1), (1, zi a), (2, zr 109)], [zi 0, zr 109], mm) := by
    refine ⟨rfl, rfl, Nat.le_of_ble_eq_true rfl, κ1, hT, fun r m1 hr h => ?_, h2⟩
    have hr : ∃ v : Int, some r = some (.inl v) ∧ (-2147483648 ≤ v ∧ v ≤ 2147483647) := hr
    obtain ⟨v, hv, hB⟩ := hr
    cases hv
    exact ⟨z_ixL rfl, h1 v m1 h hB⟩
  exact key
set_option maxHeartbeats 4000000 in
theorem zLRulesS {L : Nat} {xs : Nat → Int32} {b : Nat} (C : q_Ctx p R s m args meth cd x.2.1 x.2.2.1 x.2.2.2.1 x.2.2.2.2.1 303) (hfl : x.1.stackTraces = false) (hR1 : 408 ≤ R.frames) (hR2 : 32400 ≤ R.locals) (hR3 : 2000 ≤ R.cells) (hR4 : 110000 ≤ R.slots)
    (hX : ∃ scr : Cell, x.2.2.2.2.1[x.2.2.2.2.2 0]? = some scr ∧ scr.slots.size = L ∧ ∀ j : Nat, j < L → scr.slots[j]? = some (.int (xs j)))
    (kr : ∀ (pc : Nat) (lo : zL) (st : List zA) (mm : zM), z_Ret 303 pc st (some (zi 1)) → ∀ cells slots : Nat, cells ≤ 2000 → slots ≤ 110000 → zW p x.1 e R s m args below meth cd cells slots Q x.2.1 x.2.2.1 x.2.2.2.1 x.2.2.2.2.1 x.2.2.2.2.2 303 (pc, lo, st, mm)) :
    zLRules (zTt2 x) (zTL x p e R s m args below meth cd Q) (L : Int) (fun j => (xs j).toInt) := by
  refine ⟨fun n t g h ht cells slots hc hs => ?_, fun ks t pc lo st mm h ht cells slots hc hs ls vs H locs F => h ht cells slots hc hs ls vs H locs ⟨z_keepS ks F.1, F.2⟩, fun t g ht1 h ht cells slots hc hs => h ht1 cells slots (by omega) (by omega), fun t pc lo st mm h ht cells slots hc hs ls vs H locs F => ?_⟩
  · refine z_blkS (G := zTL x p e R s m args below meth cd Q t) C (fun g1 h1 => h1 ht cells slots hc hs) (fun c0 as nx rs lo st pc mm site hcr hc0 hC => ?_) (fun r pc lo st mm hr hκ => ?_) (fun pc lo st mm _ _ _ h => h.elim) n g h
    · unfold zLCall at hC
      cases hb : z_pl c0 && Nat.ble (z_cats as) (mL c0) with
      | true =>
        rw [hb] at hC
        simp only [cond_true] at hC
        rw [Bool.and_eq_true] at hb
        have hpl := hb.1
        have hnt := z_plT hpl
        simp only [z_pl, Bool.and_eq_true] at hpl
        refine z_callS C site hcr (by have := q_blt hpl.1.1; omega) hpl.2 (Nat.le_of_ble_eq_true hb.2) (D := 399) (by omega) (by omega) (by omega) (by omega) ((zT2_lo (zn_args _ _ _) hC).2 hnt) (fun r m1 h1 => h1.2 h1.1 ht cells slots hc hs)
      | false =>
        rw [hb] at hC
        simp only [cond_false] at hC
        obtain ⟨ht1, hC⟩ := hC
        have go : ∀ (kc : Nat), q_HK c0 kc → zHI c0 = true → z_cats as ≤ mL c0 → z_blk [] c0 (fun _ => False) (zCallH x 398 (fun r m1 => zTL x p e R s m args below meth cd Q (t + 1) (nx, lo, r.toList ++ rs, m1)) c0 kc) (fun _ _ => False) (fun _ => False) 20 (0, z_args 0 as, [], mm) → zW p x.1 e R s m args below meth cd cells slots Q x.2.1 x.2.2.1 x.2.2.2.1 x.2.2.2.2.1 x.2.2.2.2.2 303 (pc, lo, st, mm) := fun kc hk hI hca hB =>
          z_callH C site hcr hk hI hca hfl (D := 398) (by omega) (by omega) (by omega) (by omega) hB (fun r m1 h1 => h1 ht1 (cells + 1) (slots + 6) (by omega) (by omega))
        rcases hC with ⟨a, b, rfl, ⟨rfl, hT⟩ | ⟨rfl, hT⟩⟩ | ⟨a, rfl, ⟨rfl, hT⟩ | ⟨rfl, hT⟩⟩
        · refine go 117 (q_hk rfl) rfl (Nat.le_of_ble_eq_true rfl) (zh_298 ((zT2_lo (zn_args _ [zr 1, zi a, zi b] 0) hT).1 rfl) (fun v m1 h hB => h.2 v rfl hB) (fun m1 h => h.1 rfl))
        · refine go 118 (q_hk rfl) rfl (Nat.le_of_ble_eq_true rfl) (zh_299 ((zT2_lo (zn_args _ [zr 1, zi a, zi b] 0) hT).1 rfl) (fun v m1 h hB => h.2 v rfl hB) (fun m1 h => h.1 rfl))
        · refine go 130 (q_hk rfl) rfl (Nat.le_of_ble_eq_true rfl) (zh_300 ((zT2_lo (zn_args _ [zr 1, zi a] 0) hT).1 rfl) (fun v m1 h hB => h.2 v rfl hB) (fun m1 h => h.1 rfl))
        · refine go 162 (q_hk rfl) rfl (Nat.le_of_ble_eq_true rfl) (zh_301 ((zT2_lo (zn_args _ [zr 1, zi a] 0) hT).1 rfl) (fun v m1 h hB => h.2 v rfl hB) (fun m1 h => h.1 rfl))
    · subst hκ
      exact kr pc lo st mm hr cells slots (by omega) (by omega)
  · refine h ?_ ht cells slots hc hs ls vs H locs F
    obtain ⟨-, -, ⟨g1, -, ⟨⟨-, gb⟩, scr, s1, s2, s3, s4⟩, -, -⟩, -⟩ := F
    obtain ⟨scr0, x1, x2, x3⟩ := hX
    rw [g1 _ gb, x1] at s1
    cases s1
    dsimp only at s3 s4
    rw [x2] at s3
    refine ⟨s3.symm, fun j hj => ?_⟩
    have h1 := s4 j (by omega)
    rw [x3 j (by omega)] at h1
    have h2 : xs j = Int32.ofInt (mm 0 j) := Value.int.inj (Option.some.inj h1)
    show wr (mm 0 j) = (xs j).toInt
    rw [← wrE, h2]
end ZLaw
end
-- b2.wayn.lean.txt
section
/-! What may throw, and is not compared: the call of the class, the call of the reference, each for itself. -/
noncomputable def WayN (T : Nat → Nat → zG → (Option zA → zM → Prop) → Prop) (kC kR : Nat) (aC aR : zL) (dC dR : Nat) (B : Int) : Prop := (∀ (D : Nat) (m : zM) (sc : zSc), (∃ n k, Inv B sc n k m) → ∀ κ : Option zA → zM → Prop, (∀ r m1, (r = none ∨ ∃ v, r = some (zi v)) → (∃ n k, Inv B sc n k m1) → κ r m1) → T (D + dC) kC (0, aC, [], m) κ) ∧ (∀ (D : Nat) (m : zM) (sc : zSc), (∃ n k, Inv B sc n k m) → ∀ κ2 : Option zA → zM → Prop, (∀ r2 m2, (∃ n k, Inv B sc n k m2) → κ2 r2 m2) → T (D + dR) kR (0, aR, [], m) κ2)
section ZWayN
variable {T : Nat → Nat → zG → (Option zA → zM → Prop) → Prop} {B : Int}
theorem rowW13 {m m1 : zM} (h : zFr (rowW 13) m m1) : zFr (inL [(13, none)]) m m1 := h.sub (fun c j q => by
  have := Nat.eq_of_beq_eq_true q
  subst this
  rfl)
set_option maxHeartbeats 4000000 in
theorem n_person (hT : zRules T) {p w : Int} (hp : isI p) (hw : isI w) : WayN T 117 218 [(0, zr 1), (1, zi p), (2, zi w)] [(0, zr 74), (1, zi p), (2, zi w)] 6 172 B := by
  constructor
  · rintro D m sc ⟨n, k, hI⟩ κ hκ
    have hI0 := hI
    obtain ⟨i1, i2, i3, i4, i5, i6, i7, i8, i9, i10, i11⟩ := hI
    obtain ⟨⟨n1, n2⟩, ⟨k1, k2⟩, hh, hRel, hok⟩ := i4
    have b17 : 0 ≤ m 17 0 ∧ m 17 0 ≤ 6 := i1 17 0
    have b171 : 0 ≤ m 17 1 ∧ m 17 1 ≤ 8 := i1 17 1
    have yes : ∀ v : Int, κ (some (zi v)) m := fun v => hκ _ _ (Or.inr ⟨_, rfl⟩) ⟨n, k, hI0⟩
    have nil : κ none m := hκ _ _ (Or.inl rfl) ⟨n, k, hI0⟩
    have yes1 : ∀ (v : Int) (m1 : zM), zB m1 → zFr (rowW 13) m m1 → κ (some (zi v)) m1 := fun v m1 hB1 hF1 => hκ _ _ (Or.inr ⟨_, rfl⟩) ⟨n, k, Inv_fr (.of (rowW13 hF1) rfl) hB1 hI0⟩
    by_cases hr : 0 ≤ p ∧ p < n
    · obtain ⟨a, rfl⟩ : ∃ a : Nat, p = (a : Int) := ⟨p.toNat, by omega⟩
      have han : a < n := by omega
      obtain ⟨ok1, ok2⟩ := hok.1 a han
      obtain ⟨r1, r2⟩ := hRel.1 a han
      obtain ⟨h78, h18⟩ := hh a han
      obtain ⟨pl, hpl⟩ : ∃ pl : Nat, m 19 a = (pl : Int) := ⟨(m 19 a).toNat, by omega⟩
      have hpl3 : pl ≤ 3 := by omega
      refine zb117_0n hT i1 (by omega) hw (fun x => by omega) (fun _ w0 => yes _) (fun _ w0 w1 => yes _) (fun _ w0 w1 w2 => yes _) (fun _ w0 w1 w2 w3 => ?_) (fun _ w0 w1 w2 w3 w4 => ?_) (fun _ w0 w1 w2 w3 w4 => nil)
      · refine z_lawNow hT i1 (by omega) (by omega) hpl hpl3 i3.1 (fun m1 hB1 hF1 => ?_)
        exact zb117_91 hT rfl LWB (yes1 _ m1 hB1 hF1)
      · refine zb172_0 hT i1 (by omega) (fun x => ?_) (fun x y => ?_) (fun x y => ?_)
        · exact zb117_97 hT rfl (by omega) (fun _ => yes _) (fun x => absurd rfl x)
        · exact zb117_97 hT rfl (by omega) (fun _ => yes _) (fun x => absurd rfl x)
        · have hc1 : 0 ≤ m 75 (a + 6) ∧ m 75 (a + 6) < k := by omega
          obtain ⟨c, hc⟩ : ∃ c : Nat, m 75 (a + 6) = (c : Int) := ⟨(m 75 (a + 6)).toNat, by omega⟩
          have b21 : -1 ≤ m 21 c ∧ m 21 c ≤ 99 := i1 21 c
          rw [r2, hc, Int.toNat_natCast]
          refine z_lawNow hT i1 (by omega) (by omega) hpl hpl3 i3.1 (fun m1 hB1 hF1 => ?_)
          have lv := LWB (m := m) (h := m 18 a) (i := (a : Int)) (p := pl) (w := m 17 11)
          refine zb172_35 hT rfl b21 lv (fun x => ?_) (fun x => ?_)
          · exact zb117_97 hT rfl (by omega) (fun _ => yes1 _ m1 hB1 hF1) (fun x => absurd rfl x)
          · exact zb117_97 hT rfl (by omega) (fun x => by omega) (fun _ => yes1 _ m1 hB1 hF1)
    · exact zb117_0 hT i1 hp hw (fun _ => nil) (fun _ _ => nil) (fun q1 q2 => absurd ⟨by omega, by omega⟩ hr) (fun q1 q2 => absurd ⟨by omega, by omega⟩ hr) (fun q1 q2 => absurd ⟨by omega, by omega⟩ hr) (fun q1 q2 => absurd ⟨by omega, by omega⟩ hr) (fun q1 q2 => absurd ⟨by omega, by omega⟩ hr) (fun q1 q2 => absurd ⟨by omega, by omega⟩ hr)
  · rintro D2 m sc ⟨n, k, hI⟩ κ2 h2
    have hI0 := hI
    obtain ⟨i1, i2, i3, i4, i5, i6, i7, i8, i9, i10, i11⟩ := hI
    have hA12 : Agree coreK m (zu m 74 12 0) := .of (L := [(74, some 12)]) (zFr.refl.set rfl) rfl
    have hA121 : Agree coreK m (zu (zu m 74 12 0) 74 12 1) := .of (L := [(74, some 12)]) ((zFr.refl.set rfl).set rfl) rfl
    obtain ⟨⟨n1, n2⟩, ⟨k1, k2⟩, hh, hRel, hok⟩ := i4
    have b17 : 0 ≤ m 17 0 ∧ m 17 0 ≤ 6 := i1 17 0
    have b171 : 0 ≤ m 17 1 ∧ m 17 1 ≤ 8 := i1 17 1
    have f : ∀ v : Option zA, zB (zu m 74 12 0) → κ2 v (zu m 74 12 0) := fun v hz => h2 _ _ ⟨n, k, Inv_fr hA12 hz hI0⟩
    have g : ∀ v : Option zA, zB (zu (zu m 74 12 0) 74 12 1) → κ2 v (zu (zu m 74 12 0) 74 12 1) := fun v hz => h2 _ _ ⟨n, k, Inv_fr hA121 hz hI0⟩
    by_cases hr : 0 ≤ p ∧ p < n
    · obtain ⟨a, rfl⟩ : ∃ a : Nat, p = (a : Int) := ⟨p.toNat, by omega⟩
      have han : a < n := by omega
      obtain ⟨ok1, ok2⟩ := hok.1 a han
      obtain ⟨r1, r2⟩ := hRel.1 a han
      obtain ⟨h78, h18⟩ := hh a han
      obtain ⟨pl, hpl⟩ : ∃ pl : Nat, m 75 a = (pl : Int) := ⟨(m 75 a).toNat, by omega⟩
      have hpl3 : pl ≤ 3 := by omega
      have law : zB (zu m 74 12 0) → ∀ κ3 : Option zA → zM → Prop, (∀ M2, zB M2 → Agree coreK m M2 → κ3 (some (zi (LW (zu m 74 12 0) ((zu m 74 12 0) 78 a) (a : Int) pl ((zu m 74 12 0) 75 57 + 0)))) M2) → T (D2 + 171) 216 (0, [(0, zr 74), (1, zi (a : Int)), (2, zi 0)], [], zu m 74 12 0) κ3 := by
        intro hz κ3 hk
        have hI2 := Inv_fr hA12 hz hI0
        exact z_lawIn (pl := pl) hT hz (by omega) (by rw [zu_dn (by omega)]; exact hpl) (by omega) hI2.2.2.1 (fun m2 hB2 hF2 => hk m2 hB2 (hA12.trans (.of (hF2.sub lbWL) rfl)))
      refine zb218_0n (D := D2 + 167) hT i1 (by omega) hw (fun x => by omega) (fun _ _ hz => g _ hz) (fun _ _ _ hz => g _ hz) (fun _ _ _ _ hz => f _ hz) (fun _ _ _ _ _ hz => f _ hz) (fun _ _ _ _ _ _ hz => f _ hz) (fun _ _ _ _ _ _ _ hz => ?_) (fun _ _ _ _ _ _ _ _ hz => f _ hz) (fun _ _ _ _ _ _ _ _ hz => ?_)
      · refine law hz _ (fun M2 g1 g2 => ?_)
        exact zb218_90 (D := D2 + 167) hT rfl LWB (h2 _ _ ⟨n, k, Inv_fr g2 g1 hI0⟩)
      · refine law hz _ (fun M2 g1 g2 => ?_)
        have b21 : ∀ c : Nat, c < 8 → -1 ≤ m 75 (12 + c) ∧ m 75 (12 + c) ≤ 99 := fun c hc => zSg i1 75 12 20 (-1) 99 rfl _ (by omega) (by omega)
        obtain ⟨c, hc⟩ : ∃ c : Nat, m 75 (a + 6) = (c : Int) := ⟨(m 75 (a + 6)).toNat, by omega⟩
        rw [hc, show (12 + (c : Int)).toNat = 12 + c by omega]
        exact zb218_111 (D := D2 + 167) hT rfl (b21 c (by omega)) LWB (fun x => h2 _ _ ⟨n, k, Inv_fr g2 g1 hI0⟩) (fun x => h2 _ _ ⟨n, k, Inv_fr g2 g1 hI0⟩)
    · exact zb218_0 (D := D2 + 167) hT i1 hp hw (fun _ hz => g _ hz) (fun _ _ hz => g _ hz) (fun q1 q2 => absurd ⟨by omega, by omega⟩ hr) (fun q1 q2 => absurd ⟨by omega, by omega⟩ hr) (fun q1 q2 => absurd ⟨by omega, by omega⟩ hr) (fun q1 q2 => absurd ⟨by omega, by omega⟩ hr) (fun q1 q2 => absurd ⟨by omega, by omega⟩ hr) (fun q1 q2 => absurd ⟨by omega, by omega⟩ hr) (fun q1 q2 => absurd ⟨by omega, by omega⟩ hr) (fun q1 q2 => absurd ⟨by omega, by omega⟩ hr) (fun q1 q2 => absurd ⟨by omega, by omega⟩ hr) (fun q1 q2 => absurd ⟨by omega, by omega⟩ hr)
set_option maxHeartbeats 4000000 in
theorem n_cloth (hT : zRules T) {p w : Int} (hp : isI p) (hw : isI w) : WayN T 118 219 [(0, zr 1), (1, zi p), (2, zi w)] [(0, zr 74), (1, zi p), (2, zi w)] 3 3 B := by
  constructor
  · rintro D m sc ⟨n, k, hI⟩ κ hκ
    have hI0 := hI
    obtain ⟨i1, i2, i3, i4, i5, i6, i7, i8, i9, i10, i11⟩ := hI
    obtain ⟨⟨n1, n2⟩, ⟨k1, k2⟩, hh, hRel, hok⟩ := i4
    have b17 : 0 ≤ m 17 0 ∧ m 17 0 ≤ 6 := i1 17 0
    have b171 : 0 ≤ m 17 1 ∧ m 17 1 ≤ 8 := i1 17 1
    have yes : ∀ v : Int, κ (some (zi v)) m := fun v => hκ _ _ (Or.inr ⟨_, rfl⟩) ⟨n, k, hI0⟩
    have nil : κ none m := hκ _ _ (Or.inl rfl) ⟨n, k, hI0⟩
    by_cases hr : 0 ≤ p ∧ p < k
    · obtain ⟨c, rfl⟩ : ∃ a : Nat, p = (a : Int) := ⟨p.toNat, by omega⟩
      refine zb118_0n hT i1 (by omega) hw (fun x => by omega) (fun _ w0 => yes _) (fun _ w0 w1 => yes _) (fun _ w0 w1 w2 => yes _) (fun _ w0 w1 w2 w3 => yes _) (fun _ w0 w1 w2 w3 w4 => ?_) (fun _ w0 w1 w2 w3 w4 => nil)
      have hw1 := wIx_b (f := m 20) (c := (c : Int)) n 0
      refine z_wearerOf (n := n) hT i1 (by omega) n1 ?_
      exact zb118_103 hT rfl (by omega) (yes _)
    · exact zb118_0 hT i1 hp hw (fun _ => nil) (fun _ _ => nil) (fun q1 q2 => absurd ⟨by omega, by omega⟩ hr) (fun q1 q2 => absurd ⟨by omega, by omega⟩ hr) (fun q1 q2 => absurd ⟨by omega, by omega⟩ hr) (fun q1 q2 => absurd ⟨by omega, by omega⟩ hr) (fun q1 q2 => absurd ⟨by omega, by omega⟩ hr) (fun q1 q2 => absurd ⟨by omega, by omega⟩ hr)
  · rintro D2 m sc ⟨n, k, hI⟩ κ2 h2
    have hI0 := hI
    obtain ⟨i1, i2, i3, i4, i5, i6, i7, i8, i9, i10, i11⟩ := hI
    have hA12 : Agree coreK m (zu m 74 12 0) := .of (L := [(74, some 12)]) (zFr.refl.set rfl) rfl
    have hA121 : Agree coreK m (zu (zu m 74 12 0) 74 12 1) := .of (L := [(74, some 12)]) ((zFr.refl.set rfl).set rfl) rfl
    obtain ⟨⟨n1, n2⟩, ⟨k1, k2⟩, hh, hRel, hok⟩ := i4
    have b17 : 0 ≤ m 17 0 ∧ m 17 0 ≤ 6 := i1 17 0
    have b171 : 0 ≤ m 17 1 ∧ m 17 1 ≤ 8 := i1 17 1
    have f : ∀ v : Option zA, zB (zu m 74 12 0) → κ2 v (zu m 74 12 0) := fun v hz => h2 _ _ ⟨n, k, Inv_fr hA12 hz hI0⟩
    have g : ∀ v : Option zA, zB (zu (zu m 74 12 0) 74 12 1) → κ2 v (zu (zu m 74 12 0) 74 12 1) := fun v hz => h2 _ _ ⟨n, k, Inv_fr hA121 hz hI0⟩
    by_cases hr : 0 ≤ p ∧ p < k
    · obtain ⟨c, rfl⟩ : ∃ a : Nat, p = (a : Int) := ⟨p.toNat, by omega⟩
      refine zb219_0n hT i1 (by omega) hw (fun x => by omega) (fun _ _ hz => g _ hz) (fun _ _ _ hz => g _ hz) (fun _ _ _ _ hz => f _ hz) (fun _ _ _ _ _ hz => f _ hz) (fun _ _ _ _ _ _ hz => f _ hz) (fun _ _ _ _ _ _ _ hz => f _ hz) (fun _ _ _ _ _ _ _ hz => ?_)
      have hw1 := wIx_b (f := fun p => (zu m 74 12 0) 75 (p + 6)) (c := (c : Int)) n 0
      refine z_wearer (n := n) hT hz (by omega) n2 ?_
      exact zb219_119 hT rfl (by omega) (f _ hz)
    · exact zb219_0 hT i1 hp hw (fun _ hz => g _ hz) (fun _ _ hz => g _ hz) (fun q1 q2 => absurd ⟨by omega, by omega⟩ hr) (fun q1 q2 => absurd ⟨by omega, by omega⟩ hr) (fun q1 q2 => absurd ⟨by omega, by omega⟩ hr) (fun q1 q2 => absurd ⟨by omega, by omega⟩ hr) (fun q1 q2 => absurd ⟨by omega, by omega⟩ hr) (fun q1 q2 => absurd ⟨by omega, by omega⟩ hr) (fun q1 q2 => absurd ⟨by omega, by omega⟩ hr) (fun q1 q2 => absurd ⟨by omega, by omega⟩ hr) (fun q1 q2 => absurd ⟨by omega, by omega⟩ hr) (fun q1 q2 => absurd ⟨by omega, by omega⟩ hr) (fun q1 q2 => absurd ⟨by omega, by omega⟩ hr) (fun q1 q2 => absurd ⟨by omega, by omega⟩ hr)
theorem n_piece (hT : zRules T) {p : Int} (hp : isI p) : WayN T 130 242 [(0, zr 1), (1, zi p)] [(0, zr 74), (1, zi p)] 2 2 B := by
  constructor
  · rintro D m sc ⟨n, k, hI⟩ κ hκ
    have i1 := hI.1
    exact zb130_0 hT i1 hp (fun _ => hκ _ _ (Or.inl rfl) ⟨n, k, hI⟩) (fun _ _ => hκ _ _ (Or.inl rfl) ⟨n, k, hI⟩) (fun _ _ => hκ _ _ (Or.inr ⟨_, rfl⟩) ⟨n, k, hI⟩)
  · rintro D2 m sc ⟨n, k, hI⟩ κ2 h2
    have i1 := hI.1
    have hA12 : Agree coreK m (zu m 74 12 0) := .of (L := [(74, some 12)]) (zFr.refl.set rfl) rfl
    have hA121 : Agree coreK m (zu (zu m 74 12 0) 74 12 1) := .of (L := [(74, some 12)]) ((zFr.refl.set rfl).set rfl) rfl
    exact zb242_0 hT i1 hp (fun _ hz => h2 _ _ ⟨n, k, Inv_fr hA121 hz hI⟩) (fun _ _ hz => h2 _ _ ⟨n, k, Inv_fr hA121 hz hI⟩) (fun q1 q2 => by
      have b : 0 ≤ m 75 56 ∧ m 75 56 ≤ 20 := i1 75 56
      rw [wr_id (by omega) (by omega)]
      omega) (fun _ _ hz => h2 _ _ ⟨n, k, Inv_fr hA12 hz hI⟩)
theorem n_row (hT : zRules T) {p : Int} (hp : isI p) : WayN T 162 291 [(0, zr 1), (1, zi p)] [(0, zr 74), (1, zi p)] 2 2 B := by
  constructor
  · rintro D m sc ⟨n, k, hI⟩ κ hκ
    have i1 := hI.1
    exact zb162_0 hT i1 hp (fun _ => hκ _ _ (Or.inl rfl) ⟨n, k, hI⟩) (fun _ _ => hκ _ _ (Or.inr ⟨_, rfl⟩) ⟨n, k, hI⟩) (fun _ _ => hκ _ _ (Or.inl rfl) ⟨n, k, hI⟩)
  · rintro D2 m sc ⟨n, k, hI⟩ κ2 h2
    have i1 := hI.1
    have hA12 : Agree coreK m (zu m 74 12 0) := .of (L := [(74, some 12)]) (zFr.refl.set rfl) rfl
    have hA121 : Agree coreK m (zu (zu m 74 12 0) 74 12 1) := .of (L := [(74, some 12)]) ((zFr.refl.set rfl).set rfl) rfl
    exact zb291_0 hT i1 hp (fun _ hz => h2 _ _ ⟨n, k, Inv_fr hA121 hz hI⟩) (fun _ _ hz => h2 _ _ ⟨n, k, Inv_fr hA121 hz hI⟩) (fun _ _ hz => h2 _ _ ⟨n, k, Inv_fr hA12 hz hI⟩)
/-- the law's row of one long is no part of what holds -/
theorem Inv_109 {sc : zSc} {m : zM} {v : Int} (h : ∃ n k, Inv B sc n k m) : ∃ n k, Inv B sc n k (zu m 109 0 v) := by
  obtain ⟨n, k, hI⟩ := h
  exact ⟨n, k, Inv_fr (.of (L := [(109, some 0)]) (zFr.refl.set rfl) rfl) (zB_u hI.1 trivial) hI⟩
end ZWayN
end
-- b3.xread.lean.txt
section
/-! person(), cloth(), piece(), compared: what each answers, of each side for itself (the law writes its row of one long between the two calls). -/
noncomputable def pvP (m : zM) (n : Nat) (p w : Int) : Option Int := if 0 ≤ p ∧ p < (n : Int) then (if w = 0 then some (m 18 p.toNat) else if w = 1 then some (m 19 p.toNat) else if w = 2 then some (m 20 p.toNat) else if w = 3 then some (LW m (m 18 p.toNat) p (m 19 p.toNat).toNat (m 17 11)) else if w = 4 then some (if m 20 p.toNat < 0 then 0 else if m 21 (m 20 p.toNat).toNat = LW m (m 18 p.toNat) p (m 19 p.toNat).toNat (m 17 11) then 1 else 0) else none) else none
noncomputable def pvC (m : zM) (n k : Nat) (c w : Int) : Option Int := if 0 ≤ c ∧ c < (k : Int) then (if w = 0 then some (m 21 c.toNat) else if w = 1 then some (m 22 c.toNat) else if w = 2 then some (m 21 c.toNat + m 22 c.toNat) else if w = 3 then some (wr (m 23 c.toNat)) else if w = 4 then some (wIx (m 20) c 0 n) else none) else none
noncomputable def pvI (m : zM) (i : Int) : Option Int := if 0 ≤ i ∧ i < m 25 2 then some (m 26 i.toNat) else none
/-- the class's side -/
noncomputable def XC (T : Nat → Nat → zG → (Option zA → zM → Prop) → Prop) (kC dC : Nat) (aC : zL) (m : zM) (pv : Option Int) : Prop := ∀ (D : Nat) (κ : Option zA → zM → Prop), (∀ m1, zB m1 → zFr (rowW 13) m m1 → κ (pv.map (fun v => .inl v)) m1) → T (D + dC) kC (0, aC, [], m) κ
/-- the reference's side -/
noncomputable def XR (T : Nat → Nat → zG → (Option zA → zM → Prop) → Prop) (B : Int) (sc : zSc) (kR dR : Nat) (aR : zL) (m : zM) (pv : Option Int) : Prop := ∀ (D : Nat) (κ : Option zA → zM → Prop), (∀ r m1, ((pv = none ∧ m1 74 12 = 1) ∨ ∃ v, pv = some v ∧ r = some (zi v) ∧ m1 74 12 = 0) → m1 109 0 = m 109 0 → (∃ n k, Inv B sc n k m1) → κ r m1) → T (D + dR) kR (0, aR, [], m) κ
section ZXRead
variable {T : Nat → Nat → zG → (Option zA → zM → Prop) → Prop} {B : Int}
set_option maxHeartbeats 4000000 in
theorem xc_person (hT : zRules T) {sc : zSc} {n k : Nat} {m : zM} {p w : Int} (hp : isI p) (hw : isI w) (hI : Inv B sc n k m) : XC T 117 6 [(0, zr 1), (1, zi p), (2, zi w)] m (pvP m n p w) := by
  intro D κ hκ
  obtain ⟨i1, i2, i3, i4, i5, i6, i7, i8, i9, i10, i11⟩ := hI
  obtain ⟨⟨n1, n2⟩, ⟨k1, k2⟩, hh, hRel, hok⟩ := i4
  have b17 : 0 ≤ m 17 0 ∧ m 17 0 ≤ 6 := i1 17 0
  have b171 : 0 ≤ m 17 1 ∧ m 17 1 ≤ 8 := i1 17 1
  have yes : ∀ v : Int, pvP m n p w = some v → κ (some (zi v)) m := fun v e => by
    have := hκ m i1 zFr.refl
    rw [e] at this
    exact this
  have yes1 : ∀ v : Int, pvP m n p w = some v → ∀ m1, zB m1 → zFr (rowW 13) m m1 → κ (some (zi v)) m1 := fun v e m1 h1 h2 => by
    have := hκ m1 h1 h2
    rw [e] at this
    exact this
  have nil : pvP m n p w = none → κ none m := fun e => by
    have := hκ m i1 zFr.refl
    rw [e] at this
    exact this
  by_cases hr : 0 ≤ p ∧ p < n
  · obtain ⟨a, rfl⟩ : ∃ a : Nat, p = (a : Int) := ⟨p.toNat, by omega⟩
    have han : a < n := by omega
    obtain ⟨ok1, ok2⟩ := hok.1 a han
    obtain ⟨r1, r2⟩ := hRel.1 a han
    obtain ⟨h78, h18⟩ := hh a han
    obtain ⟨pl, hpl⟩ : ∃ pl : Nat, m 19 a = (pl : Int) := ⟨(m 19 a).toNat, by omega⟩
    have hpl3 : pl ≤ 3 := by omega
    have epl : (m 19 a).toNat = pl := by omega
    unfold pvP at yes yes1 nil
    rw [if_pos hr, Int.toNat_natCast, epl] at yes yes1 nil
    refine zb117_0n hT i1 (by omega) hw (fun x => by omega) (fun _ w0 => yes _ (by rw [if_pos w0])) (fun _ w0 w1 => yes _ (by rw [if_neg w0, if_pos w1])) (fun _ w0 w1 w2 => yes _ (by rw [if_neg w0, if_neg w1, if_pos w2])) (fun _ w0 w1 w2 w3 => ?_) (fun _ w0 w1 w2 w3 w4 => ?_) (fun _ w0 w1 w2 w3 w4 => nil (by rw [if_neg w0, if_neg w1, if_neg w2, if_neg w3, if_neg w4]))
    · refine z_lawNow hT i1 (by omega) (by omega) hpl hpl3 i3.1 (fun m1 hB1 hF1 => ?_)
      exact zb117_91 hT rfl LWB (yes1 _ (by rw [if_neg w0, if_neg w1, if_neg w2, if_pos w3]) m1 hB1 hF1)
    · rw [if_neg w0, if_neg w1, if_neg w2, if_neg w3, if_pos w4] at yes yes1
      refine zb172_0 hT i1 (by omega) (fun x => ?_) (fun x y => ?_) (fun x y => ?_)
      · exact zb117_97 hT rfl (by omega) (fun _ => yes 0 (by rw [if_pos x])) (fun x => absurd rfl x)
      · exact zb117_97 hT rfl (by omega) (fun _ => by omega) (fun x => absurd rfl x)
      · have hc1 : 0 ≤ m 75 (a + 6) ∧ m 75 (a + 6) < k := by omega
        obtain ⟨c, hc⟩ : ∃ c : Nat, m 75 (a + 6) = (c : Int) := ⟨(m 75 (a + 6)).toNat, by omega⟩
        have b21 : -1 ≤ m 21 c ∧ m 21 c ≤ 99 := i1 21 c
        rw [if_neg x, r2, hc, Int.toNat_natCast] at yes1
        rw [r2, hc, Int.toNat_natCast]
        refine z_lawNow hT i1 (by omega) (by omega) hpl hpl3 i3.1 (fun m1 hB1 hF1 => ?_)
        have lv := LWB (m := m) (h := m 18 a) (i := (a : Int)) (p := pl) (w := m 17 11)
        refine zb172_35 hT rfl b21 lv (fun x => ?_) (fun x => ?_)
        · exact zb117_97 hT rfl (by omega) (fun _ => yes1 0 (by rw [if_neg x]) m1 hB1 hF1) (fun x => absurd rfl x)
        · exact zb117_97 hT rfl (by omega) (fun x => by omega) (fun _ => yes1 1 (by rw [if_pos x]) m1 hB1 hF1)
  · unfold pvP at nil
    rw [if_neg hr] at nil
    have nil := nil rfl
    exact zb117_0 hT i1 hp hw (fun _ => nil) (fun _ _ => nil) (fun q1 q2 => absurd ⟨by omega, by omega⟩ hr) (fun q1 q2 => absurd ⟨by omega, by omega⟩ hr) (fun q1 q2 => absurd ⟨by omega, by omega⟩ hr) (fun q1 q2 => absurd ⟨by omega, by omega⟩ hr) (fun q1 q2 => absurd ⟨by omega, by omega⟩ hr) (fun q1 q2 => absurd ⟨by omega, by omega⟩ hr)
set_option maxHeartbeats 4000000 in
theorem xr_person (hT : zRules T) {sc : zSc} {n k : Nat} {m : zM} {p w : Int} (hp : isI p) (hw : isI w) (hI : Inv B sc n k m) : XR T B sc 218 172 [(0, zr 74), (1, zi p), (2, zi w)] m (pvP m n p w) := by
  intro D2 κ2 h2
  have hI0 := hI
  obtain ⟨i1, i2, i3, i4, i5, i6, i7, i8, i9, i10, i11⟩ := hI
  have hA12 : Agree coreK m (zu m 74 12 0) := .of (L := [(74, some 12)]) (zFr.refl.set rfl) rfl
  have hA121 : Agree coreK m (zu (zu m 74 12 0) 74 12 1) := .of (L := [(74, some 12)]) ((zFr.refl.set rfl).set rfl) rfl
  obtain ⟨⟨n1, n2⟩, ⟨k1, k2⟩, hh, hRel, hok⟩ := i4
  have b17 : 0 ≤ m 17 0 ∧ m 17 0 ≤ 6 := i1 17 0
  have b171 : 0 ≤ m 17 1 ∧ m 17 1 ≤ 8 := i1 17 1
  have f : ∀ v : Int, pvP m n p w = some v → zB (zu m 74 12 0) → κ2 (some (zi v)) (zu m 74 12 0) := fun v e hz => h2 _ _ (Or.inr ⟨v, e, rfl, by rw [zu_sm rfl]⟩) rfl ⟨n, k, Inv_fr hA12 hz hI0⟩
  have g : pvP m n p w = none → ∀ v : Option zA, zB (zu (zu m 74 12 0) 74 12 1) → κ2 v (zu (zu m 74 12 0) 74 12 1) := fun e v hz => h2 _ _ (Or.inl ⟨e, by rw [zu_sm rfl]⟩) rfl ⟨n, k, Inv_fr hA121 hz hI0⟩
  by_cases hr : 0 ≤ p ∧ p < n
  · obtain ⟨a, rfl⟩ : ∃ a : Nat, p = (a : Int) := ⟨p.toNat, by omega⟩
    have han : a < n := by omega
    obtain ⟨ok1, ok2⟩ := hok.1 a han
    obtain ⟨r1, r2⟩ := hRel.1 a han
    obtain ⟨h78, h18⟩ := hh a han
    obtain ⟨pl, hpl⟩ : ∃ pl : Nat, m 75 a = (pl : Int) := ⟨(m 75 a).toNat, by omega⟩
    have hpl3 : pl ≤ 3 := by omega
    have epl : (m 19 a).toNat = pl := by omega
    have e1711 : m 17 11 = m 75 57 := hRel.2.2.2.2.1
    unfold pvP at h2 f g
    rw [if_pos hr, Int.toNat_natCast, epl] at h2 f g
    have law : zB (zu m 74 12 0) → ∀ κ3 : Option zA → zM → Prop, (∀ M2, zB M2 → Agree coreK m M2 → M2 74 12 = 0 → M2 109 0 = m 109 0 → κ3 (some (zi (LW m (m 18 a) (a : Int) pl (m 17 11)))) M2) → T (D2 + 171) 216 (0, [(0, zr 74), (1, zi (a : Int)), (2, zi 0)], [], zu m 74 12 0) κ3 := by
      intro hz κ3 hk
      have hI2 := Inv_fr hA12 hz hI0
      have eL : LW (zu m 74 12 0) = LW m := (Agree.of (L := [(74, some 12)]) (zFr.refl.set rfl) rfl : Agree KL m (zu m 74 12 0)).law.2
      refine z_lawIn (pl := pl) hT hz (by omega) (by rw [zu_dn (by omega)]; exact hpl) (by omega) hI2.2.2.1 (fun m2 hB2 hF2 => ?_)
      rw [eL, show (zu m 74 12 0) 78 a = m 78 a from rfl, show (zu m 74 12 0) 75 57 = m 75 57 from rfl, h78, Int.add_zero, ← e1711]
      refine hk m2 hB2 (hA12.trans (.of (hF2.sub lbWL) rfl)) ?_ ?_
      · rw [(hF2.sub lbWL) 74 12 rfl, zu_sm rfl]
      · rw [(hF2.sub lbWL) 109 0 rfl]
        rfl
    refine zb218_0n (D := D2 + 167) hT i1 (by omega) hw (fun x => by omega) (fun _ x hz => g (by rw [if_neg (by omega), if_neg (by omega), if_neg (by omega), if_neg (by omega), if_neg (by omega)]) _ hz) (fun _ _ x hz => g (by rw [if_neg (by omega), if_neg (by omega), if_neg (by omega), if_neg (by omega), if_neg (by omega)]) _ hz) (fun _ _ _ w0 hz => f _ (by rw [if_pos w0, h78]) hz) (fun _ _ _ w0 w1 hz => f _ (by rw [if_neg w0, if_pos w1, r1]) hz) (fun _ _ _ w0 w1 w2 hz => f _ (by rw [if_neg w0, if_neg w1, if_pos w2, r2]) hz) (fun _ _ _ w0 w1 w2 w3 hz => ?_) (fun _ _ _ w0 w1 w2 w3 x hz => f _ (by rw [if_neg w0, if_neg w1, if_neg w2, if_neg w3, if_pos (by omega), if_pos (by omega)]) hz) (fun _ _ _ w0 w1 w2 w3 x hz => ?_)
    · refine law hz _ (fun M2 g1 g2 g3 g4 => ?_)
      exact zb218_90 (D := D2 + 167) hT rfl LWB (h2 _ _ (Or.inr ⟨_, by rw [if_neg w0, if_neg w1, if_neg w2, if_pos w3], rfl, g3⟩) g4 ⟨n, k, Inv_fr g2 g1 hI0⟩)
    · refine law hz _ (fun M2 g1 g2 g3 g4 => ?_)
      have b21 : ∀ c : Nat, c < 8 → -1 ≤ m 75 (12 + c) ∧ m 75 (12 + c) ≤ 99 := fun c hc => zSg i1 75 12 20 (-1) 99 rfl _ (by omega) (by omega)
      obtain ⟨c, hc⟩ : ∃ c : Nat, m 75 (a + 6) = (c : Int) := ⟨(m 75 (a + 6)).toNat, by omega⟩
      have e21 : m 21 c = m 75 (c + 12) := (hRel.2.1 c (by omega)).1
      rw [if_neg w0, if_neg w1, if_neg w2, if_neg w3, if_pos (by omega), if_neg (by omega), r2, hc, Int.toNat_natCast, e21, Nat.add_comm c 12] at h2
      rw [hc, show (12 + (c : Int)).toNat = 12 + c by omega]
      exact zb218_111 (D := D2 + 167) hT rfl (b21 c (by omega)) LWB (fun x => h2 _ _ (Or.inr ⟨0, by rw [if_neg x], rfl, g3⟩) g4 ⟨n, k, Inv_fr g2 g1 hI0⟩) (fun x => h2 _ _ (Or.inr ⟨1, by rw [if_pos x], rfl, g3⟩) g4 ⟨n, k, Inv_fr g2 g1 hI0⟩)
  · unfold pvP at g
    rw [if_neg hr] at g
    have g := g rfl
    exact zb218_0 (D := D2 + 167) hT i1 hp hw (fun _ hz => g _ hz) (fun _ _ hz => g _ hz) (fun q1 q2 => absurd ⟨by omega, by omega⟩ hr) (fun q1 q2 => absurd ⟨by omega, by omega⟩ hr) (fun q1 q2 => absurd ⟨by omega, by omega⟩ hr) (fun q1 q2 => absurd ⟨by omega, by omega⟩ hr) (fun q1 q2 => absurd ⟨by omega, by omega⟩ hr) (fun q1 q2 => absurd ⟨by omega, by omega⟩ hr) (fun q1 q2 => absurd ⟨by omega, by omega⟩ hr) (fun q1 q2 => absurd ⟨by omega, by omega⟩ hr) (fun q1 q2 => absurd ⟨by omega, by omega⟩ hr) (fun q1 q2 => absurd ⟨by omega, by omega⟩ hr)
set_option maxHeartbeats 4000000 in
theorem xc_cloth (hT : zRules T) {sc : zSc} {n k : Nat} {m : zM} {p w : Int} (hp : isI p) (hw : isI w) (hI : Inv B sc n k m) : XC T 118 3 [(0, zr 1), (1, zi p), (2, zi w)] m (pvC m n k p w) := by
  intro D κ hκ
  obtain ⟨i1, i2, i3, i4, i5, i6, i7, i8, i9, i10, i11⟩ := hI
  obtain ⟨⟨n1, n2⟩, ⟨k1, k2⟩, hh, hRel, hok⟩ := i4
  have b17 : 0 ≤ m 17 0 ∧ m 17 0 ≤ 6 := i1 17 0
  have b171 : 0 ≤ m 17 1 ∧ m 17 1 ≤ 8 := i1 17 1
  have yes : ∀ v : Int, pvC m n k p w = some v → κ (some (zi v)) m := fun v e => by
    have := hκ m i1 zFr.refl
    rw [e] at this
    exact this
  have nil : pvC m n k p w = none → κ none m := fun e => by
    have := hκ m i1 zFr.refl
    rw [e] at this
    exact this
  by_cases hr : 0 ≤ p ∧ p < k
  · obtain ⟨c, rfl⟩ : ∃ a : Nat, p = (a : Int) := ⟨p.toNat, by omega⟩
    unfold pvC at yes nil
    rw [if_pos hr, Int.toNat_natCast] at yes nil
    refine zb118_0n hT i1 (by omega) hw (fun x => by omega) (fun _ w0 => yes _ (by rw [if_pos w0])) (fun _ w0 w1 => yes _ (by rw [if_neg w0, if_pos w1])) (fun _ w0 w1 w2 => yes _ (by rw [if_neg w0, if_neg w1, if_pos w2])) (fun _ w0 w1 w2 w3 => yes _ (by rw [if_neg w0, if_neg w1, if_neg w2, if_pos w3])) (fun _ w0 w1 w2 w3 w4 => ?_) (fun _ w0 w1 w2 w3 w4 => nil (by rw [if_neg w0, if_neg w1, if_neg w2, if_neg w3, if_neg w4]))
    have hw1 := wIx_b (f := m 20) (c := (c : Int)) n 0
    refine z_wearerOf (n := n) hT i1 (by omega) n1 ?_
    exact zb118_103 hT rfl (by omega) (yes _ (by rw [if_neg w0, if_neg w1, if_neg w2, if_neg w3, if_pos w4]))
  · unfold pvC at nil
    rw [if_neg hr] at nil
    have nil := nil rfl
    exact zb118_0 hT i1 hp hw (fun _ => nil) (fun _ _ => nil) (fun q1 q2 => absurd ⟨by omega, by omega⟩ hr) (fun q1 q2 => absurd ⟨by omega, by omega⟩ hr) (fun q1 q2 => absurd ⟨by omega, by omega⟩ hr) (fun q1 q2 => absurd ⟨by omega, by omega⟩ hr) (fun q1 q2 => absurd ⟨by omega, by omega⟩ hr) (fun q1 q2 => absurd ⟨by omega, by omega⟩ hr)
set_option maxHeartbeats 4000000 in
theorem xr_cloth (hT : zRules T) {sc : zSc} {n k : Nat} {m : zM} {p w : Int} (hp : isI p) (hw : isI w) (hI : Inv B sc n k m) : XR T B sc 219 3 [(0, zr 74), (1, zi p), (2, zi w)] m (pvC m n k p w) := by
  intro D2 κ2 h2
  have hI0 := hI
  obtain ⟨i1, i2, i3, i4, i5, i6, i7, i8, i9, i10, i11⟩ := hI
  have hA12 : Agree coreK m (zu m 74 12 0) := .of (L := [(74, some 12)]) (zFr.refl.set rfl) rfl
  have hA121 : Agree coreK m (zu (zu m 74 12 0) 74 12 1) := .of (L := [(74, some 12)]) ((zFr.refl.set rfl).set rfl) rfl
  obtain ⟨⟨n1, n2⟩, ⟨k1, k2⟩, hh, hRel, hok⟩ := i4
  have b17 : 0 ≤ m 17 0 ∧ m 17 0 ≤ 6 := i1 17 0
  have b171 : 0 ≤ m 17 1 ∧ m 17 1 ≤ 8 := i1 17 1
  have f : ∀ v : Int, pvC m n k p w = some v → zB (zu m 74 12 0) → κ2 (some (zi v)) (zu m 74 12 0) := fun v e hz => h2 _ _ (Or.inr ⟨v, e, rfl, by rw [zu_sm rfl]⟩) rfl ⟨n, k, Inv_fr hA12 hz hI0⟩
  have g : pvC m n k p w = none → ∀ v : Option zA, zB (zu (zu m 74 12 0) 74 12 1) → κ2 v (zu (zu m 74 12 0) 74 12 1) := fun e v hz => h2 _ _ (Or.inl ⟨e, by rw [zu_sm rfl]⟩) rfl ⟨n, k, Inv_fr hA121 hz hI0⟩
  by_cases hr : 0 ≤ p ∧ p < k
  · obtain ⟨c, rfl⟩ : ∃ a : Nat, p = (a : Int) := ⟨p.toNat, by omega⟩
    obtain ⟨r1, r2, r3⟩ := hRel.2.1 c (by omega)
    unfold pvC at f g
    rw [if_pos hr, Int.toNat_natCast] at f g
    refine zb219_0n hT i1 (by omega) hw (fun x => by omega) (fun _ x hz => g (by rw [if_neg (by omega), if_neg (by omega), if_neg (by omega), if_neg (by omega), if_neg (by omega)]) _ hz) (fun _ _ x hz => g (by rw [if_neg (by omega), if_neg (by omega), if_neg (by omega), if_neg (by omega), if_neg (by omega)]) _ hz) (fun _ _ _ w0 hz => f _ (by rw [if_pos w0, r1]) hz) (fun _ _ _ w0 w1 hz => f _ (by rw [if_neg w0, if_pos w1, r2]) hz) (fun _ _ _ w0 w1 w2 hz => f _ (by rw [if_neg w0, if_neg w1, if_pos w2, r1, r2]) hz) (fun _ _ _ w0 w1 w2 w3 hz => f _ (by rw [if_neg w0, if_neg w1, if_neg w2, if_pos w3, r3]) hz) (fun _ _ _ w0 w1 w2 w3 hz => ?_)
    have hw1 := wIx_b (f := m 20) (c := (c : Int)) n 0
    have ew : wIx (m 20) (c : Int) 0 n = wIx (fun p => m 75 (p + 6)) (c : Int) 0 n := wIx_congr n 0 (fun i _ hi => (hRel.1 i (by omega)).2)
    refine z_wearer (n := n) hT hz (by omega) n2 ?_
    rw [show (fun p => (zu m 74 12 0) 75 (p + 6)) = fun p => m 75 (p + 6) from rfl, ← ew]
    exact zb219_119 hT rfl (by omega) (f _ (by rw [if_neg w0, if_neg w1, if_neg w2, if_neg w3, if_pos (by omega)]) hz)
  · unfold pvC at g
    rw [if_neg hr] at g
    have g := g rfl
    exact zb219_0 hT i1 hp hw (fun _ hz => g _ hz) (fun _ _ hz => g _ hz) (fun q1 q2 => absurd ⟨by omega, by omega⟩ hr) (fun q1 q2 => absurd ⟨by omega, by omega⟩ hr) (fun q1 q2 => absurd ⟨by omega, by omega⟩ hr) (fun q1 q2 => absurd ⟨by omega, by omega⟩ hr) (fun q1 q2 => absurd ⟨by omega, by omega⟩ hr) (fun q1 q2 => absurd ⟨by omega, by omega⟩ hr) (fun q1 q2 => absurd ⟨by omega, by omega⟩ hr) (fun q1 q2 => absurd ⟨by omega, by omega⟩ hr) (fun q1 q2 => absurd ⟨by omega, by omega⟩ hr) (fun q1 q2 => absurd ⟨by omega, by omega⟩ hr) (fun q1 q2 => absurd ⟨by omega, by omega⟩ hr) (fun q1 q2 => absurd ⟨by omega, by omega⟩ hr)
theorem xc_piece (hT : zRules T) {sc : zSc} {n k : Nat} {m : zM} {p : Int} (hp : isI p) (hI : Inv B sc n k m) : XC T 130 2 [(0, zr 1), (1, zi p)] m (pvI m p) := by
  intro D κ hκ
  have i1 := hI.1
  have h0 := hκ m i1 zFr.refl
  unfold pvI at h0
  refine zb130_0 hT i1 hp (fun q => ?_) (fun q1 q2 => ?_) (fun q1 q2 => ?_)
  · rw [if_neg (by omega)] at h0
    exact h0
  · rw [if_neg (by omega)] at h0
    exact h0
  · rw [if_pos (by omega)] at h0
    exact h0
theorem xr_piece (hT : zRules T) {sc : zSc} {n k : Nat} {m : zM} {p : Int} (hp : isI p) (hI : Inv B sc n k m) : XR T B sc 242 2 [(0, zr 74), (1, zi p)] m (pvI m p) := by
  intro D2 κ2 h2
  have hI0 := hI
  obtain ⟨i1, i2, i3, i4, i5, i6, i7, i8, i9, i10, i11⟩ := hI
  have hA12 : Agree coreK m (zu m 74 12 0) := .of (L := [(74, some 12)]) (zFr.refl.set rfl) rfl
  have hA121 : Agree coreK m (zu (zu m 74 12 0) 74 12 1) := .of (L := [(74, some 12)]) ((zFr.refl.set rfl).set rfl) rfl
  obtain ⟨⟨n1, n2⟩, ⟨k1, k2⟩, hh, hRel, hok⟩ := i4
  have b25 : 0 ≤ m 25 2 ∧ m 25 2 ≤ 20 := i1 25 2
  have e56 : m 25 2 = m 75 56 := hRel.2.2.1
  have g : pvI m p = none → ∀ v : Option zA, zB (zu (zu m 74 12 0) 74 12 1) → κ2 v (zu (zu m 74 12 0) 74 12 1) := fun e v hz => h2 _ _ (Or.inl ⟨e, by rw [zu_sm rfl]⟩) rfl ⟨n, k, Inv_fr hA121 hz hI0⟩
  by_cases hr : 0 ≤ p ∧ p < m 25 2
  · obtain ⟨a, rfl⟩ : ∃ a : Nat, p = (a : Int) := ⟨p.toNat, by omega⟩
    refine zb242_0n hT i1 (by omega) (fun x => by omega) (fun _ hz => ?_)
    rw [← hRel.2.2.2.1 a (by omega)]
    exact h2 _ _ (Or.inr ⟨_, by unfold pvI; rw [if_pos hr, Int.toNat_natCast], rfl, by rw [zu_sm rfl]⟩) rfl ⟨n, k, Inv_fr hA12 hz hI0⟩
  · have g := g (by unfold pvI; rw [if_neg hr])
    exact zb242_0 hT i1 hp (fun _ hz => g _ hz) (fun _ _ hz => g _ hz) (fun q1 q2 => absurd ⟨by omega, by omega⟩ hr) (fun q1 q2 => absurd ⟨by omega, by omega⟩ hr)
/-- the answers behind the law's write, and behind the class's own call -/
theorem pvP_fr {m N : zM} {n : Nat} {p w : Int} (hF : zFr (inL [(13, none), (109, none)]) m N) : pvP N n p w = pvP m n p w := by
  have eL : LW N = LW m := (Agree.of hF rfl : Agree KL m N).law.2
  unfold pvP
  rw [eL, hF 17 11 rfl, hF 18 p.toNat rfl, hF 19 p.toNat rfl, hF 20 p.toNat rfl, hF 21 _ rfl]
theorem pvC_fr {m N : zM} {n k : Nat} {p w : Int} (hF : zFr (inL [(13, none), (109, none)]) m N) : pvC N n k p w = pvC m n k p w := by
  have e20 : N 20 = m 20 := funext (fun j => hF 20 j rfl)
  unfold pvC
  rw [e20, hF 21 p.toNat rfl, hF 22 p.toNat rfl, hF 23 p.toNat rfl]
theorem pvI_fr {m N : zM} {p : Int} (hF : zFr (inL [(13, none), (109, none)]) m N) : pvI N p = pvI m p := by
  unfold pvI
  rw [hF 25 2 rfl, hF 26 p.toNat rfl]
theorem xfr13 {m m1 : zM} (h : zFr (rowW 13) m m1) : zFr (inL [(13, none), (109, none)]) m m1 := h.sub (fun c j q => by
  have := Nat.eq_of_beq_eq_true q
  subst this
  rfl)
theorem xfr109 {m m1 : zM} {v : Int} (h : zFr (rowW 13) m m1) : zFr (inL [(13, none), (109, none)]) m (zu m1 109 0 v) := (xfr13 h).set rfl
theorem xInv13 {sc : zSc} {n k : Nat} {m m1 : zM} (hI : Inv B sc n k m) (hB : zB m1) (h : zFr (rowW 13) m m1) : Inv B sc n k m1 := Inv_fr (.of (rowW13 h) rfl) hB hI
theorem xInv109 {sc : zSc} {n k : Nat} {m m1 : zM} {v : Int} (hI : Inv B sc n k m) (hB : zB m1) (h : zFr (rowW 13) m m1) : Inv B sc n k (zu m1 109 0 v) := Inv_fr (.of (L := [(109, some 0)]) (zFr.refl.set rfl) rfl) (zB_u hB trivial) (xInv13 hI hB h)
end ZXRead
end
