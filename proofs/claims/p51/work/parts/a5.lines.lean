/-! house(): the lines as they are told; read by the class. -/
noncomputable def prS (s : Nat → Int) (a : Nat) : Option (Int × Int × Nat) := match twoS s a with
  | .inl _ => none
  | .inr q => if q.1 = 0 then none else if s q.2 = 64 ∧ 48 ≤ s (q.2 + 1) ∧ s (q.2 + 1) ≤ 51 then some (q.1, s (q.2 + 1) - 48, q.2 + 2) else none
noncomputable def clS (s : Nat → Int) (a : Nat) : Option (Int × Int × Nat) := match twoS s a with
  | .inl _ => none
  | .inr q => if s q.2 = 43 then (if 48 ≤ s (q.2 + 1) ∧ s (q.2 + 1) ≤ 57 then some (q.1, s (q.2 + 1) - 48, q.2 + 2) else none) else some (q.1, 0, q.2)
/-- the line that begins at a, so many people and cloths being told: of a person or a cloth, its numbers, where it ends -/
noncomputable def lnS (s : Nat → Int) (p c a : Nat) : Option (Bool × Int × Int × Nat) :=
  if s a = 112 ∧ p < 6 then (match prS s (a + 1) with
    | none => none
    | some q => some (true, q))
  else if s a = 99 ∧ c < 8 then (match clS s (a + 1) with
    | none => none
    | some q => some (false, q))
  else none
noncomputable abbrev hTy : Type := Nat × Nat × (Nat → Int) × (Nat → Int) × (Nat → Int) × (Nat → Int)
noncomputable def hsR (s : Nat → Int) (L : Nat) : Nat → Nat → Nat → Nat → (Nat → Int) → (Nat → Int) → (Nat → Int) → (Nat → Int) → Option hTy
  | 0, _, _, _, _, _, _, _ => none
  | j + 1, p, c, a, fx, fy, gx, gy => match lnS s p c a with
    | none => none
    | some (true, x, y, b) => if b = L then some (p + 1, c, fu fx p x, fu fy p y, gx, gy) else if s b = 59 then hsR s L j (p + 1) c (b + 1) (fu fx p x) (fu fy p y) gx gy else none
    | some (false, x, y, b) => if b = L then some (p, c + 1, fx, fy, fu gx c x, fu gy c y) else if s b = 59 then hsR s L j p (c + 1) (b + 1) fx fy (fu gx c x) (fu gy c y) else none
theorem prS_b {s : Nat → Int} {L : Nat} (hs : ∀ a, L ≤ a → s a = -1) {a b : Nat} {x y : Int} (ha : a ≤ L) (h : prS s a = some (x, y, b)) : a + 1 ≤ b ∧ b ≤ L ∧ (1 ≤ x ∧ x ≤ 99) ∧ (0 ≤ y ∧ y ≤ 3) := by
  have lt : ∀ b, ¬ s b = -1 → b < L := fun b h => by
    rcases Nat.lt_or_ge b L with x | x
    · exact x
    · exact absurd (hs b x) h
  unfold prS at h
  cases ht : twoS s a with
  | inl w => rw [ht] at h; cases h
  | inr w =>
    obtain ⟨v, c⟩ := w
    rw [ht] at h
    dsimp only at h
    have hb := (twoS_b hs ha).2 v c ht
    by_cases q : v = 0
    · rw [if_pos q] at h
      cases h
    · rw [if_neg q] at h
      by_cases q2 : s c = 64 ∧ 48 ≤ s (c + 1) ∧ s (c + 1) ≤ 51
      · rw [if_pos q2] at h
        cases h
        have := lt c (by omega)
        have := lt (c + 1) (by omega)
        omega
      · rw [if_neg q2] at h
        cases h
theorem clS_b {s : Nat → Int} {L : Nat} (hs : ∀ a, L ≤ a → s a = -1) {a b : Nat} {x y : Int} (ha : a ≤ L) (h : clS s a = some (x, y, b)) : a + 1 ≤ b ∧ b ≤ L ∧ (0 ≤ x ∧ x ≤ 99) ∧ (0 ≤ y ∧ y ≤ 9) := by
  have lt : ∀ b, ¬ s b = -1 → b < L := fun b h => by
    rcases Nat.lt_or_ge b L with x | x
    · exact x
    · exact absurd (hs b x) h
  unfold clS at h
  cases ht : twoS s a with
  | inl w => rw [ht] at h; cases h
  | inr w =>
    obtain ⟨v, c⟩ := w
    rw [ht] at h
    dsimp only at h
    have hb := (twoS_b hs ha).2 v c ht
    by_cases q : s c = 43
    · rw [if_pos q] at h
      by_cases q2 : 48 ≤ s (c + 1) ∧ s (c + 1) ≤ 57
      · rw [if_pos q2] at h
        cases h
        have := lt c (by omega)
        have := lt (c + 1) (by omega)
        omega
      · rw [if_neg q2] at h
        cases h
    · rw [if_neg q] at h
      cases h
      omega
theorem lnS_b {s : Nat → Int} {L : Nat} (hs : ∀ a, L ≤ a → s a = -1) {a b p c : Nat} {x y : Int} {kd : Bool} (ha : a ≤ L) (h : lnS s p c a = some (kd, x, y, b)) : a + 2 ≤ b ∧ b ≤ L ∧ (kd = true → p < 6 ∧ (1 ≤ x ∧ x ≤ 99) ∧ (0 ≤ y ∧ y ≤ 3)) ∧ (kd = false → c < 8 ∧ (0 ≤ x ∧ x ≤ 99) ∧ (0 ≤ y ∧ y ≤ 9)) := by
  have lt : ∀ b, ¬ s b = -1 → b < L := fun b h => by
    rcases Nat.lt_or_ge b L with x | x
    · exact x
    · exact absurd (hs b x) h
  unfold lnS at h
  by_cases q : s a = 112 ∧ p < 6
  · rw [if_pos q] at h
    have := lt a (by omega)
    cases hp : prS s (a + 1) with
    | none => rw [hp] at h; cases h
    | some w =>
      rw [hp] at h
      cases h
      have hb := prS_b hs (by omega) hp
      exact ⟨by omega, by omega, (fun _ => ⟨q.2, hb.2.2.1, hb.2.2.2⟩), (fun e => by cases e)⟩
  · rw [if_neg q] at h
    by_cases q2 : s a = 99 ∧ c < 8
    · rw [if_pos q2] at h
      have := lt a (by omega)
      cases hp : clS s (a + 1) with
      | none => rw [hp] at h; cases h
      | some w =>
        rw [hp] at h
        cases h
        have hb := clS_b hs (by omega) hp
        exact ⟨by omega, by omega, (fun e => by cases e), (fun _ => ⟨q2.2, hb.2.2.1, hb.2.2.2⟩)⟩
    · rw [if_neg q2] at h
      cases h
section ZLines
variable {T : Nat → Nat → zG → (Option zA → zM → Prop) → Prop} {D : Nat} {κ : Option zA → zM → Prop} {m : zM} {s : Nat → Int} {L : Nat}
noncomputable def yhL : zLs := [(2, some 3), (18, none), (19, none), (20, none), (21, none), (22, none), (23, none)]
theorem sC_h {M : zM} (hF : zFr (inL yhL) m M) : sgC M = sgC m := by
  funext a
  have e1 : M 2 2 = m 2 2 := hF 2 2 rfl
  have e2 : M 3 a = m 3 a := hF 3 a rfl
  unfold sgC
  rw [e1, e2]
theorem nx_h {M : zM} {a : Nat} (hsd : s = sgC m) (hF : zFr (inL yhL) m M) (h : M 2 3 = (a : Int)) : nxC M = s a := by
  have e : zu M 2 3 (a : Int) = M := zu_id h
  rw [hsd, ← sC_h hF, ← nx_at, e]
/-- a number of one or two digits, by the class -/
theorem z_twoC (hT : zRules T) {N : zM} {a : Nat} (hBN : zB N) (hs : sgC N = s) (h23 : N 2 3 = (a : Int)) (ha : a ≤ 80)
    (h0 : twoS s a = .inl a → κ (some (zi (-1))) N)
    (h1 : ∀ v b, twoS s a = .inr (v, b) → (0 ≤ v ∧ v ≤ 99) → a + 1 ≤ b → b ≤ 82 → zB (zu N 2 3 (b : Int)) → κ (some (zi v)) (zu N 2 3 (b : Int))) : T (D + 3) 72 (0, [(0, zr 2), (1, zi 2)], [], N) κ := by
  have lt : ∀ b, 80 ≤ b → s b = -1 := fun b hb => by
    have h22 : 0 ≤ N 2 2 ∧ N 2 2 ≤ 80 := hBN 2 2
    rw [← hs]
    unfold sgC
    rw [if_neg (by omega)]
  refine z_num_2 (D := D) (a := a) hT hBN h23 ha (fun c1 c2 hz => ?_) (fun c => ?_)
  · rw [hs] at c1 c2 hz ⊢
    have e2 : twoS s a = .inr ((rNum s 2 a 0).2, (rNum s 2 a 0).1) := by
      unfold twoS
      rw [if_pos ⟨c1, c2⟩]
    obtain ⟨t1, t2, t3, t4⟩ := (twoS_b lt ha).2 _ _ e2
    exact h1 _ _ e2 ⟨t3, t4⟩ t1 (by omega) hz
  · rw [hs] at c
    exact h0 (two0 c)
theorem z_personC (hT : zRules T) (hsd : s = sgC m) {N : zM} {a p : Nat} (hBN : zB N) (hF : zFr (inL yhL) m N) (h23 : N 2 3 = (a : Int)) (ha : a ≤ 77) (hp : p ≤ 5)
    (h0 : ∀ M, prS s a = none → zB M → zFr (inL yhL) m M → (∀ q, q ≠ p → M 18 q = N 18 q ∧ M 19 q = N 19 q ∧ M 20 q = N 20 q) → (∀ q, M 21 q = N 21 q ∧ M 22 q = N 22 q ∧ M 23 q = N 23 q) → κ (some (zi 0)) M)
    (h1 : ∀ x y b M, prS s a = some (x, y, b) → zB M → zFr (inL yhL) m M → M 2 3 = (b : Int) → M 18 p = x → M 19 p = y → M 20 p = -1 → (∀ q, q ≠ p → M 18 q = N 18 q ∧ M 19 q = N 19 q ∧ M 20 q = N 20 q) → (∀ q, M 21 q = N 21 q ∧ M 22 q = N 22 q ∧ M 23 q = N 23 q) → κ (some (zi 1)) M) : T (D + 4) 40 (0, [(0, zr 17), (1, zr 2), (2, zi (p : Int))], [], N) κ := by
  have hs : sgC N = s := by rw [hsd]; exact sC_h hF
  refine zb40_0 (D := D) hT hBN hp (by omega) ?_
  rw [h23]
  refine z_twoC (D := D) hT hBN hs h23 (by omega) (fun ht => ?_) (fun v b ht hv hab hb82 hz => ?_)
  · have e : prS s a = none := by
      unfold prS
      rw [ht]
    refine zb40_15 (D := D) (f := a) hT rfl hBN hp (by omega) (by omega) (by omega) (fun _ _ hz => ?_) (fun _ q => absurd rfl q) (fun _ q => absurd rfl q) (fun _ q => absurd rfl q) (fun _ q => absurd rfl q) (fun q => by omega) (fun q => by omega) (fun q => by omega) (fun q => by omega) (fun q => by omega) (fun q => by omega) (fun q => by omega)
    exact h0 _ e hz (hF.set rfl) (fun q hq => ⟨by rw [zu_off hq], by rw [zu_dn (by omega)], by rw [zu_dn (by omega)]⟩) (fun q => ⟨by rw [zu_dn (by omega)], by rw [zu_dn (by omega)], by rw [zu_dn (by omega)]⟩)
  · have hF1 : zFr (inL yhL) m (zu N 2 3 (b : Int)) := hF.set rfl
    have g1 : (zu N 2 3 (b : Int)) 2 3 = (b : Int) := by rw [zu_sm rfl]
    have o1 : ∀ c j, c ≠ 2 → (zu N 2 3 (b : Int)) c j = N c j := fun c j hc => zu_dn hc
    generalize zu N 2 3 (b : Int) = N1 at hz hF1 g1 o1 ⊢
    have hn1 : nxC (zu N1 18 p v) = s b := nx_h hsd (hF1.set rfl) (by rw [zu_dn (by omega)]; exact g1)
    have hn2 : nxC (zu (zu N1 18 p v) 2 3 (N1 2 3 + 1)) = s (b + 1) := nx_h hsd ((hF1.set rfl).set rfl) (by rw [zu_sm rfl, g1]; omega)
    have b23 : 0 ≤ N1 2 3 ∧ N1 2 3 ≤ 90 := by omega
    have none0 : v = 0 → prS s a = none := fun q => by
      unfold prS
      rw [ht]
      dsimp only
      rw [if_pos q]
    have none1 : ¬ (s b = 64 ∧ 48 ≤ s (b + 1) ∧ s (b + 1) ≤ 51) → prS s a = none := fun q => by
      unfold prS
      rw [ht]
      dsimp only
      by_cases q0 : v = 0
      · rw [if_pos q0]
      · rw [if_neg q0, if_neg q]
    have bad : ∀ M, prS s a = none → zB M → zFr (inL [(2, some 3), (18, some p), (19, some p), (20, some p)]) N1 M → κ (some (zi 0)) M := fun M e hBM hFM => h0 M e hBM (hF1.trans (hFM.sub (fun c j q => by
      simp only [inL, List.any_cons, List.any_nil, Bool.or_false, Bool.or_eq_true, Bool.and_eq_true] at q
      rcases q with ⟨e1, e2⟩ | ⟨e1, _⟩ | ⟨e1, _⟩ | ⟨e1, _⟩
      · have h1 := Nat.eq_of_beq_eq_true e1
        have h2 := Nat.eq_of_beq_eq_true e2
        subst h1 h2
        rfl
      · have h1 := Nat.eq_of_beq_eq_true e1
        subst h1
        rfl
      · have h1 := Nat.eq_of_beq_eq_true e1
        subst h1
        rfl
      · have h1 := Nat.eq_of_beq_eq_true e1
        subst h1
        rfl))) (fun q hq => by
      have e : Nat.beq p q = false := q_beqF (fun x => hq x.symm)
      exact ⟨by rw [hFM 18 q (by simp [inL, e]), o1 18 q (by omega)], by rw [hFM 19 q (by simp [inL, e]), o1 19 q (by omega)], by rw [hFM 20 q (by simp [inL, e]), o1 20 q (by omega)]⟩) (fun q => ⟨by rw [hFM 21 q rfl, o1 21 q (by omega)], by rw [hFM 22 q rfl, o1 22 q (by omega)], by rw [hFM 23 q rfl, o1 23 q (by omega)]⟩)
    have pb : ∀ c, inL [(2, some 3), (18, some p), (19, some p), (20, some p)] c p = true ∨ ¬ (c = 18 ∨ c = 19 ∨ c = 20) := fun c => by
      by_cases e : c = 18 ∨ c = 19 ∨ c = 20
      · left
        rcases e with rfl | rfl | rfl <;> simp [inL]
      · exact Or.inr e
    have p18 : inL [(2, some 3), (18, some p), (19, some p), (20, some p)] 18 p = true := by simp [inL]
    have p19 : inL [(2, some 3), (18, some p), (19, some p), (20, some p)] 19 p = true := by simp [inL]
    have p20 : inL [(2, some 3), (18, some p), (19, some p), (20, some p)] 20 p = true := by simp [inL]
    have p2 : inL [(2, some 3), (18, some p), (19, some p), (20, some p)] 2 3 = true := rfl
    have ok : ¬ v = 0 → s b = 64 → 48 ≤ s (b + 1) → s (b + 1) ≤ 51 → zB (zu (zu (zu (zu (zu N1 18 p v) 2 3 (N1 2 3 + 1)) 2 3 (N1 2 3 + 1 + 1)) 19 p (s (b + 1) - 48)) 20 p (-1)) → κ (some (zi 1)) (zu (zu (zu (zu (zu N1 18 p v) 2 3 (N1 2 3 + 1)) 2 3 (N1 2 3 + 1 + 1)) 19 p (s (b + 1) - 48)) 20 p (-1)) := fun q0 q1 q2 q3 hz2 => by
      refine h1 v (s (b + 1) - 48) (b + 2) _ ?_ hz2 (((((hF1.set rfl).set rfl).set rfl).set rfl).set rfl) ?_ ?_ ?_ ?_ (fun q hq => ⟨?_, ?_, ?_⟩) (fun q => ⟨?_, ?_, ?_⟩)
      · unfold prS
        rw [ht]
        dsimp only
        rw [if_neg q0, if_pos ⟨q1, q2, q3⟩]
      · rw [zu_dn (by omega), zu_dn (by omega), zu_sm rfl, g1]
        omega
      · simp (disch := omega) only [zu_sm, zu_off, zu_dn]
      · simp (disch := omega) only [zu_sm, zu_off, zu_dn]
      · rw [zu_sm rfl]
      · simp (disch := omega) only [zu_off, zu_dn]
        exact o1 18 q (by omega)
      · simp (disch := omega) only [zu_off, zu_dn]
        exact o1 19 q (by omega)
      · simp (disch := omega) only [zu_off, zu_dn]
        exact o1 20 q (by omega)
      · simp (disch := omega) only [zu_dn]
        exact o1 21 q (by omega)
      · simp (disch := omega) only [zu_dn]
        exact o1 22 q (by omega)
      · simp (disch := omega) only [zu_dn]
        exact o1 23 q (by omega)
    have cut : N1 2 3 = N1 2 2 → s b = -1 := fun q => by
      rw [← hn1]
      unfold nxC
      rw [zu_dn (by omega), zu_dn (by omega), if_neg (by omega)]
    refine zb40_15 (D := D) (f := a) hT rfl hz hp (by omega) (by omega) b23 ?_ ?_ ?_ ?_ ?_ ?_ ?_ ?_ ?_ ?_ ?_ ?_
    · exact fun _ q => by omega
    · rw [hn1, hn2]
      exact fun _ _ q1 q2 hz2 => bad _ (none1 (by omega)) hz2 ((((zFr.refl.set p18).set p2).set p19).set p20)
    · rw [hn1]
      intro q0 _ q1 q2 q3 hz2
      rw [hn2] at q2 q3 hz2 ⊢
      exact ok q0 q1 (by omega) (by omega) hz2
    · rw [hn1, hn2]
      exact fun _ _ q1 _ q2 hz2 => bad _ (none1 (by omega)) hz2 ((((zFr.refl.set p18).set p2).set p19).set p20)
    · rw [hn1]
      exact fun _ _ q1 hz2 => bad _ (none1 (fun x => q1 x.1)) hz2 (zFr.refl.set p18)
    · exact fun q0 _ hz2 => bad _ (none0 q0) hz2 ((zFr.refl.set p18).set p2)
    · exact fun q0 _ _ hz2 => bad _ (none0 q0) hz2 ((zFr.refl.set p18).set p2)
    · exact fun q0 _ _ _ hz2 => bad _ (none0 q0) hz2 ((zFr.refl.set p18).set p2)
    · rw [hn1]
      exact fun _ _ q1 _ q2 => by have := cut q1; omega
    · rw [hn1]
      exact fun _ _ q1 _ q2 => by have := cut q1; omega
    · rw [hn1]
      exact fun _ _ q1 _ q2 => by have := cut q1; omega
    · exact fun q0 _ _ _ _ hz2 => bad _ (none0 q0) hz2 (zFr.refl.set p18)
theorem z_clothC (hT : zRules T) (hsd : s = sgC m) {N : zM} {a p : Nat} (hBN : zB N) (hF : zFr (inL yhL) m N) (h23 : N 2 3 = (a : Int)) (ha : a ≤ 77) (hp : p ≤ 7)
    (h0 : ∀ M, clS s a = none → zB M → zFr (inL yhL) m M → (∀ q, q ≠ p → M 21 q = N 21 q ∧ M 22 q = N 22 q ∧ M 23 q = N 23 q) → (∀ q, M 18 q = N 18 q ∧ M 19 q = N 19 q ∧ M 20 q = N 20 q) → κ (some (zi 0)) M)
    (h1 : ∀ x y b M, clS s a = some (x, y, b) → zB M → zFr (inL yhL) m M → M 2 3 = (b : Int) → M 21 p = x → M 22 p = y → M 23 p = 0 → (∀ q, q ≠ p → M 21 q = N 21 q ∧ M 22 q = N 22 q ∧ M 23 q = N 23 q) → (∀ q, M 18 q = N 18 q ∧ M 19 q = N 19 q ∧ M 20 q = N 20 q) → κ (some (zi 1)) M) : T (D + 4) 41 (0, [(0, zr 17), (1, zr 2), (2, zi (p : Int))], [], N) κ := by
  have hs : sgC N = s := by rw [hsd]; exact sC_h hF
  refine zb41_0 (D := D) hT hBN hp (by omega) ?_
  refine z_twoC (D := D) hT hBN hs h23 (by omega) (fun ht => ?_) (fun v b ht hv hab hb82 hz => ?_)
  · have e : clS s a = none := by
      unfold clS
      rw [ht]
    refine zb41_10 (D := D) hT rfl hBN hp (by omega) (by omega) (fun q => absurd rfl q) (fun q => absurd rfl q) (fun q => absurd rfl q) (fun q => absurd rfl q) (fun _ hz => ?_)
    exact h0 _ e hz (hF.set rfl) (fun q hq => ⟨by rw [zu_off hq], by rw [zu_dn (by omega)], by rw [zu_dn (by omega)]⟩) (fun q => ⟨by rw [zu_dn (by omega)], by rw [zu_dn (by omega)], by rw [zu_dn (by omega)]⟩)
  · have hF1 : zFr (inL yhL) m (zu N 2 3 (b : Int)) := hF.set rfl
    have g1 : (zu N 2 3 (b : Int)) 2 3 = (b : Int) := by rw [zu_sm rfl]
    have o1 : ∀ c j, c ≠ 2 → (zu N 2 3 (b : Int)) c j = N c j := fun c j hc => zu_dn hc
    generalize zu N 2 3 (b : Int) = N1 at hz hF1 g1 o1 ⊢
    have hn1 : nxC (zu N1 21 p v) = s b := nx_h hsd (hF1.set rfl) (by rw [zu_dn (by omega)]; exact g1)
    have hn2 : nxC (zu (zu N1 21 p v) 2 3 (N1 2 3 + 1)) = s (b + 1) := nx_h hsd ((hF1.set rfl).set rfl) (by rw [zu_sm rfl, g1]; omega)
    have b23 : 0 ≤ N1 2 3 ∧ N1 2 3 ≤ 90 := by omega
    have bad : s b = 43 → ¬ (48 ≤ s (b + 1) ∧ s (b + 1) ≤ 57) → zB (zu (zu (zu (zu N1 21 p v) 2 3 (N1 2 3 + 1)) 22 p (-1)) 23 p 0) → κ (some (zi 0)) (zu (zu (zu (zu N1 21 p v) 2 3 (N1 2 3 + 1)) 22 p (-1)) 23 p 0) := fun q1 q2 hz2 => by
      refine h0 _ ?_ hz2 ((((hF1.set rfl).set rfl).set rfl).set rfl) (fun q hq => ⟨?_, ?_, ?_⟩) (fun q => ⟨?_, ?_, ?_⟩)
      · unfold clS
        rw [ht]
        dsimp only
        rw [if_pos q1, if_neg q2]
      · simp (disch := omega) only [zu_off, zu_dn]
        exact o1 21 q (by omega)
      · simp (disch := omega) only [zu_off, zu_dn]
        exact o1 22 q (by omega)
      · simp (disch := omega) only [zu_off, zu_dn]
        exact o1 23 q (by omega)
      · simp (disch := omega) only [zu_dn]
        exact o1 18 q (by omega)
      · simp (disch := omega) only [zu_dn]
        exact o1 19 q (by omega)
      · simp (disch := omega) only [zu_dn]
        exact o1 20 q (by omega)
    refine zb41_10 (D := D) hT rfl hz hp (by omega) b23 ?_ ?_ ?_ ?_ ?_
    · rw [hn1, hn2]
      exact fun _ q1 q2 hz2 => bad q1 (by omega) hz2
    · rw [hn1]
      intro _ q1 q2 q3 hz2
      rw [hn2] at q2 q3 hz2 ⊢
      refine h1 v (s (b + 1) - 48) (b + 2) _ ?_ hz2 (((((hF1.set rfl).set rfl).set rfl).set rfl).set rfl) ?_ ?_ ?_ ?_ (fun q hq => ⟨?_, ?_, ?_⟩) (fun q => ⟨?_, ?_, ?_⟩)
      · unfold clS
        rw [ht]
        dsimp only
        rw [if_pos q1, if_pos (by omega)]
      · rw [zu_dn (by omega), zu_dn (by omega), zu_sm rfl, g1]
        omega
      · simp (disch := omega) only [zu_sm, zu_off, zu_dn]
      · simp (disch := omega) only [zu_sm, zu_off, zu_dn]
      · rw [zu_sm rfl]
      · simp (disch := omega) only [zu_off, zu_dn]
        exact o1 21 q (by omega)
      · simp (disch := omega) only [zu_off, zu_dn]
        exact o1 22 q (by omega)
      · simp (disch := omega) only [zu_off, zu_dn]
        exact o1 23 q (by omega)
      · simp (disch := omega) only [zu_dn]
        exact o1 18 q (by omega)
      · simp (disch := omega) only [zu_dn]
        exact o1 19 q (by omega)
      · simp (disch := omega) only [zu_dn]
        exact o1 20 q (by omega)
    · rw [hn1, hn2]
      exact fun _ q1 _ q2 hz2 => bad q1 (by omega) hz2
    · rw [hn1]
      intro _ q1 hz2
      refine h1 v 0 b _ ?_ hz2 (((hF1.set rfl).set rfl).set rfl) ?_ ?_ ?_ ?_ (fun q hq => ⟨?_, ?_, ?_⟩) (fun q => ⟨?_, ?_, ?_⟩)
      · unfold clS
        rw [ht]
        dsimp only
        rw [if_neg q1]
      · rw [zu_dn (by omega), zu_dn (by omega), zu_dn (by omega), g1]
      · simp (disch := omega) only [zu_sm, zu_off, zu_dn]
      · simp (disch := omega) only [zu_sm, zu_off, zu_dn]
      · rw [zu_sm rfl]
      · simp (disch := omega) only [zu_off, zu_dn]
        exact o1 21 q (by omega)
      · simp (disch := omega) only [zu_off, zu_dn]
        exact o1 22 q (by omega)
      · simp (disch := omega) only [zu_off, zu_dn]
        exact o1 23 q (by omega)
      · simp (disch := omega) only [zu_dn]
        exact o1 18 q (by omega)
      · simp (disch := omega) only [zu_dn]
        exact o1 19 q (by omega)
      · simp (disch := omega) only [zu_dn]
        exact o1 20 q (by omega)
    · exact fun q => by omega
/-- what a reading of lines says of the cells of the class -/
noncomputable def HouC (n k : Nat) (m M : zM) (w : hTy) : Prop := (n ≤ w.1 ∧ w.1 ≤ 6) ∧ (k ≤ w.2.1 ∧ w.2.1 ≤ 8) ∧ (∀ q, q < w.1 → M 18 q = w.2.2.1 q ∧ M 19 q = w.2.2.2.1 q) ∧ (∀ q, n ≤ q → q < w.1 → M 20 q = -1 ∧ (1 ≤ w.2.2.1 q ∧ w.2.2.1 q ≤ 99) ∧ (0 ≤ w.2.2.2.1 q ∧ w.2.2.2.1 q ≤ 3)) ∧ (∀ q, q < n → M 18 q = m 18 q ∧ M 19 q = m 19 q ∧ M 20 q = m 20 q) ∧ (∀ q, q < w.2.1 → M 21 q = w.2.2.2.2.1 q ∧ M 22 q = w.2.2.2.2.2 q) ∧ (∀ q, k ≤ q → q < w.2.1 → M 23 q = 0 ∧ (0 ≤ w.2.2.2.2.1 q ∧ w.2.2.2.2.1 q ≤ 99) ∧ (0 ≤ w.2.2.2.2.2 q ∧ w.2.2.2.2.2 q ≤ 9)) ∧ (∀ q, q < k → M 21 q = m 21 q ∧ M 22 q = m 22 q ∧ M 23 q = m 23 q)
set_option maxHeartbeats 4000000 in
theorem z_linesC (hT : zRules T) (hB : zB m) (hsd : s = sgC m) {n k L76 : Nat} (hn : m 17 0 = (n : Int)) (hk : m 17 1 = (k : Int)) (hL : m 2 1 = (L : Int)) (h76 : L76 ≤ 76) (hs : ∀ a, L76 ≤ a → s a = -1) (h230 : m 2 3 = 0)
    (h0 : ∀ M, hsR s L 14 n k 0 (m 18) (m 19) (m 21) (m 22) = none → zB M → zFr (inL yhL) m M → (∀ q, q < n → M 18 q = m 18 q ∧ M 19 q = m 19 q ∧ M 20 q = m 20 q) → (∀ q, q < k → M 21 q = m 21 q ∧ M 22 q = m 22 q ∧ M 23 q = m 23 q) → κ (some (zi (-1))) M)
    (h1 : ∀ w i M, hsR s L 14 n k 0 (m 18) (m 19) (m 21) (m 22) = some w → (1 ≤ i ∧ i ≤ 14) → n + k < w.1 + w.2.1 → zB M → zFr (inL (yhL ++ [(17, some 0), (17, some 1)])) m M → M 17 0 = (w.1 : Int) → M 17 1 = (w.2.1 : Int) → HouC n k m M w → κ (some (zi ((i : Nat) : Int))) M) : T (D + 6) 39 (0, [(0, zr 17), (1, zr 2)], [], m) κ := by
  have b17 : 0 ≤ m 17 0 ∧ m 17 0 ≤ 6 := hB 17 0
  have b171 : 0 ≤ m 17 1 ∧ m 17 1 ≤ 8 := hB 17 1
  refine zb39_0 (D := D) hT hB ?_
  rw [hn, hk]
  have key : ∀ (j i a : Nat) (w : hTy) (M : zM), i + j = 15 → 1 ≤ i → a ≤ L76 → n + k + i = w.1 + w.2.1 + 1 → hsR s L j w.1 w.2.1 a w.2.2.1 w.2.2.2.1 w.2.2.2.2.1 w.2.2.2.2.2 = hsR s L 14 n k 0 (m 18) (m 19) (m 21) (m 22) → zB M → zFr (inL yhL) m M → M 2 3 = (a : Int) → HouC n k m M w → T (D + 6) 39 (13, [(0, zr 17), (1, zr 2), (2, zi (w.1 : Int)), (3, zi (w.2.1 : Int)), (4, zi (i : Int))], [], M) κ := by
    intro j
    induction j with
    | zero =>
      intro i a w M hi h1i ha hcnt hrun hBM hF h23 hH
      rw [hsR] at hrun
      obtain ⟨⟨w1, w2⟩, ⟨w3, w4⟩, -, -, w7, -, -, w10⟩ := hH
      exact zb39_13 (D := D) hT rfl hBM (by omega) (by omega) (by omega) (by omega) (fun _ => h0 M hrun.symm hBM hF w7 w10) (fun q => by omega) (fun q => by omega) (fun q => by omega) (fun q => by omega) (fun q => by omega) (fun q => by omega) (fun q => by omega)
    | succ j ih =>
      intro i a w M hi h1i ha hcnt hrun hBM hF h23 hH
      obtain ⟨p, c, fx, fy, gx, gy⟩ := w
      dsimp only at hcnt hrun
      have hH0 := hH
      obtain ⟨⟨w1, w2⟩, ⟨w3, w4⟩, w5, w6, w7, w8, w9, w10⟩ := hH
      dsimp only at w1 w2 w3 w4 w5 w6 w8 w9
      rw [hsR] at hrun
      have hnx : nxC M = s a := nx_h hsd hF h23
      have no : lnS s p c a = none → κ (some (zi (-1))) M := fun e => by
        rw [e] at hrun
        exact h0 M hrun.symm hBM hF w7 w10
      have hF1 : zFr (inL yhL) m (zu M 2 3 (M 2 3 + 1)) := hF.set rfl
      have g1 : (zu M 2 3 (M 2 3 + 1)) 2 3 = ((a + 1 : Nat) : Int) := by rw [zu_sm rfl, h23]; omega
      have o1 : ∀ x j, x ≠ 2 → (zu M 2 3 (M 2 3 + 1)) x j = M x j := fun x j hx => zu_dn hx
      have person : s a = 112 → p < 6 → zB (zu M 2 3 (M 2 3 + 1)) → T (D + 5) 40 (0, [(0, zr 17), (1, zr 2), (2, zi (p : Int))], [], zu M 2 3 (M 2 3 + 1)) (fun r m1 => T (D + 6) 39 (44, [(0, zr 17), (1, zr 2), (2, zi (p : Int)), (3, zi (c : Int)), (4, zi (i : Int)), (5, zi 0)], r.toList ++ [], m1) κ) := by
        intro q1 q2 hz
        have el : lnS s p c a = (match prS s (a + 1) with
          | none => none
          | some q => some (true, q)) := by
          unfold lnS
          rw [if_pos ⟨q1, q2⟩]
        generalize zu M 2 3 (M 2 3 + 1) = M1 at hz hF1 g1 o1 ⊢
        refine z_personC (D := D + 1) hT hsd hz hF1 g1 (by omega) (by omega) (fun M2 e hB2 hF2 t1 t2 => ?_) (fun x y b M2 e hB2 hF2 g2 t0 t3 t4 t1 t2 => ?_)
        · rw [e] at el
          dsimp only at el
          rw [el] at hrun
          refine zb39_44b (D := D) (lo := [(0, zr 17), (1, zr 2), (2, zi (p : Int)), (3, zi (c : Int)), (4, zi (i : Int)), (5, zi 0)]) hT rfl hB2 (by omega) (by omega) (by omega) ?_
          refine h0 M2 hrun.symm hB2 hF2 (fun q hq => ?_) (fun q hq => ?_)
          · obtain ⟨u1, u2, u3⟩ := t1 q (by omega)
            obtain ⟨v1, v2, v3⟩ := w7 q hq
            exact ⟨by rw [u1, o1 18 q (by omega), v1], by rw [u2, o1 19 q (by omega), v2], by rw [u3, o1 20 q (by omega), v3]⟩
          · obtain ⟨u1, u2, u3⟩ := t2 q
            obtain ⟨v1, v2, v3⟩ := w10 q hq
            exact ⟨by rw [u1, o1 21 q (by omega), v1], by rw [u2, o1 22 q (by omega), v2], by rw [u3, o1 23 q (by omega), v3]⟩
        · rw [e] at el
          dsimp only at el
          obtain ⟨l1, l2, l3, l4⟩ := lnS_b hs ha el
          obtain ⟨l5, l6, l7⟩ := l3 rfl
          rw [el] at hrun
          dsimp only at hrun
          have hH2 : HouC n k m M2 (p + 1, c, fu fx p x, fu fy p y, gx, gy) := by
            refine ⟨⟨by dsimp only; omega, by dsimp only; omega⟩, ⟨w3, w4⟩, fun q hq => ?_, fun q hq1 hq2 => ?_, fun q hq => ?_, fun q hq => ?_, fun q hq1 hq2 => ?_, fun q hq => ?_⟩
            · dsimp only at hq ⊢
              by_cases eq : q = p
              · rw [eq, fu_eq rfl, fu_eq rfl]
                exact ⟨t0, t3⟩
              · obtain ⟨u1, u2, u3⟩ := t1 q eq
                rw [fu_ne eq, fu_ne eq, u1, u2, o1 18 q (by omega), o1 19 q (by omega)]
                exact w5 q (by omega)
            · dsimp only at hq2 ⊢
              by_cases eq : q = p
              · rw [eq, fu_eq rfl, fu_eq rfl]
                exact ⟨t4, l6, l7⟩
              · obtain ⟨u1, u2, u3⟩ := t1 q eq
                rw [fu_ne eq, fu_ne eq, u3, o1 20 q (by omega)]
                exact w6 q hq1 (by omega)
            · obtain ⟨u1, u2, u3⟩ := t1 q (by omega)
              rw [u1, u2, u3, o1 18 q (by omega), o1 19 q (by omega), o1 20 q (by omega)]
              exact w7 q hq
            · obtain ⟨u1, u2, u3⟩ := t2 q
              rw [u1, u2, o1 21 q (by omega), o1 22 q (by omega)]
              exact w8 q hq
            · obtain ⟨u1, u2, u3⟩ := t2 q
              rw [u3, o1 23 q (by omega)]
              exact w9 q hq1 hq2
            · obtain ⟨u1, u2, u3⟩ := t2 q
              rw [u1, u2, u3, o1 21 q (by omega), o1 22 q (by omega), o1 23 q (by omega)]
              exact w10 q hq
          have e21 : M2 2 1 = (L : Int) := (hF2 2 1 rfl).trans hL
          have hn2 : nxC M2 = s b := nx_h hsd hF2 g2
          refine zb39_44 (D := D) (lo := [(0, zr 17), (1, zr 2), (2, zi (p : Int)), (3, zi (c : Int)), (4, zi (i : Int)), (5, zi 0)]) hT rfl hB2 (by omega) (by omega) (by omega) (by omega) (by omega) (fun q => by omega) (fun _ q3 q4 hz2 => ?_) (fun _ q3 q4 => ?_) (fun _ q3 hz2 => ?_)
          · rw [hn2] at q4
            rw [if_neg (by omega), if_pos q4] at hrun
            have hb76 : b < L76 := by
              rcases Nat.lt_or_ge b L76 with x | x
              · exact x
              · have := hs b x
                omega
            refine ih (i + 1) (b + 1) (p + 1, c, fu fx p x, fu fy p y, gx, gy) _ (by omega) (by omega) (by omega) (by dsimp only; omega) hrun hz2 (hF2.set rfl) (by rw [zu_sm rfl, g2]; omega) ?_
            obtain ⟨y1, y2, y3, y4, y5, y6, y7, y8⟩ := hH2
            refine ⟨y1, y2, fun q hq => ?_, fun q hq1 hq2 => ?_, fun q hq => ?_, fun q hq => ?_, fun q hq1 hq2 => ?_, fun q hq => ?_⟩
            · rw [zu_dn (by omega), zu_dn (by omega)]
              exact y3 q hq
            · rw [zu_dn (by omega)]
              exact y4 q hq1 hq2
            · rw [zu_dn (by omega), zu_dn (by omega), zu_dn (by omega)]
              exact y5 q hq
            · rw [zu_dn (by omega), zu_dn (by omega)]
              exact y6 q hq
            · rw [zu_dn (by omega)]
              exact y7 q hq1 hq2
            · rw [zu_dn (by omega), zu_dn (by omega), zu_dn (by omega)]
              exact y8 q hq
          · rw [hn2] at q4
            rw [if_neg (by omega), if_neg q4] at hrun
            exact h0 M2 hrun.symm hB2 hF2 hH2.2.2.2.2.1 hH2.2.2.2.2.2.2.2
          · rw [if_pos (by omega)] at hrun
            refine h1 _ i _ hrun.symm ⟨h1i, by omega⟩ (by dsimp only; omega) hz2 (((hF2.sub (inL_sub (by decide))).set rfl).set rfl) (by rw [zu_off (by omega), zu_sm rfl]; rfl) (by rw [zu_sm rfl]) ?_
            obtain ⟨y1, y2, y3, y4, y5, y6, y7, y8⟩ := hH2
            refine ⟨y1, y2, fun q hq => ?_, fun q hq1 hq2 => ?_, fun q hq => ?_, fun q hq => ?_, fun q hq1 hq2 => ?_, fun q hq => ?_⟩
            · simp (disch := omega) only [zu_dn]
              exact y3 q hq
            · simp (disch := omega) only [zu_dn]
              exact y4 q hq1 hq2
            · simp (disch := omega) only [zu_dn]
              exact y5 q hq
            · simp (disch := omega) only [zu_dn]
              exact y6 q hq
            · simp (disch := omega) only [zu_dn]
              exact y7 q hq1 hq2
            · simp (disch := omega) only [zu_dn]
              exact y8 q hq
      have cloth : ¬ (s a = 112 ∧ p < 6) → s a = 99 → c < 8 → zB (zu M 2 3 (M 2 3 + 1)) → T (D + 5) 41 (0, [(0, zr 17), (1, zr 2), (2, zi (c : Int))], [], zu M 2 3 (M 2 3 + 1)) (fun r m1 => T (D + 6) 39 (73, [(0, zr 17), (1, zr 2), (2, zi (p : Int)), (3, zi (c : Int)), (4, zi (i : Int)), (5, zi 0)], r.toList ++ [], m1) κ) := by
        intro q0 q1 q2 hz
        have el : lnS s p c a = (match clS s (a + 1) with
          | none => none
          | some q => some (false, q)) := by
          unfold lnS
          rw [if_neg q0, if_pos ⟨q1, q2⟩]
        generalize zu M 2 3 (M 2 3 + 1) = M1 at hz hF1 g1 o1 ⊢
        refine z_clothC (D := D + 1) hT hsd hz hF1 g1 (by omega) (by omega) (fun M2 e hB2 hF2 t1 t2 => ?_) (fun x y b M2 e hB2 hF2 g2 t0 t3 t4 t1 t2 => ?_)
        · rw [e] at el
          dsimp only at el
          rw [el] at hrun
          refine zb39_73b (D := D) (lo := [(0, zr 17), (1, zr 2), (2, zi (p : Int)), (3, zi (c : Int)), (4, zi (i : Int)), (5, zi 0)]) hT rfl hB2 (by omega) (by omega) (by omega) ?_
          refine h0 M2 hrun.symm hB2 hF2 (fun q hq => ?_) (fun q hq => ?_)
          · obtain ⟨u1, u2, u3⟩ := t2 q
            obtain ⟨v1, v2, v3⟩ := w7 q hq
            exact ⟨by rw [u1, o1 18 q (by omega), v1], by rw [u2, o1 19 q (by omega), v2], by rw [u3, o1 20 q (by omega), v3]⟩
          · obtain ⟨u1, u2, u3⟩ := t1 q (by omega)
            obtain ⟨v1, v2, v3⟩ := w10 q hq
            exact ⟨by rw [u1, o1 21 q (by omega), v1], by rw [u2, o1 22 q (by omega), v2], by rw [u3, o1 23 q (by omega), v3]⟩
        · rw [e] at el
          dsimp only at el
          obtain ⟨l1, l2, l3, l4⟩ := lnS_b hs ha el
          obtain ⟨l5, l6, l7⟩ := l4 rfl
          rw [el] at hrun
          dsimp only at hrun
          have hH2 : HouC n k m M2 (p, c + 1, fx, fy, fu gx c x, fu gy c y) := by
            refine ⟨⟨w1, w2⟩, ⟨by dsimp only; omega, by dsimp only; omega⟩, fun q hq => ?_, fun q hq1 hq2 => ?_, fun q hq => ?_, fun q hq => ?_, fun q hq1 hq2 => ?_, fun q hq => ?_⟩
            · obtain ⟨u1, u2, u3⟩ := t2 q
              rw [u1, u2, o1 18 q (by omega), o1 19 q (by omega)]
              exact w5 q hq
            · obtain ⟨u1, u2, u3⟩ := t2 q
              rw [u3, o1 20 q (by omega)]
              exact w6 q hq1 hq2
            · obtain ⟨u1, u2, u3⟩ := t2 q
              rw [u1, u2, u3, o1 18 q (by omega), o1 19 q (by omega), o1 20 q (by omega)]
              exact w7 q hq
            · dsimp only at hq ⊢
              by_cases eq : q = c
              · rw [eq, fu_eq rfl, fu_eq rfl]
                exact ⟨t0, t3⟩
              · obtain ⟨u1, u2, u3⟩ := t1 q eq
                rw [fu_ne eq, fu_ne eq, u1, u2, o1 21 q (by omega), o1 22 q (by omega)]
                exact w8 q (by omega)
            · dsimp only at hq2 ⊢
              by_cases eq : q = c
              · rw [eq, fu_eq rfl, fu_eq rfl]
                exact ⟨t4, l6, l7⟩
              · obtain ⟨u1, u2, u3⟩ := t1 q eq
                rw [fu_ne eq, fu_ne eq, u3, o1 23 q (by omega)]
                exact w9 q hq1 (by omega)
            · obtain ⟨u1, u2, u3⟩ := t1 q (by omega)
              rw [u1, u2, u3, o1 21 q (by omega), o1 22 q (by omega), o1 23 q (by omega)]
              exact w10 q hq
          have e21 : M2 2 1 = (L : Int) := (hF2 2 1 rfl).trans hL
          have hn2 : nxC M2 = s b := nx_h hsd hF2 g2
          refine zb39_73 (D := D) (lo := [(0, zr 17), (1, zr 2), (2, zi (p : Int)), (3, zi (c : Int)), (4, zi (i : Int)), (5, zi 0)]) hT rfl hB2 (by omega) (by omega) (by omega) (by omega) (by omega) (fun q => by omega) (fun _ q3 q4 hz2 => ?_) (fun _ q3 q4 => ?_) (fun _ q3 hz2 => ?_)
          · rw [hn2] at q4
            rw [if_neg (by omega), if_pos q4] at hrun
            have hb76 : b < L76 := by
              rcases Nat.lt_or_ge b L76 with x | x
              · exact x
              · have := hs b x
                omega
            refine ih (i + 1) (b + 1) (p, c + 1, fx, fy, fu gx c x, fu gy c y) _ (by omega) (by omega) (by omega) (by dsimp only; omega) hrun hz2 (hF2.set rfl) (by rw [zu_sm rfl, g2]; omega) ?_
            obtain ⟨y1, y2, y3, y4, y5, y6, y7, y8⟩ := hH2
            refine ⟨y1, y2, fun q hq => ?_, fun q hq1 hq2 => ?_, fun q hq => ?_, fun q hq => ?_, fun q hq1 hq2 => ?_, fun q hq => ?_⟩
            · rw [zu_dn (by omega), zu_dn (by omega)]
              exact y3 q hq
            · rw [zu_dn (by omega)]
              exact y4 q hq1 hq2
            · rw [zu_dn (by omega), zu_dn (by omega), zu_dn (by omega)]
              exact y5 q hq
            · rw [zu_dn (by omega), zu_dn (by omega)]
              exact y6 q hq
            · rw [zu_dn (by omega)]
              exact y7 q hq1 hq2
            · rw [zu_dn (by omega), zu_dn (by omega), zu_dn (by omega)]
              exact y8 q hq
          · rw [hn2] at q4
            rw [if_neg (by omega), if_neg q4] at hrun
            exact h0 M2 hrun.symm hB2 hF2 hH2.2.2.2.2.1 hH2.2.2.2.2.2.2.2
          · rw [if_pos (by omega)] at hrun
            refine h1 _ i _ hrun.symm ⟨h1i, by omega⟩ (by dsimp only; omega) hz2 (((hF2.sub (inL_sub (by decide))).set rfl).set rfl) (by rw [zu_off (by omega), zu_sm rfl]) (by rw [zu_sm rfl]; rfl) ?_
            obtain ⟨y1, y2, y3, y4, y5, y6, y7, y8⟩ := hH2
            refine ⟨y1, y2, fun q hq => ?_, fun q hq1 hq2 => ?_, fun q hq => ?_, fun q hq => ?_, fun q hq1 hq2 => ?_, fun q hq => ?_⟩
            · simp (disch := omega) only [zu_dn]
              exact y3 q hq
            · simp (disch := omega) only [zu_dn]
              exact y4 q hq1 hq2
            · simp (disch := omega) only [zu_dn]
              exact y5 q hq
            · simp (disch := omega) only [zu_dn]
              exact y6 q hq
            · simp (disch := omega) only [zu_dn]
              exact y7 q hq1 hq2
            · simp (disch := omega) only [zu_dn]
              exact y8 q hq
      have n1 : ∀ x : ¬ (s a = 112 ∧ p < 6), ¬ (s a = 99 ∧ c < 8) → lnS s p c a = none := fun x y => by
        unfold lnS
        rw [if_neg x, if_neg y]
      show T (D + 6) 39 (13, [(0, zr 17), (1, zr 2), (2, zi (p : Int)), (3, zi (c : Int)), (4, zi (i : Int))], [], M) κ
      refine zb39_13 (D := D) (p := p) (c := c) hT rfl hBM w2 w4 (by omega) (by omega) (fun q => by omega) ?_ ?_ ?_ ?_ ?_ ?_ ?_
      · exact fun _ q1 q2 => no (n1 (fun x => q1 (by omega)) (fun x => q2 (by omega)))
      · rw [hnx]
        exact fun _ q1 q2 q3 hz => cloth (fun x => q1 (by omega)) q3 (by omega) hz
      · rw [hnx]
        exact fun _ q1 _ q3 => no (n1 (fun x => q1 (by omega)) (fun x => q3 x.1))
      · rw [hnx]
        exact fun _ q1 q2 hz => person q2 (by omega) hz
      · rw [hnx]
        exact fun _ _ q2 q3 => no (n1 (fun x => q2 x.1) (fun x => q3 (by omega)))
      · rw [hnx]
        exact fun _ _ q2 q3 q4 hz => cloth (fun x => q2 x.1) q4 (by omega) hz
      · rw [hnx]
        exact fun _ _ q2 _ q4 => no (n1 (fun x => q2 x.1) (fun x => q4 x.1))
  refine key 14 1 0 (n, k, m 18, m 19, m 21, m 22) m (by omega) (Nat.le_refl 1) (by omega) (by dsimp only) rfl hB zFr.refl (by rw [h230]; rfl) ?_
  exact ⟨⟨Nat.le_refl n, by dsimp only; omega⟩, ⟨Nat.le_refl k, by dsimp only; omega⟩, fun q _ => ⟨rfl, rfl⟩, fun q q1 q2 => absurd q2 (by dsimp only; omega), fun q _ => ⟨rfl, rfl, rfl⟩, fun q _ => ⟨rfl, rfl⟩, fun q q1 q2 => absurd q2 (by dsimp only; omega), fun q _ => ⟨rfl, rfl, rfl⟩⟩
end ZLines
