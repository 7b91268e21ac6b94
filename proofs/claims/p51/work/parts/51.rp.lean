/-! THE RULE as it is read: what is at fault, or where it ends and what it is worth. -/
noncomputable abbrev rP : Type := Nat ⊕ (Nat × (zEnv → Int))
noncomputable def rb (x : rP) (k : Nat → (zEnv → Int) → rP) : rP := match x with
  | .inl f => .inl f
  | .inr q => k q.1 q.2
noncomputable def rNum (s : Nat → Int) : Nat → Nat → Int → Nat × Int
  | 0, a, v => (a, v)
  | k + 1, a, v => if 48 ≤ s a ∧ s a ≤ 57 then rNum s k (a + 1) (10 * v + (s a - 48)) else (a, v)
noncomputable def e0f : zEnv → Int := fun _ => 0
/-- kinds: 0 an EXPRESSION, 1 a sum, 2 a sum's rest, 3 a product, 4 a product's rest, 5 a thing -/
noncomputable def rp (s : Nat → Int) : Nat → Nat → Nat → Nat → (zEnv → Int) → rP
  | 0, _, _, a, _ => .inl a
  | f + 1, kd, dp, a, acc =>
    if kd = 0 then rb (rp s f 1 dp a e0f) (fun b v =>
      if s b = 60 then rb (rp s f 1 dp (b + 1) e0f) (fun c w => .inr (c, fun e => if v e < w e then 1 else 0))
      else if s b = 62 then rb (rp s f 1 dp (b + 1) e0f) (fun c w => .inr (c, fun e => if w e < v e then 1 else 0))
      else if s b = 61 then rb (rp s f 1 dp (b + 1) e0f) (fun c w => .inr (c, fun e => if v e = w e then 1 else 0))
      else .inr (b, v))
    else if kd = 1 then rb (rp s f 3 dp a e0f) (fun b v => rp s f 2 dp b v)
    else if kd = 2 then
      if s a = 43 then rb (rp s f 3 dp (a + 1) e0f) (fun b w => rp s f 2 dp b (fun e => wr (acc e + w e)))
      else if s a = 45 then rb (rp s f 3 dp (a + 1) e0f) (fun b w => rp s f 2 dp b (fun e => wr (acc e - w e)))
      else .inr (a, acc)
    else if kd = 3 then rb (rp s f 5 dp a e0f) (fun b v => rp s f 4 dp b v)
    else if kd = 4 then
      if s a = 42 then rb (rp s f 5 dp (a + 1) e0f) (fun b w => rp s f 4 dp b (fun e => wr (acc e * w e)))
      else if s a = 47 then rb (rp s f 5 dp (a + 1) e0f) (fun b w => rp s f 4 dp b (fun e => if w e = 0 then 0 else wr (Int.tdiv (acc e) (w e))))
      else .inr (a, acc)
    else if s a = 45 then rb (rp s f 5 dp (a + 1) e0f) (fun b v => .inr (b, fun e => wr (-(v e))))
    else if s a = 40 then (if dp < 4 then rb (rp s f 0 (dp + 1) (a + 1) e0f) (fun b v => if s b = 41 then .inr (b + 1, v) else .inl b) else .inl a)
    else if 48 ≤ s a ∧ s a ≤ 57 then .inr ((rNum s 3 a 0).1, fun _ => (rNum s 3 a 0).2)
    else if s a = 104 then .inr (a + 1, fun e => wr e.1)
    else if s a = 108 then .inr (a + 1, fun e => wr e.2.1)
    else if s a = 119 then .inr (a + 1, fun e => wr e.2.2.1)
    else if s a = 112 then .inr (a + 1, fun e => wr e.2.2.2.1)
    else if s a = 105 then .inr (a + 1, fun e => wr e.2.2.2.2)
    else .inl a
theorem wr_wr (a : Int) : wr (wr a) = wr a := wr_id (wrB a).1 (wrB a).2
/-- how many digits, and the number -/
theorem rNumP {s : Nat → Int} {L : Nat} (hs : ∀ a, L ≤ a → s a = -1) : ∀ (k a : Nat) (v : Int), a ≤ L → a ≤ (rNum s k a v).1 ∧ (rNum s k a v).1 ≤ L
  | 0, a, v, ha => ⟨Nat.le_refl a, ha⟩
  | k + 1, a, v, ha => by
    rw [rNum]
    split
    · rename_i h
      have hL : a < L := by
        rcases Nat.lt_or_ge a L with q | q
        · exact q
        · have := hs a q
          omega
      have := rNumP hs k (a + 1) (10 * v + (s a - 48)) (by omega)
      omega
    · exact ⟨Nat.le_refl a, ha⟩
theorem rNumV {s : Nat → Int} (a : Nat) : 0 ≤ (rNum s 3 a 0).2 ∧ (rNum s 3 a 0).2 ≤ 999 := by
  rw [rNum]
  split
  · rw [rNum]
    split
    · rw [rNum]
      split
      · rw [rNum]
        dsimp only
        omega
      · dsimp only
        omega
    · dsimp only
      omega
  · dsimp only
    omega
theorem rNum1 {s : Nat → Int} {L : Nat} (hs : ∀ a, L ≤ a → s a = -1) {a : Nat} (h : 48 ≤ s a ∧ s a ≤ 57) : a < (rNum s 3 a 0).1 ∧ (rNum s 3 a 0).1 ≤ L := by
  have hL : a < L := by
    rcases Nat.lt_or_ge a L with q | q
    · exact q
    · have := hs a q
      omega
  rw [rNum, if_pos h]
  have := rNumP hs 2 (a + 1) (10 * 0 + (s a - 48)) (by omega)
  omega
/-- what is said of a reading from a on -/
noncomputable def rOK (L kd a : Nat) (r : rP) : Prop := match r with
  | .inl x => a ≤ x ∧ x ≤ L
  | .inr q => (a ≤ q.1 ∧ q.1 ≤ L ∧ (kd ≠ 2 → kd ≠ 4 → a < q.1)) ∧ ∀ e, wr (q.2 e) = q.2 e
theorem rOK.bind {L kd kd2 a a2 : Nat} {x : rP} {k : Nat → (zEnv → Int) → rP} (hx : rOK L kd2 a2 x) (ha : a ≤ a2) (h : ∀ b v, x = .inr (b, v) → a2 ≤ b → b ≤ L → (kd2 ≠ 2 → kd2 ≠ 4 → a2 < b) → (∀ e, wr (v e) = v e) → rOK L kd a (k b v)) : rOK L kd a (rb x k) := by
  rcases x with x | ⟨b, v⟩
  · exact ⟨Nat.le_trans ha hx.1, hx.2⟩
  · exact h b v rfl hx.1.1 hx.1.2.1 hx.1.2.2 hx.2
theorem rOK.up {L kd a a2 : Nat} {r : rP} (hr : rOK L kd a2 r) (h : a < a2) : ∀ kd2, rOK L kd2 a r := by
  intro kd2
  rcases r with x | ⟨b, v⟩
  · exact ⟨by have := hr.1; omega, hr.2⟩
  · exact ⟨⟨by have := hr.1.1; omega, hr.1.2.1, fun _ _ => by have := hr.1.1; omega⟩, hr.2⟩
theorem rp_ok {s : Nat → Int} {L : Nat} (hs : ∀ a, L ≤ a → s a = -1) : ∀ (f kd dp a : Nat) (acc : zEnv → Int), a ≤ L → (∀ e, wr (acc e) = acc e) → rOK L kd a (rp s f kd dp a acc) := by
  have hlt : ∀ a, ¬ s a = -1 → a < L := fun a h => by
    rcases Nat.lt_or_ge a L with q | q
    · exact q
    · exact absurd (hs a q) h
  have h0 : ∀ e : zEnv, wr (e0f e) = e0f e := fun _ => rfl
  have hb01 : ∀ (P : Prop) [Decidable P], wr (if P then (1 : Int) else 0) = if P then 1 else 0 := fun P _ => by
    split <;> rfl
  intro f
  induction f with
  | zero => intro kd dp a acc ha _; exact ⟨Nat.le_refl a, ha⟩
  | succ f ih =>
    intro kd dp a acc ha hacc
    by_cases k0 : kd = 0
    · subst k0
      rw [rp, if_pos rfl]
      refine rOK.bind (ih 1 dp a e0f ha h0) (Nat.le_refl a) (fun b v _ h1 h2 h3 h4 => ?_)
      have h3 := h3 (by omega) (by omega)
      by_cases c1 : s b = 60
      · rw [if_pos c1]
        refine rOK.bind (ih 1 dp (b + 1) e0f (hlt b (by omega)) h0) (by omega) (fun c w _ g1 g2 g3 g4 => ?_)
        exact ⟨⟨by omega, g2, fun _ _ => by omega⟩, fun e => hb01 _⟩
      · rw [if_neg c1]
        by_cases c2 : s b = 62
        · rw [if_pos c2]
          refine rOK.bind (ih 1 dp (b + 1) e0f (hlt b (by omega)) h0) (by omega) (fun c w _ g1 g2 g3 g4 => ?_)
          exact ⟨⟨by omega, g2, fun _ _ => by omega⟩, fun e => hb01 _⟩
        · rw [if_neg c2]
          by_cases c3 : s b = 61
          · rw [if_pos c3]
            refine rOK.bind (ih 1 dp (b + 1) e0f (hlt b (by omega)) h0) (by omega) (fun c w _ g1 g2 g3 g4 => ?_)
            exact ⟨⟨by omega, g2, fun _ _ => by omega⟩, fun e => hb01 _⟩
          · rw [if_neg c3]
            exact ⟨⟨by omega, h2, fun _ _ => h3⟩, h4⟩
    by_cases k1 : kd = 1
    · subst k1
      rw [rp, if_neg k0, if_pos rfl]
      refine rOK.bind (ih 3 dp a e0f ha h0) (Nat.le_refl a) (fun b v _ h1 h2 h3 h4 => ?_)
      exact (ih 2 dp b v h2 h4).up (h3 (by omega) (by omega)) _
    by_cases k2 : kd = 2
    · subst k2
      rw [rp, if_neg k0, if_neg k1, if_pos rfl]
      by_cases c1 : s a = 43
      · rw [if_pos c1]
        refine rOK.bind (ih 3 dp (a + 1) e0f (hlt a (by omega)) h0) (by omega) (fun b w _ h1 h2 h3 h4 => ?_)
        exact (ih 2 dp b _ h2 (fun e => wr_wr _)).up (by omega) _
      · rw [if_neg c1]
        by_cases c2 : s a = 45
        · rw [if_pos c2]
          refine rOK.bind (ih 3 dp (a + 1) e0f (hlt a (by omega)) h0) (by omega) (fun b w _ h1 h2 h3 h4 => ?_)
          exact (ih 2 dp b _ h2 (fun e => wr_wr _)).up (by omega) _
        · rw [if_neg c2]
          exact ⟨⟨Nat.le_refl a, ha, fun q _ => absurd rfl q⟩, hacc⟩
    by_cases k3 : kd = 3
    · subst k3
      rw [rp, if_neg k0, if_neg k1, if_neg k2, if_pos rfl]
      refine rOK.bind (ih 5 dp a e0f ha h0) (Nat.le_refl a) (fun b v _ h1 h2 h3 h4 => ?_)
      exact (ih 4 dp b v h2 h4).up (h3 (by omega) (by omega)) _
    by_cases k4 : kd = 4
    · subst k4
      rw [rp, if_neg k0, if_neg k1, if_neg k2, if_neg k3, if_pos rfl]
      by_cases c1 : s a = 42
      · rw [if_pos c1]
        refine rOK.bind (ih 5 dp (a + 1) e0f (hlt a (by omega)) h0) (by omega) (fun b w _ h1 h2 h3 h4 => ?_)
        exact (ih 4 dp b _ h2 (fun e => wr_wr _)).up (by omega) _
      · rw [if_neg c1]
        by_cases c2 : s a = 47
        · rw [if_pos c2]
          refine rOK.bind (ih 5 dp (a + 1) e0f (hlt a (by omega)) h0) (by omega) (fun b w _ h1 h2 h3 h4 => ?_)
          refine (ih 4 dp b _ h2 (fun e => ?_)).up (by omega) _
          split
          · rfl
          · exact wr_wr _
        · rw [if_neg c2]
          exact ⟨⟨Nat.le_refl a, ha, fun _ q => absurd rfl q⟩, hacc⟩
    rw [rp, if_neg k0, if_neg k1, if_neg k2, if_neg k3, if_neg k4]
    by_cases c1 : s a = 45
    · rw [if_pos c1]
      refine rOK.bind (ih 5 dp (a + 1) e0f (hlt a (by omega)) h0) (by omega) (fun b v _ h1 h2 h3 h4 => ?_)
      exact ⟨⟨by omega, h2, fun _ _ => by omega⟩, fun e => wr_wr _⟩
    rw [if_neg c1]
    by_cases c2 : s a = 40
    · rw [if_pos c2]
      by_cases c3 : dp < 4
      · rw [if_pos c3]
        refine rOK.bind (ih 0 (dp + 1) (a + 1) e0f (hlt a (by omega)) h0) (by omega) (fun b v _ h1 h2 h3 h4 => ?_)
        by_cases c4 : s b = 41
        · rw [if_pos c4]
          exact ⟨⟨by omega, hlt b (by omega), fun _ _ => by omega⟩, h4⟩
        · rw [if_neg c4]
          exact ⟨by omega, h2⟩
      · rw [if_neg c3]
        exact ⟨Nat.le_refl a, ha⟩
    rw [if_neg c2]
    by_cases c3 : 48 ≤ s a ∧ s a ≤ 57
    · rw [if_pos c3]
      obtain ⟨g1, g2⟩ := rNum1 hs c3
      exact ⟨⟨by omega, g2, fun _ _ => g1⟩, fun e => by have := rNumV (s := s) a; show wr (rNum s 3 a 0).2 = (rNum s 3 a 0).2; exact wr_id (by omega) (by omega)⟩
    rw [if_neg c3]
    by_cases c4 : s a = 104
    · rw [if_pos c4]
      exact ⟨⟨by omega, hlt a (by omega), fun _ _ => by omega⟩, fun e => wr_wr _⟩
    rw [if_neg c4]
    by_cases c5 : s a = 108
    · rw [if_pos c5]
      exact ⟨⟨by omega, hlt a (by omega), fun _ _ => by omega⟩, fun e => wr_wr _⟩
    rw [if_neg c5]
    by_cases c6 : s a = 119
    · rw [if_pos c6]
      exact ⟨⟨by omega, hlt a (by omega), fun _ _ => by omega⟩, fun e => wr_wr _⟩
    rw [if_neg c6]
    by_cases c7 : s a = 112
    · rw [if_pos c7]
      exact ⟨⟨by omega, hlt a (by omega), fun _ _ => by omega⟩, fun e => wr_wr _⟩
    rw [if_neg c7]
    by_cases c8 : s a = 105
    · rw [if_pos c8]
      exact ⟨⟨by omega, hlt a (by omega), fun _ _ => by omega⟩, fun e => wr_wr _⟩
    rw [if_neg c8]
    exact ⟨Nat.le_refl a, ha⟩
