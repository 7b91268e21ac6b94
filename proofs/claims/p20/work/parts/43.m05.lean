-- 43.mom.lean.txt
section
/-! Moments: what the class keeps of its cells; rows laid into rows. -/
theorem z_cp_dn {m : zM} {q0 q1 sp dp n c j : Nat} (h : c ≠ q1) : z_cp m q0 q1 sp dp n c j = m c j := z_cp_df (q_beqF h)
theorem z_cp_in {m : zM} {q0 q1 sp dp n j : Nat} (h : dp ≤ j ∧ j < dp + n) : z_cp m q0 q1 sp dp n q1 j = m q0 (sp + (j - dp)) := by rw [z_cp_at, if_pos h]
theorem z_cp_of {m : zM} {q0 q1 sp dp n j : Nat} (h : ¬ (dp ≤ j ∧ j < dp + n)) : z_cp m q0 q1 sp dp n q1 j = m q1 j := by rw [z_cp_at, if_neg h]
noncomputable def cmom (m : zM) (j : Nat) : Int := if j < 6 then m 19 j else if j < 12 then m 20 (j - 6) else if j < 20 then m 21 (j - 12) else if j < 28 then m 22 (j - 20) else if j < 36 then m 23 (j - 28) else if j < 56 then m 26 (j - 36) else if j = 56 then m 25 2 else if j = 57 then m 17 10 else m 17 11
noncomputable def rowW (q c _j : Nat) : Bool := Nat.beq c q
noncomputable def rtW (c j : Nat) : Bool := (Nat.beq c 19 || (Nat.beq c 20 || (Nat.beq c 21 || (Nat.beq c 22 || (Nat.beq c 23 || Nat.beq c 26))))) || ((Nat.beq c 25 && Nat.beq j 2) || (Nat.beq c 17 && (Nat.beq j 10 || Nat.beq j 11)))
/-- a kept moment says what the row says -/
noncomputable def RelM (n k : Nat) (r g : Nat → Int) : Prop :=
  (∀ p, p < n → r p = g p ∧ r (p + 6) = g (p + 6)) ∧ (∀ c, c < k → r (c + 12) = g (c + 12) ∧ r (c + 20) = g (c + 20) ∧ r (c + 28) = g (c + 28)) ∧ r 56 = g 56 ∧ (∀ i : Nat, (i : Int) < g 56 → r (i + 36) = g (i + 36)) ∧ r 58 = g 57 ∧ r 57 = g 58
theorem RelM.of {n k : Nat} {m : zM} {r g : Nat → Int} (hn : n ≤ 6) (hk : k ≤ 8) (h20 : g 56 ≤ 20) (h : Rel n k m g) (hr : ∀ j, j < 59 → r j = cmom m j) : RelM n k r g := by
  obtain ⟨r1, r2, r3, r4, r5, r6⟩ := h
  refine ⟨fun p hp => ?_, fun c hc => ?_, ?_, fun i hi => ?_, ?_, ?_⟩
  · rw [hr p (by omega), hr (p + 6) (by omega)]
    unfold cmom
    rw [if_pos (by omega), if_neg (by omega), if_pos (by omega), Nat.add_sub_cancel]
    exact r1 p hp
  · rw [hr (c + 12) (by omega), hr (c + 20) (by omega), hr (c + 28) (by omega)]
    unfold cmom
    rw [if_neg (by omega), if_neg (by omega), if_pos (by omega), if_neg (by omega), if_neg (by omega), if_neg (by omega), if_pos (by omega), if_neg (by omega), if_neg (by omega), if_neg (by omega), if_neg (by omega), if_pos (by omega), Nat.add_sub_cancel, Nat.add_sub_cancel, Nat.add_sub_cancel]
    exact r2 c hc
  · rw [hr 56 (by omega)]
    exact r3
  · rw [hr (i + 36) (by omega)]
    unfold cmom
    rw [if_neg (by omega), if_neg (by omega), if_neg (by omega), if_neg (by omega), if_neg (by omega), if_pos (by omega), Nat.add_sub_cancel]
    exact r4 i hi
  · rw [hr 58 (by omega)]
    exact r5
  · rw [hr 57 (by omega)]
    exact r6
/-- what is brought back -/
noncomputable def Brought (m1 : zM) (r : Nat → Int) : Prop := (∀ j, j < 6 → m1 19 j = r j ∧ m1 20 j = r (j + 6)) ∧ (∀ j, j < 8 → m1 21 j = r (j + 12) ∧ m1 22 j = r (j + 20) ∧ m1 23 j = r (j + 28)) ∧ m1 25 2 = r 56 ∧ (∀ j, j < 20 → m1 26 j = r (j + 36)) ∧ m1 17 11 = r 58 ∧ m1 17 10 = r 57
theorem Brought.rel {n k : Nat} {m1 : zM} {r g : Nat → Int} (hn : n ≤ 6) (hk : k ≤ 8) (h20 : g 56 ≤ 20) (hb : Brought m1 r) (h : RelM n k r g) : Rel n k m1 g := by
  obtain ⟨b1, b2, b3, b4, b5, b6⟩ := hb
  obtain ⟨r1, r2, r3, r4, r5, r6⟩ := h
  refine ⟨fun p hp => ?_, fun c hc => ?_, b3.trans r3, fun i hi => ?_, b5.trans r5, b6.trans r6⟩
  · rw [(b1 p (by omega)).1, (b1 p (by omega)).2]
    exact r1 p hp
  · rw [(b2 c (by omega)).1, (b2 c (by omega)).2.1, (b2 c (by omega)).2.2]
    exact r2 c hc
  · rw [b4 i (by omega)]
    exact r4 i hi
theorem zFr.cp {S : Nat → Nat → Bool} {m m1 : zM} {q0 q1 sp dp n : Nat} (h : zFr S m m1) (hs : ∀ j, S q1 j = true) : zFr S m (z_cp m1 q0 q1 sp dp n) := by
  intro c j hc
  by_cases e : c = q1
  · subst e
    rw [hs j] at hc
    cases hc
  · rw [z_cp_dn e]
    exact h c j hc
section ZMom
variable {T : Nat → Nat → zG → (Option zA → zM → Prop) → Prop} {D : Nat} {κ : Option zA → zM → Prop} {m : zM}
theorem z_wt30 (hT : zRules T) (hB : zB m) (h : ∀ m1, zB m1 → zFr (rowW 30) m m1 → (∀ j, j < 59 → m1 30 j = cmom m j) → κ none m1) : T (D + 1) 42 (0, [(0, zr 17), (1, zr 30)], [], m) κ := by
  refine zb42_0_30 hT hB (fun hz => h _ hz ?_ ?_)
  · intro c j hc
    have e : c ≠ 30 := Nat.ne_of_beq_eq_false hc
    simp (disch := assumption) only [zu_dn, z_cp_dn]
  · intro j hj
    unfold cmom
    split
    · simp (disch := omega) only [zu_off, zu_dn, z_cp_of, z_cp_in, z_cp_dn, Nat.zero_add, Nat.sub_zero]
    · split
      · simp (disch := omega) only [zu_off, zu_dn, z_cp_of, z_cp_in, z_cp_dn, Nat.zero_add, Nat.sub_zero]
      · split
        · simp (disch := omega) only [zu_off, zu_dn, z_cp_of, z_cp_in, z_cp_dn, Nat.zero_add, Nat.sub_zero]
        · split
          · simp (disch := omega) only [zu_off, zu_dn, z_cp_of, z_cp_in, z_cp_dn, Nat.zero_add, Nat.sub_zero]
          · split
            · simp (disch := omega) only [zu_off, zu_dn, z_cp_of, z_cp_in, z_cp_dn, Nat.zero_add, Nat.sub_zero]
            · split
              · simp (disch := omega) only [zu_off, zu_dn, z_cp_of, z_cp_in, z_cp_dn, Nat.zero_add, Nat.sub_zero]
              · split
                · simp (disch := omega) only [zu_off, zu_sm]
                · split
                  · simp (disch := omega) only [zu_off, zu_sm]
                  · simp (disch := omega) only [zu_off, zu_sm]
theorem z_rt30 (hT : zRules T) (hB : zB m) (h : ∀ m1, zB m1 → zFr rtW m m1 → Brought m1 (m 30) → κ none m1) : T (D + 1) 43 (0, [(0, zr 17), (1, zr 30)], [], m) κ := by
  refine zb43_0_30 hT hB (fun hz => h _ hz ?_ ?_)
  · refine ((zFr.cp (zFr.cp (zFr.cp (zFr.cp (zFr.cp (zFr.cp zFr.refl (fun _ => rfl)) (fun _ => rfl)) (fun _ => rfl)) (fun _ => rfl)) (fun _ => rfl)) (fun _ => rfl)).set rfl).set rfl |>.set rfl
  · refine ⟨fun j hj => ?_, fun j hj => ?_, ?_, fun j hj => ?_, ?_, ?_⟩
    · simp (disch := omega) only [zu_off, zu_dn, z_cp_in, z_cp_dn, Nat.zero_add, Nat.sub_zero]
      exact ⟨trivial, by rw [Nat.add_comm]⟩
    · simp (disch := omega) only [zu_off, zu_dn, z_cp_in, z_cp_dn, Nat.zero_add, Nat.sub_zero]
      exact ⟨by rw [Nat.add_comm], by rw [Nat.add_comm], by rw [Nat.add_comm]⟩
    · simp (disch := omega) only [zu_sm, zu_dn]
    · simp (disch := omega) only [zu_off, zu_dn, z_cp_in, z_cp_dn, Nat.zero_add, Nat.sub_zero]
      rw [Nat.add_comm]
    · simp (disch := omega) only [zu_sm]
    · simp (disch := omega) only [zu_off, zu_sm]
theorem z_wt31 (hT : zRules T) (hB : zB m) (h : ∀ m1, zB m1 → zFr (rowW 31) m m1 → (∀ j, j < 59 → m1 31 j = cmom m j) → κ none m1) : T (D + 1) 42 (0, [(0, zr 17), (1, zr 31)], [], m) κ := by
  refine zb42_0_31 hT hB (fun hz => h _ hz ?_ ?_)
  · intro c j hc
    have e : c ≠ 31 := Nat.ne_of_beq_eq_false hc
    simp (disch := assumption) only [zu_dn, z_cp_dn]
  · intro j hj
    unfold cmom
    split
    · simp (disch := omega) only [zu_off, zu_dn, z_cp_of, z_cp_in, z_cp_dn, Nat.zero_add, Nat.sub_zero]
    · split
      · simp (disch := omega) only [zu_off, zu_dn, z_cp_of, z_cp_in, z_cp_dn, Nat.zero_add, Nat.sub_zero]
      · split
        · simp (disch := omega) only [zu_off, zu_dn, z_cp_of, z_cp_in, z_cp_dn, Nat.zero_add, Nat.sub_zero]
        · split
          · simp (disch := omega) only [zu_off, zu_dn, z_cp_of, z_cp_in, z_cp_dn, Nat.zero_add, Nat.sub_zero]
          · split
            · simp (disch := omega) only [zu_off, zu_dn, z_cp_of, z_cp_in, z_cp_dn, Nat.zero_add, Nat.sub_zero]
            · split
              · simp (disch := omega) only [zu_off, zu_dn, z_cp_of, z_cp_in, z_cp_dn, Nat.zero_add, Nat.sub_zero]
              · split
                · simp (disch := omega) only [zu_off, zu_sm]
                · split
                  · simp (disch := omega) only [zu_off, zu_sm]
                  · simp (disch := omega) only [zu_off, zu_sm]
theorem z_rt31 (hT : zRules T) (hB : zB m) (h : ∀ m1, zB m1 → zFr rtW m m1 → Brought m1 (m 31) → κ none m1) : T (D + 1) 43 (0, [(0, zr 17), (1, zr 31)], [], m) κ := by
  refine zb43_0_31 hT hB (fun hz => h _ hz ?_ ?_)
  · refine ((zFr.cp (zFr.cp (zFr.cp (zFr.cp (zFr.cp (zFr.cp zFr.refl (fun _ => rfl)) (fun _ => rfl)) (fun _ => rfl)) (fun _ => rfl)) (fun _ => rfl)) (fun _ => rfl)).set rfl).set rfl |>.set rfl
  · refine ⟨fun j hj => ?_, fun j hj => ?_, ?_, fun j hj => ?_, ?_, ?_⟩
    · simp (disch := omega) only [zu_off, zu_dn, z_cp_in, z_cp_dn, Nat.zero_add, Nat.sub_zero]
      exact ⟨trivial, by rw [Nat.add_comm]⟩
    · simp (disch := omega) only [zu_off, zu_dn, z_cp_in, z_cp_dn, Nat.zero_add, Nat.sub_zero]
      exact ⟨by rw [Nat.add_comm], by rw [Nat.add_comm], by rw [Nat.add_comm]⟩
    · simp (disch := omega) only [zu_sm, zu_dn]
    · simp (disch := omega) only [zu_off, zu_dn, z_cp_in, z_cp_dn, Nat.zero_add, Nat.sub_zero]
      rw [Nat.add_comm]
    · simp (disch := omega) only [zu_sm]
    · simp (disch := omega) only [zu_off, zu_sm]
theorem z_wt32 (hT : zRules T) (hB : zB m) (h : ∀ m1, zB m1 → zFr (rowW 32) m m1 → (∀ j, j < 59 → m1 32 j = cmom m j) → κ none m1) : T (D + 1) 42 (0, [(0, zr 17), (1, zr 32)], [], m) κ := by
  refine zb42_0_32 hT hB (fun hz => h _ hz ?_ ?_)
  · intro c j hc
    have e : c ≠ 32 := Nat.ne_of_beq_eq_false hc
    simp (disch := assumption) only [zu_dn, z_cp_dn]
  · intro j hj
    unfold cmom
    split
    · simp (disch := omega) only [zu_off, zu_dn, z_cp_of, z_cp_in, z_cp_dn, Nat.zero_add, Nat.sub_zero]
    · split
      · simp (disch := omega) only [zu_off, zu_dn, z_cp_of, z_cp_in, z_cp_dn, Nat.zero_add, Nat.sub_zero]
      · split
        · simp (disch := omega) only [zu_off, zu_dn, z_cp_of, z_cp_in, z_cp_dn, Nat.zero_add, Nat.sub_zero]
        · split
          · simp (disch := omega) only [zu_off, zu_dn, z_cp_of, z_cp_in, z_cp_dn, Nat.zero_add, Nat.sub_zero]
          · split
            · simp (disch := omega) only [zu_off, zu_dn, z_cp_of, z_cp_in, z_cp_dn, Nat.zero_add, Nat.sub_zero]
            · split
              · simp (disch := omega) only [zu_off, zu_dn, z_cp_of, z_cp_in, z_cp_dn, Nat.zero_add, Nat.sub_zero]
              · split
                · simp (disch := omega) only [zu_off, zu_sm]
                · split
                  · simp (disch := omega) only [zu_off, zu_sm]
                  · simp (disch := omega) only [zu_off, zu_sm]
theorem z_rt32 (hT : zRules T) (hB : zB m) (h : ∀ m1, zB m1 → zFr rtW m m1 → Brought m1 (m 32) → κ none m1) : T (D + 1) 43 (0, [(0, zr 17), (1, zr 32)], [], m) κ := by
  refine zb43_0_32 hT hB (fun hz => h _ hz ?_ ?_)
  · refine ((zFr.cp (zFr.cp (zFr.cp (zFr.cp (zFr.cp (zFr.cp zFr.refl (fun _ => rfl)) (fun _ => rfl)) (fun _ => rfl)) (fun _ => rfl)) (fun _ => rfl)) (fun _ => rfl)).set rfl).set rfl |>.set rfl
  · refine ⟨fun j hj => ?_, fun j hj => ?_, ?_, fun j hj => ?_, ?_, ?_⟩
    · simp (disch := omega) only [zu_off, zu_dn, z_cp_in, z_cp_dn, Nat.zero_add, Nat.sub_zero]
      exact ⟨trivial, by rw [Nat.add_comm]⟩
    · simp (disch := omega) only [zu_off, zu_dn, z_cp_in, z_cp_dn, Nat.zero_add, Nat.sub_zero]
      exact ⟨by rw [Nat.add_comm], by rw [Nat.add_comm], by rw [Nat.add_comm]⟩
    · simp (disch := omega) only [zu_sm, zu_dn]
    · simp (disch := omega) only [zu_off, zu_dn, z_cp_in, z_cp_dn, Nat.zero_add, Nat.sub_zero]
      rw [Nat.add_comm]
    · simp (disch := omega) only [zu_sm]
    · simp (disch := omega) only [zu_off, zu_sm]
theorem z_wt33 (hT : zRules T) (hB : zB m) (h : ∀ m1, zB m1 → zFr (rowW 33) m m1 → (∀ j, j < 59 → m1 33 j = cmom m j) → κ none m1) : T (D + 1) 42 (0, [(0, zr 17), (1, zr 33)], [], m) κ := by
  refine zb42_0_33 hT hB (fun hz => h _ hz ?_ ?_)
  · intro c j hc
    have e : c ≠ 33 := Nat.ne_of_beq_eq_false hc
    simp (disch := assumption) only [zu_dn, z_cp_dn]
  · intro j hj
    unfold cmom
    split
    · simp (disch := omega) only [zu_off, zu_dn, z_cp_of, z_cp_in, z_cp_dn, Nat.zero_add, Nat.sub_zero]
    · split
      · simp (disch := omega) only [zu_off, zu_dn, z_cp_of, z_cp_in, z_cp_dn, Nat.zero_add, Nat.sub_zero]
      · split
        · simp (disch := omega) only [zu_off, zu_dn, z_cp_of, z_cp_in, z_cp_dn, Nat.zero_add, Nat.sub_zero]
        · split
          · simp (disch := omega) only [zu_off, zu_dn, z_cp_of, z_cp_in, z_cp_dn, Nat.zero_add, Nat.sub_zero]
          · split
            · simp (disch := omega) only [zu_off, zu_dn, z_cp_of, z_cp_in, z_cp_dn, Nat.zero_add, Nat.sub_zero]
            · split
              · simp (disch := omega) only [zu_off, zu_dn, z_cp_of, z_cp_in, z_cp_dn, Nat.zero_add, Nat.sub_zero]
              · split
                · simp (disch := omega) only [zu_off, zu_sm]
                · split
                  · simp (disch := omega) only [zu_off, zu_sm]
                  · simp (disch := omega) only [zu_off, zu_sm]
theorem z_rt33 (hT : zRules T) (hB : zB m) (h : ∀ m1, zB m1 → zFr rtW m m1 → Brought m1 (m 33) → κ none m1) : T (D + 1) 43 (0, [(0, zr 17), (1, zr 33)], [], m) κ := by
  refine zb43_0_33 hT hB (fun hz => h _ hz ?_ ?_)
  · refine ((zFr.cp (zFr.cp (zFr.cp (zFr.cp (zFr.cp (zFr.cp zFr.refl (fun _ => rfl)) (fun _ => rfl)) (fun _ => rfl)) (fun _ => rfl)) (fun _ => rfl)) (fun _ => rfl)).set rfl).set rfl |>.set rfl
  · refine ⟨fun j hj => ?_, fun j hj => ?_, ?_, fun j hj => ?_, ?_, ?_⟩
    · simp (disch := omega) only [zu_off, zu_dn, z_cp_in, z_cp_dn, Nat.zero_add, Nat.sub_zero]
      exact ⟨trivial, by rw [Nat.add_comm]⟩
    · simp (disch := omega) only [zu_off, zu_dn, z_cp_in, z_cp_dn, Nat.zero_add, Nat.sub_zero]
      exact ⟨by rw [Nat.add_comm], by rw [Nat.add_comm], by rw [Nat.add_comm]⟩
    · simp (disch := omega) only [zu_sm, zu_dn]
    · simp (disch := omega) only [zu_off, zu_dn, z_cp_in, z_cp_dn, Nat.zero_add, Nat.sub_zero]
      rw [Nat.add_comm]
    · simp (disch := omega) only [zu_sm]
    · simp (disch := omega) only [zu_off, zu_sm]
theorem z_wt34 (hT : zRules T) (hB : zB m) (h : ∀ m1, zB m1 → zFr (rowW 34) m m1 → (∀ j, j < 59 → m1 34 j = cmom m j) → κ none m1) : T (D + 1) 42 (0, [(0, zr 17), (1, zr 34)], [], m) κ := by
  refine zb42_0_34 hT hB (fun hz => h _ hz ?_ ?_)
  · intro c j hc
    have e : c ≠ 34 := Nat.ne_of_beq_eq_false hc
    simp (disch := assumption) only [zu_dn, z_cp_dn]
  · intro j hj
    unfold cmom
    split
    · simp (disch := omega) only [zu_off, zu_dn, z_cp_of, z_cp_in, z_cp_dn, Nat.zero_add, Nat.sub_zero]
    · split
      · simp (disch := omega) only [zu_off, zu_dn, z_cp_of, z_cp_in, z_cp_dn, Nat.zero_add, Nat.sub_zero]
      · split
        · simp (disch := omega) only [zu_off, zu_dn, z_cp_of, z_cp_in, z_cp_dn, Nat.zero_add, Nat.sub_zero]
        · split
          · simp (disch := omega) only [zu_off, zu_dn, z_cp_of, z_cp_in, z_cp_dn, Nat.zero_add, Nat.sub_zero]
          · split
            · simp (disch := omega) only [zu_off, zu_dn, z_cp_of, z_cp_in, z_cp_dn, Nat.zero_add, Nat.sub_zero]
            · split
              · simp (disch := omega) only [zu_off, zu_dn, z_cp_of, z_cp_in, z_cp_dn, Nat.zero_add, Nat.sub_zero]
              · split
                · simp (disch := omega) only [zu_off, zu_sm]
                · split
                  · simp (disch := omega) only [zu_off, zu_sm]
                  · simp (disch := omega) only [zu_off, zu_sm]
theorem z_rt34 (hT : zRules T) (hB : zB m) (h : ∀ m1, zB m1 → zFr rtW m m1 → Brought m1 (m 34) → κ none m1) : T (D + 1) 43 (0, [(0, zr 17), (1, zr 34)], [], m) κ := by
  refine zb43_0_34 hT hB (fun hz => h _ hz ?_ ?_)
  · refine ((zFr.cp (zFr.cp (zFr.cp (zFr.cp (zFr.cp (zFr.cp zFr.refl (fun _ => rfl)) (fun _ => rfl)) (fun _ => rfl)) (fun _ => rfl)) (fun _ => rfl)) (fun _ => rfl)).set rfl).set rfl |>.set rfl
  · refine ⟨fun j hj => ?_, fun j hj => ?_, ?_, fun j hj => ?_, ?_, ?_⟩
    · simp (disch := omega) only [zu_off, zu_dn, z_cp_in, z_cp_dn, Nat.zero_add, Nat.sub_zero]
      exact ⟨trivial, by rw [Nat.add_comm]⟩
    · simp (disch := omega) only [zu_off, zu_dn, z_cp_in, z_cp_dn, Nat.zero_add, Nat.sub_zero]
      exact ⟨by rw [Nat.add_comm], by rw [Nat.add_comm], by rw [Nat.add_comm]⟩
    · simp (disch := omega) only [zu_sm, zu_dn]
    · simp (disch := omega) only [zu_off, zu_dn, z_cp_in, z_cp_dn, Nat.zero_add, Nat.sub_zero]
      rw [Nat.add_comm]
    · simp (disch := omega) only [zu_sm]
    · simp (disch := omega) only [zu_off, zu_sm]
theorem z_wt35 (hT : zRules T) (hB : zB m) (h : ∀ m1, zB m1 → zFr (rowW 35) m m1 → (∀ j, j < 59 → m1 35 j = cmom m j) → κ none m1) : T (D + 1) 42 (0, [(0, zr 17), (1, zr 35)], [], m) κ := by
  refine zb42_0_35 hT hB (fun hz => h _ hz ?_ ?_)
  · intro c j hc
    have e : c ≠ 35 := Nat.ne_of_beq_eq_false hc
    simp (disch := assumption) only [zu_dn, z_cp_dn]
  · intro j hj
    unfold cmom
    split
    · simp (disch := omega) only [zu_off, zu_dn, z_cp_of, z_cp_in, z_cp_dn, Nat.zero_add, Nat.sub_zero]
    · split
      · simp (disch := omega) only [zu_off, zu_dn, z_cp_of, z_cp_in, z_cp_dn, Nat.zero_add, Nat.sub_zero]
      · split
        · simp (disch := omega) only [zu_off, zu_dn, z_cp_of, z_cp_in, z_cp_dn, Nat.zero_add, Nat.sub_zero]
        · split
          · simp (disch := omega) only [zu_off, zu_dn, z_cp_of, z_cp_in, z_cp_dn, Nat.zero_add, Nat.sub_zero]
          · split
            · simp (disch := omega) only [zu_off, zu_dn, z_cp_of, z_cp_in, z_cp_dn, Nat.zero_add, Nat.sub_zero]
            · split
              · simp (disch := omega) only [zu_off, zu_dn, z_cp_of, z_cp_in, z_cp_dn, Nat.zero_add, Nat.sub_zero]
              · split
                · simp (disch := omega) only [zu_off, zu_sm]
                · split
                  · simp (disch := omega) only [zu_off, zu_sm]
                  · simp (disch := omega) only [zu_off, zu_sm]
theorem z_rt35 (hT : zRules T) (hB : zB m) (h : ∀ m1, zB m1 → zFr rtW m m1 → Brought m1 (m 35) → κ none m1) : T (D + 1) 43 (0, [(0, zr 17), (1, zr 35)], [], m) κ := by
  refine zb43_0_35 hT hB (fun hz => h _ hz ?_ ?_)
  · refine ((zFr.cp (zFr.cp (zFr.cp (zFr.cp (zFr.cp (zFr.cp zFr.refl (fun _ => rfl)) (fun _ => rfl)) (fun _ => rfl)) (fun _ => rfl)) (fun _ => rfl)) (fun _ => rfl)).set rfl).set rfl |>.set rfl
  · refine ⟨fun j hj => ?_, fun j hj => ?_, ?_, fun j hj => ?_, ?_, ?_⟩
    · simp (disch := omega) only [zu_off, zu_dn, z_cp_in, z_cp_dn, Nat.zero_add, Nat.sub_zero]
      exact ⟨trivial, by rw [Nat.add_comm]⟩
    · simp (disch := omega) only [zu_off, zu_dn, z_cp_in, z_cp_dn, Nat.zero_add, Nat.sub_zero]
      exact ⟨by rw [Nat.add_comm], by rw [Nat.add_comm], by rw [Nat.add_comm]⟩
    · simp (disch := omega) only [zu_sm, zu_dn]
    · simp (disch := omega) only [zu_off, zu_dn, z_cp_in, z_cp_dn, Nat.zero_add, Nat.sub_zero]
      rw [Nat.add_comm]
    · simp (disch := omega) only [zu_sm]
    · simp (disch := omega) only [zu_off, zu_sm]
theorem z_wt36 (hT : zRules T) (hB : zB m) (h : ∀ m1, zB m1 → zFr (rowW 36) m m1 → (∀ j, j < 59 → m1 36 j = cmom m j) → κ none m1) : T (D + 1) 42 (0, [(0, zr 17), (1, zr 36)], [], m) κ := by
  refine zb42_0_36 hT hB (fun hz => h _ hz ?_ ?_)
  · intro c j hc
    have e : c ≠ 36 := Nat.ne_of_beq_eq_false hc
    simp (disch := assumption) only [zu_dn, z_cp_dn]
  · intro j hj
    unfold cmom
    split
    · simp (disch := omega) only [zu_off, zu_dn, z_cp_of, z_cp_in, z_cp_dn, Nat.zero_add, Nat.sub_zero]
    · split
      · simp (disch := omega) only [zu_off, zu_dn, z_cp_of, z_cp_in, z_cp_dn, Nat.zero_add, Nat.sub_zero]
      · split
        · simp (disch := omega) only [zu_off, zu_dn, z_cp_of, z_cp_in, z_cp_dn, Nat.zero_add, Nat.sub_zero]
        · split
          · simp (disch := omega) only [zu_off, zu_dn, z_cp_of, z_cp_in, z_cp_dn, Nat.zero_add, Nat.sub_zero]
          · split
            · simp (disch := omega) only [zu_off, zu_dn, z_cp_of, z_cp_in, z_cp_dn, Nat.zero_add, Nat.sub_zero]
            · split
              · simp (disch := omega) only [zu_off, zu_dn, z_cp_of, z_cp_in, z_cp_dn, Nat.zero_add, Nat.sub_zero]
              · split
                · simp (disch := omega) only [zu_off, zu_sm]
                · split
                  · simp (disch := omega) only [zu_off, zu_sm]
                  · simp (disch := omega) only [zu_off, zu_sm]
theorem z_rt36 (hT : zRules T) (hB : zB m) (h : ∀ m1, zB m1 → zFr rtW m m1 → Brought m1 (m 36) → κ none m1) : T (D + 1) 43 (0, [(0, zr 17), (1, zr 36)], [], m) κ := by
  refine zb43_0_36 hT hB (fun hz => h _ hz ?_ ?_)
  · refine ((zFr.cp (zFr.cp (zFr.cp (zFr.cp (zFr.cp (zFr.cp zFr.refl (fun _ => rfl)) (fun _ => rfl)) (fun _ => rfl)) (fun _ => rfl)) (fun _ => rfl)) (fun _ => rfl)).set rfl).set rfl |>.set rfl
  · refine ⟨fun j hj => ?_, fun j hj => ?_, ?_, fun j hj => ?_, ?_, ?_⟩
    · simp (disch := omega) only [zu_off, zu_dn, z_cp_in, z_cp_dn, Nat.zero_add, Nat.sub_zero]
      exact ⟨trivial, by rw [Nat.add_comm]⟩
    · simp (disch := omega) only [zu_off, zu_dn, z_cp_in, z_cp_dn, Nat.zero_add, Nat.sub_zero]
      exact ⟨by rw [Nat.add_comm], by rw [Nat.add_comm], by rw [Nat.add_comm]⟩
    · simp (disch := omega) only [zu_sm, zu_dn]
    · simp (disch := omega) only [zu_off, zu_dn, z_cp_in, z_cp_dn, Nat.zero_add, Nat.sub_zero]
      rw [Nat.add_comm]
    · simp (disch := omega) only [zu_sm]
    · simp (disch := omega) only [zu_off, zu_sm]
theorem z_wt37 (hT : zRules T) (hB : zB m) (h : ∀ m1, zB m1 → zFr (rowW 37) m m1 → (∀ j, j < 59 → m1 37 j = cmom m j) → κ none m1) : T (D + 1) 42 (0, [(0, zr 17), (1, zr 37)], [], m) κ := by
  refine zb42_0_37 hT hB (fun hz => h _ hz ?_ ?_)
  · intro c j hc
    have e : c ≠ 37 := Nat.ne_of_beq_eq_false hc
    simp (disch := assumption) only [zu_dn, z_cp_dn]
  · intro j hj
    unfold cmom
    split
    · simp (disch := omega) only [zu_off, zu_dn, z_cp_of, z_cp_in, z_cp_dn, Nat.zero_add, Nat.sub_zero]
    · split
      · simp (disch := omega) only [zu_off, zu_dn, z_cp_of, z_cp_in, z_cp_dn, Nat.zero_add, Nat.sub_zero]
      · split
        · simp (disch := omega) only [zu_off, zu_dn, z_cp_of, z_cp_in, z_cp_dn, Nat.zero_add, Nat.sub_zero]
        · split
          · simp (disch := omega) only [zu_off, zu_dn, z_cp_of, z_cp_in, z_cp_dn, Nat.zero_add, Nat.sub_zero]
          · split
            · simp (disch := omega) only [zu_off, zu_dn, z_cp_of, z_cp_in, z_cp_dn, Nat.zero_add, Nat.sub_zero]
            · split
              · simp (disch := omega) only [zu_off, zu_dn, z_cp_of, z_cp_in, z_cp_dn, Nat.zero_add, Nat.sub_zero]
              · split
                · simp (disch := omega) only [zu_off, zu_sm]
                · split
                  · simp (disch := omega) only [zu_off, zu_sm]
                  · simp (disch := omega) only [zu_off, zu_sm]
theorem z_rt37 (hT : zRules T) (hB : zB m) (h : ∀ m1, zB m1 → zFr rtW m m1 → Brought m1 (m 37) → κ none m1) : T (D + 1) 43 (0, [(0, zr 17), (1, zr 37)], [], m) κ := by
  refine zb43_0_37 hT hB (fun hz => h _ hz ?_ ?_)
  · refine ((zFr.cp (zFr.cp (zFr.cp (zFr.cp (zFr.cp (zFr.cp zFr.refl (fun _ => rfl)) (fun _ => rfl)) (fun _ => rfl)) (fun _ => rfl)) (fun _ => rfl)) (fun _ => rfl)).set rfl).set rfl |>.set rfl
  · refine ⟨fun j hj => ?_, fun j hj => ?_, ?_, fun j hj => ?_, ?_, ?_⟩
    · simp (disch := omega) only [zu_off, zu_dn, z_cp_in, z_cp_dn, Nat.zero_add, Nat.sub_zero]
      exact ⟨trivial, by rw [Nat.add_comm]⟩
    · simp (disch := omega) only [zu_off, zu_dn, z_cp_in, z_cp_dn, Nat.zero_add, Nat.sub_zero]
      exact ⟨by rw [Nat.add_comm], by rw [Nat.add_comm], by rw [Nat.add_comm]⟩
    · simp (disch := omega) only [zu_sm, zu_dn]
    · simp (disch := omega) only [zu_off, zu_dn, z_cp_in, z_cp_dn, Nat.zero_add, Nat.sub_zero]
      rw [Nat.add_comm]
    · simp (disch := omega) only [zu_sm]
    · simp (disch := omega) only [zu_off, zu_sm]
theorem z_wt38 (hT : zRules T) (hB : zB m) (h : ∀ m1, zB m1 → zFr (rowW 38) m m1 → (∀ j, j < 59 → m1 38 j = cmom m j) → κ none m1) : T (D + 1) 42 (0, [(0, zr 17), (1, zr 38)], [], m) κ := by
  refine zb42_0_38 hT hB (fun hz => h _ hz ?_ ?_)
  · intro c j hc
    have e : c ≠ 38 := Nat.ne_of_beq_eq_false hc
    simp (disch := assumption) only [zu_dn, z_cp_dn]
  · intro j hj
    unfold cmom
    split
    · simp (disch := omega) only [zu_off, zu_dn, z_cp_of, z_cp_in, z_cp_dn, Nat.zero_add, Nat.sub_zero]
    · split
      · simp (disch := omega) only [zu_off, zu_dn, z_cp_of, z_cp_in, z_cp_dn, Nat.zero_add, Nat.sub_zero]
      · split
        · simp (disch := omega) only [zu_off, zu_dn, z_cp_of, z_cp_in, z_cp_dn, Nat.zero_add, Nat.sub_zero]
        · split
          · simp (disch := omega) only [zu_off, zu_dn, z_cp_of, z_cp_in, z_cp_dn, Nat.zero_add, Nat.sub_zero]
          · split
            · simp (disch := omega) only [zu_off, zu_dn, z_cp_of, z_cp_in, z_cp_dn, Nat.zero_add, Nat.sub_zero]
            · split
              · simp (disch := omega) only [zu_off, zu_dn, z_cp_of, z_cp_in, z_cp_dn, Nat.zero_add, Nat.sub_zero]
              · split
                · simp (disch := omega) only [zu_off, zu_sm]
                · split
                  · simp (disch := omega) only [zu_off, zu_sm]
                  · simp (disch := omega) only [zu_off, zu_sm]
theorem z_rt38 (hT : zRules T) (hB : zB m) (h : ∀ m1, zB m1 → zFr rtW m m1 → Brought m1 (m 38) → κ none m1) : T (D + 1) 43 (0, [(0, zr 17), (1, zr 38)], [], m) κ := by
  refine zb43_0_38 hT hB (fun hz => h _ hz ?_ ?_)
  · refine ((zFr.cp (zFr.cp (zFr.cp (zFr.cp (zFr.cp (zFr.cp zFr.refl (fun _ => rfl)) (fun _ => rfl)) (fun _ => rfl)) (fun _ => rfl)) (fun _ => rfl)) (fun _ => rfl)).set rfl).set rfl |>.set rfl
  · refine ⟨fun j hj => ?_, fun j hj => ?_, ?_, fun j hj => ?_, ?_, ?_⟩
    · simp (disch := omega) only [zu_off, zu_dn, z_cp_in, z_cp_dn, Nat.zero_add, Nat.sub_zero]
      exact ⟨trivial, by rw [Nat.add_comm]⟩
    · simp (disch := omega) only [zu_off, zu_dn, z_cp_in, z_cp_dn, Nat.zero_add, Nat.sub_zero]
      exact ⟨by rw [Nat.add_comm], by rw [Nat.add_comm], by rw [Nat.add_comm]⟩
    · simp (disch := omega) only [zu_sm, zu_dn]
    · simp (disch := omega) only [zu_off, zu_dn, z_cp_in, z_cp_dn, Nat.zero_add, Nat.sub_zero]
      rw [Nat.add_comm]
    · simp (disch := omega) only [zu_sm]
    · simp (disch := omega) only [zu_off, zu_sm]
theorem z_wt39 (hT : zRules T) (hB : zB m) (h : ∀ m1, zB m1 → zFr (rowW 39) m m1 → (∀ j, j < 59 → m1 39 j = cmom m j) → κ none m1) : T (D + 1) 42 (0, [(0, zr 17), (1, zr 39)], [], m) κ := by
  refine zb42_0_39 hT hB (fun hz => h _ hz ?_ ?_)
  · intro c j hc
    have e : c ≠ 39 := Nat.ne_of_beq_eq_false hc
    simp (disch := assumption) only [zu_dn, z_cp_dn]
  · intro j hj
    unfold cmom
    split
    · simp (disch := omega) only [zu_off, zu_dn, z_cp_of, z_cp_in, z_cp_dn, Nat.zero_add, Nat.sub_zero]
    · split
      · simp (disch := omega) only [zu_off, zu_dn, z_cp_of, z_cp_in, z_cp_dn, Nat.zero_add, Nat.sub_zero]
      · split
        · simp (disch := omega) only [zu_off, zu_dn, z_cp_of, z_cp_in, z_cp_dn, Nat.zero_add, Nat.sub_zero]
        · split
          · simp (disch := omega) only [zu_off, zu_dn, z_cp_of, z_cp_in, z_cp_dn, Nat.zero_add, Nat.sub_zero]
          · split
            · simp (disch := omega) only [zu_off, zu_dn, z_cp_of, z_cp_in, z_cp_dn, Nat.zero_add, Nat.sub_zero]
            · split
              · simp (disch := omega) only [zu_off, zu_dn, z_cp_of, z_cp_in, z_cp_dn, Nat.zero_add, Nat.sub_zero]
              · split
                · simp (disch := omega) only [zu_off, zu_sm]
                · split
                  · simp (disch := omega) only [zu_off, zu_sm]
                  · simp (disch := omega) only [zu_off, zu_sm]
theorem z_rt39 (hT : zRules T) (hB : zB m) (h : ∀ m1, zB m1 → zFr rtW m m1 → Brought m1 (m 39) → κ none m1) : T (D + 1) 43 (0, [(0, zr 17), (1, zr 39)], [], m) κ := by
  refine zb43_0_39 hT hB (fun hz => h _ hz ?_ ?_)
  · refine ((zFr.cp (zFr.cp (zFr.cp (zFr.cp (zFr.cp (zFr.cp zFr.refl (fun _ => rfl)) (fun _ => rfl)) (fun _ => rfl)) (fun _ => rfl)) (fun _ => rfl)) (fun _ => rfl)).set rfl).set rfl |>.set rfl
  · refine ⟨fun j hj => ?_, fun j hj => ?_, ?_, fun j hj => ?_, ?_, ?_⟩
    · simp (disch := omega) only [zu_off, zu_dn, z_cp_in, z_cp_dn, Nat.zero_add, Nat.sub_zero]
      exact ⟨trivial, by rw [Nat.add_comm]⟩
    · simp (disch := omega) only [zu_off, zu_dn, z_cp_in, z_cp_dn, Nat.zero_add, Nat.sub_zero]
      exact ⟨by rw [Nat.add_comm], by rw [Nat.add_comm], by rw [Nat.add_comm]⟩
    · simp (disch := omega) only [zu_sm, zu_dn]
    · simp (disch := omega) only [zu_off, zu_dn, z_cp_in, z_cp_dn, Nat.zero_add, Nat.sub_zero]
      rw [Nat.add_comm]
    · simp (disch := omega) only [zu_sm]
    · simp (disch := omega) only [zu_off, zu_sm]
theorem z_wt40 (hT : zRules T) (hB : zB m) (h : ∀ m1, zB m1 → zFr (rowW 40) m m1 → (∀ j, j < 59 → m1 40 j = cmom m j) → κ none m1) : T (D + 1) 42 (0, [(0, zr 17), (1, zr 40)], [], m) κ := by
  refine zb42_0_40 hT hB (fun hz => h _ hz ?_ ?_)
  · intro c j hc
    have e : c ≠ 40 := Nat.ne_of_beq_eq_false hc
    simp (disch := assumption) only [zu_dn, z_cp_dn]
  · intro j hj
    unfold cmom
    split
    · simp (disch := omega) only [zu_off, zu_dn, z_cp_of, z_cp_in, z_cp_dn, Nat.zero_add, Nat.sub_zero]
    · split
      · simp (disch := omega) only [zu_off, zu_dn, z_cp_of, z_cp_in, z_cp_dn, Nat.zero_add, Nat.sub_zero]
      · split
        · simp (disch := omega) only [zu_off, zu_dn, z_cp_of, z_cp_in, z_cp_dn, Nat.zero_add, Nat.sub_zero]
        · split
          · simp (disch := omega) only [zu_off, zu_dn, z_cp_of, z_cp_in, z_cp_dn, Nat.zero_add, Nat.sub_zero]
          · split
            · simp (disch := omega) only [zu_off, zu_dn, z_cp_of, z_cp_in, z_cp_dn, Nat.zero_add, Nat.sub_zero]
            · split
              · simp (disch := omega) only [zu_off, zu_dn, z_cp_of, z_cp_in, z_cp_dn, Nat.zero_add, Nat.sub_zero]
              · split
                · simp (disch := omega) only [zu_off, zu_sm]
                · split
                  · simp (disch := omega) only [zu_off, zu_sm]
                  · simp (disch := omega) only [zu_off, zu_sm]
theorem z_rt40 (hT : zRules T) (hB : zB m) (h : ∀ m1, zB m1 → zFr rtW m m1 → Brought m1 (m 40) → κ none m1) : T (D + 1) 43 (0, [(0, zr 17), (1, zr 40)], [], m) κ := by
  refine zb43_0_40 hT hB (fun hz => h _ hz ?_ ?_)
  · refine ((zFr.cp (zFr.cp (zFr.cp (zFr.cp (zFr.cp (zFr.cp zFr.refl (fun _ => rfl)) (fun _ => rfl)) (fun _ => rfl)) (fun _ => rfl)) (fun _ => rfl)) (fun _ => rfl)).set rfl).set rfl |>.set rfl
  · refine ⟨fun j hj => ?_, fun j hj => ?_, ?_, fun j hj => ?_, ?_, ?_⟩
    · simp (disch := omega) only [zu_off, zu_dn, z_cp_in, z_cp_dn, Nat.zero_add, Nat.sub_zero]
      exact ⟨trivial, by rw [Nat.add_comm]⟩
    · simp (disch := omega) only [zu_off, zu_dn, z_cp_in, z_cp_dn, Nat.zero_add, Nat.sub_zero]
      exact ⟨by rw [Nat.add_comm], by rw [Nat.add_comm], by rw [Nat.add_comm]⟩
    · simp (disch := omega) only [zu_sm, zu_dn]
    · simp (disch := omega) only [zu_off, zu_dn, z_cp_in, z_cp_dn, Nat.zero_add, Nat.sub_zero]
      rw [Nat.add_comm]
    · simp (disch := omega) only [zu_sm]
    · simp (disch := omega) only [zu_off, zu_sm]
theorem z_wt41 (hT : zRules T) (hB : zB m) (h : ∀ m1, zB m1 → zFr (rowW 41) m m1 → (∀ j, j < 59 → m1 41 j = cmom m j) → κ none m1) : T (D + 1) 42 (0, [(0, zr 17), (1, zr 41)], [], m) κ := by
  refine zb42_0_41 hT hB (fun hz => h _ hz ?_ ?_)
  · intro c j hc
    have e : c ≠ 41 := Nat.ne_of_beq_eq_false hc
    simp (disch := assumption) only [zu_dn, z_cp_dn]
  · intro j hj
    unfold cmom
    split
    · simp (disch := omega) only [zu_off, zu_dn, z_cp_of, z_cp_in, z_cp_dn, Nat.zero_add, Nat.sub_zero]
    · split
      · simp (disch := omega) only [zu_off, zu_dn, z_cp_of, z_cp_in, z_cp_dn, Nat.zero_add, Nat.sub_zero]
      · split
        · simp (disch := omega) only [zu_off, zu_dn, z_cp_of, z_cp_in, z_cp_dn, Nat.zero_add, Nat.sub_zero]
        · split
          · simp (disch := omega) only [zu_off, zu_dn, z_cp_of, z_cp_in, z_cp_dn, Nat.zero_add, Nat.sub_zero]
          · split
            · simp (disch := omega) only [zu_off, zu_dn, z_cp_of, z_cp_in, z_cp_dn, Nat.zero_add, Nat.sub_zero]
            · split
              · simp (disch := omega) only [zu_off, zu_dn, z_cp_of, z_cp_in, z_cp_dn, Nat.zero_add, Nat.sub_zero]
              · split
                · simp (disch := omega) only [zu_off, zu_sm]
                · split
                  · simp (disch := omega) only [zu_off, zu_sm]
                  · simp (disch := omega) only [zu_off, zu_sm]
theorem z_rt41 (hT : zRules T) (hB : zB m) (h : ∀ m1, zB m1 → zFr rtW m m1 → Brought m1 (m 41) → κ none m1) : T (D + 1) 43 (0, [(0, zr 17), (1, zr 41)], [], m) κ := by
  refine zb43_0_41 hT hB (fun hz => h _ hz ?_ ?_)
  · refine ((zFr.cp (zFr.cp (zFr.cp (zFr.cp (zFr.cp (zFr.cp zFr.refl (fun _ => rfl)) (fun _ => rfl)) (fun _ => rfl)) (fun _ => rfl)) (fun _ => rfl)) (fun _ => rfl)).set rfl).set rfl |>.set rfl
  · refine ⟨fun j hj => ?_, fun j hj => ?_, ?_, fun j hj => ?_, ?_, ?_⟩
    · simp (disch := omega) only [zu_off, zu_dn, z_cp_in, z_cp_dn, Nat.zero_add, Nat.sub_zero]
      exact ⟨trivial, by rw [Nat.add_comm]⟩
    · simp (disch := omega) only [zu_off, zu_dn, z_cp_in, z_cp_dn, Nat.zero_add, Nat.sub_zero]
      exact ⟨by rw [Nat.add_comm], by rw [Nat.add_comm], by rw [Nat.add_comm]⟩
    · simp (disch := omega) only [zu_sm, zu_dn]
    · simp (disch := omega) only [zu_off, zu_dn, z_cp_in, z_cp_dn, Nat.zero_add, Nat.sub_zero]
      rw [Nat.add_comm]
    · simp (disch := omega) only [zu_sm]
    · simp (disch := omega) only [zu_off, zu_sm]
theorem z_wt42 (hT : zRules T) (hB : zB m) (h : ∀ m1, zB m1 → zFr (rowW 42) m m1 → (∀ j, j < 59 → m1 42 j = cmom m j) → κ none m1) : T (D + 1) 42 (0, [(0, zr 17), (1, zr 42)], [], m) κ := by
  refine zb42_0_42 hT hB (fun hz => h _ hz ?_ ?_)
  · intro c j hc
    have e : c ≠ 42 := Nat.ne_of_beq_eq_false hc
    simp (disch := assumption) only [zu_dn, z_cp_dn]
  · intro j hj
    unfold cmom
    split
    · simp (disch := omega) only [zu_off, zu_dn, z_cp_of, z_cp_in, z_cp_dn, Nat.zero_add, Nat.sub_zero]
    · split
      · simp (disch := omega) only [zu_off, zu_dn, z_cp_of, z_cp_in, z_cp_dn, Nat.zero_add, Nat.sub_zero]
      · split
        · simp (disch := omega) only [zu_off, zu_dn, z_cp_of, z_cp_in, z_cp_dn, Nat.zero_add, Nat.sub_zero]
        · split
          · simp (disch := omega) only [zu_off, zu_dn, z_cp_of, z_cp_in, z_cp_dn, Nat.zero_add, Nat.sub_zero]
          · split
            · simp (disch := omega) only [zu_off, zu_dn, z_cp_of, z_cp_in, z_cp_dn, Nat.zero_add, Nat.sub_zero]
            · split
              · simp (disch := omega) only [zu_off, zu_dn, z_cp_of, z_cp_in, z_cp_dn, Nat.zero_add, Nat.sub_zero]
              · split
                · simp (disch := omega) only [zu_off, zu_sm]
                · split
                  · simp (disch := omega) only [zu_off, zu_sm]
                  · simp (disch := omega) only [zu_off, zu_sm]
theorem z_rt42 (hT : zRules T) (hB : zB m) (h : ∀ m1, zB m1 → zFr rtW m m1 → Brought m1 (m 42) → κ none m1) : T (D + 1) 43 (0, [(0, zr 17), (1, zr 42)], [], m) κ := by
  refine zb43_0_42 hT hB (fun hz => h _ hz ?_ ?_)
  · refine ((zFr.cp (zFr.cp (zFr.cp (zFr.cp (zFr.cp (zFr.cp zFr.refl (fun _ => rfl)) (fun _ => rfl)) (fun _ => rfl)) (fun _ => rfl)) (fun _ => rfl)) (fun _ => rfl)).set rfl).set rfl |>.set rfl
  · refine ⟨fun j hj => ?_, fun j hj => ?_, ?_, fun j hj => ?_, ?_, ?_⟩
    · simp (disch := omega) only [zu_off, zu_dn, z_cp_in, z_cp_dn, Nat.zero_add, Nat.sub_zero]
      exact ⟨trivial, by rw [Nat.add_comm]⟩
    · simp (disch := omega) only [zu_off, zu_dn, z_cp_in, z_cp_dn, Nat.zero_add, Nat.sub_zero]
      exact ⟨by rw [Nat.add_comm], by rw [Nat.add_comm], by rw [Nat.add_comm]⟩
    · simp (disch := omega) only [zu_sm, zu_dn]
    · simp (disch := omega) only [zu_off, zu_dn, z_cp_in, z_cp_dn, Nat.zero_add, Nat.sub_zero]
      rw [Nat.add_comm]
    · simp (disch := omega) only [zu_sm]
    · simp (disch := omega) only [zu_off, zu_sm]
theorem z_wt44 (hT : zRules T) (hB : zB m) (h : ∀ m1, zB m1 → zFr (rowW 44) m m1 → (∀ j, j < 59 → m1 44 j = cmom m j) → κ none m1) : T (D + 1) 42 (0, [(0, zr 17), (1, zr 44)], [], m) κ := by
  refine zb42_0_44 hT hB (fun hz => h _ hz ?_ ?_)
  · intro c j hc
    have e : c ≠ 44 := Nat.ne_of_beq_eq_false hc
    simp (disch := assumption) only [zu_dn, z_cp_dn]
  · intro j hj
    unfold cmom
    split
    · simp (disch := omega) only [zu_off, zu_dn, z_cp_of, z_cp_in, z_cp_dn, Nat.zero_add, Nat.sub_zero]
    · split
      · simp (disch := omega) only [zu_off, zu_dn, z_cp_of, z_cp_in, z_cp_dn, Nat.zero_add, Nat.sub_zero]
      · split
        · simp (disch := omega) only [zu_off, zu_dn, z_cp_of, z_cp_in, z_cp_dn, Nat.zero_add, Nat.sub_zero]
        · split
          · simp (disch := omega) only [zu_off, zu_dn, z_cp_of, z_cp_in, z_cp_dn, Nat.zero_add, Nat.sub_zero]
          · split
            · simp (disch := omega) only [zu_off, zu_dn, z_cp_of, z_cp_in, z_cp_dn, Nat.zero_add, Nat.sub_zero]
            · split
              · simp (disch := omega) only [zu_off, zu_dn, z_cp_of, z_cp_in, z_cp_dn, Nat.zero_add, Nat.sub_zero]
              · split
                · simp (disch := omega) only [zu_off, zu_sm]
                · split
                  · simp (disch := omega) only [zu_off, zu_sm]
                  · simp (disch := omega) only [zu_off, zu_sm]
theorem z_rt44 (hT : zRules T) (hB : zB m) (h : ∀ m1, zB m1 → zFr rtW m m1 → Brought m1 (m 44) → κ none m1) : T (D + 1) 43 (0, [(0, zr 17), (1, zr 44)], [], m) κ := by
  refine zb43_0_44 hT hB (fun hz => h _ hz ?_ ?_)
  · refine ((zFr.cp (zFr.cp (zFr.cp (zFr.cp (zFr.cp (zFr.cp zFr.refl (fun _ => rfl)) (fun _ => rfl)) (fun _ => rfl)) (fun _ => rfl)) (fun _ => rfl)) (fun _ => rfl)).set rfl).set rfl |>.set rfl
  · refine ⟨fun j hj => ?_, fun j hj => ?_, ?_, fun j hj => ?_, ?_, ?_⟩
    · simp (disch := omega) only [zu_off, zu_dn, z_cp_in, z_cp_dn, Nat.zero_add, Nat.sub_zero]
      exact ⟨trivial, by rw [Nat.add_comm]⟩
    · simp (disch := omega) only [zu_off, zu_dn, z_cp_in, z_cp_dn, Nat.zero_add, Nat.sub_zero]
      exact ⟨by rw [Nat.add_comm], by rw [Nat.add_comm], by rw [Nat.add_comm]⟩
    · simp (disch := omega) only [zu_sm, zu_dn]
    · simp (disch := omega) only [zu_off, zu_dn, z_cp_in, z_cp_dn, Nat.zero_add, Nat.sub_zero]
      rw [Nat.add_comm]
    · simp (disch := omega) only [zu_sm]
    · simp (disch := omega) only [zu_off, zu_sm]
theorem z_wt45 (hT : zRules T) (hB : zB m) (h : ∀ m1, zB m1 → zFr (rowW 45) m m1 → (∀ j, j < 59 → m1 45 j = cmom m j) → κ none m1) : T (D + 1) 42 (0, [(0, zr 17), (1, zr 45)], [], m) κ := by
  refine zb42_0_45 hT hB (fun hz => h _ hz ?_ ?_)
  · intro c j hc
    have e : c ≠ 45 := Nat.ne_of_beq_eq_false hc
    simp (disch := assumption) only [zu_dn, z_cp_dn]
  · intro j hj
    unfold cmom
    split
    · simp (disch := omega) only [zu_off, zu_dn, z_cp_of, z_cp_in, z_cp_dn, Nat.zero_add, Nat.sub_zero]
    · split
      · simp (disch := omega) only [zu_off, zu_dn, z_cp_of, z_cp_in, z_cp_dn, Nat.zero_add, Nat.sub_zero]
      · split
        · simp (disch := omega) only [zu_off, zu_dn, z_cp_of, z_cp_in, z_cp_dn, Nat.zero_add, Nat.sub_zero]
        · split
          · simp (disch := omega) only [zu_off, zu_dn, z_cp_of, z_cp_in, z_cp_dn, Nat.zero_add, Nat.sub_zero]
          · split
            · simp (disch := omega) only [zu_off, zu_dn, z_cp_of, z_cp_in, z_cp_dn, Nat.zero_add, Nat.sub_zero]
            · split
              · simp (disch := omega) only [zu_off, zu_dn, z_cp_of, z_cp_in, z_cp_dn, Nat.zero_add, Nat.sub_zero]
              · split
                · simp (disch := omega) only [zu_off, zu_sm]
                · split
                  · simp (disch := omega) only [zu_off, zu_sm]
                  · simp (disch := omega) only [zu_off, zu_sm]
theorem z_rt45 (hT : zRules T) (hB : zB m) (h : ∀ m1, zB m1 → zFr rtW m m1 → Brought m1 (m 45) → κ none m1) : T (D + 1) 43 (0, [(0, zr 17), (1, zr 45)], [], m) κ := by
  refine zb43_0_45 hT hB (fun hz => h _ hz ?_ ?_)
  · refine ((zFr.cp (zFr.cp (zFr.cp (zFr.cp (zFr.cp (zFr.cp zFr.refl (fun _ => rfl)) (fun _ => rfl)) (fun _ => rfl)) (fun _ => rfl)) (fun _ => rfl)) (fun _ => rfl)).set rfl).set rfl |>.set rfl
  · refine ⟨fun j hj => ?_, fun j hj => ?_, ?_, fun j hj => ?_, ?_, ?_⟩
    · simp (disch := omega) only [zu_off, zu_dn, z_cp_in, z_cp_dn, Nat.zero_add, Nat.sub_zero]
      exact ⟨trivial, by rw [Nat.add_comm]⟩
    · simp (disch := omega) only [zu_off, zu_dn, z_cp_in, z_cp_dn, Nat.zero_add, Nat.sub_zero]
      exact ⟨by rw [Nat.add_comm], by rw [Nat.add_comm], by rw [Nat.add_comm]⟩
    · simp (disch := omega) only [zu_sm, zu_dn]
    · simp (disch := omega) only [zu_off, zu_dn, z_cp_in, z_cp_dn, Nat.zero_add, Nat.sub_zero]
      rw [Nat.add_comm]
    · simp (disch := omega) only [zu_sm]
    · simp (disch := omega) only [zu_off, zu_sm]
/-- the free slot -/
noncomputable def frs (m : zM) : Nat := (Int.tmod (m 28 4 + m 28 5) 13).toNat
theorem frsB {m : zM} (hB : zB m) : 0 ≤ Int.tmod (m 28 4 + m 28 5) 13 ∧ Int.tmod (m 28 4 + m 28 5) 13 ≤ 12 := by
  have h1 : 0 ≤ m 28 4 ∧ m 28 4 ≤ 12 := hB 28 4
  have h2 : 0 ≤ m 28 5 ∧ m 28 5 ≤ 12 := hB 28 5
  exact z_tmodB _ _ _ (by omega) (by omega) (by omega)
theorem z_mark (hT : zRules T) (hB : zB m) (h : ∀ m1, zB m1 → zFr (rowW (30 + frs m)) m m1 → (∀ j, j < 59 → m1 (30 + frs m) j = cmom m j) → κ none m1) : T (D + 2) 16 (0, [(0, zr 28), (1, zr 17)], [], m) κ := by
  have fin : ∀ (s : Nat), Int.tmod (m 28 4 + m 28 5) 13 = (s : Int) → ∀ m1, zB m1 → zFr (rowW (30 + s)) m m1 → (∀ j, j < 59 → m1 (30 + s) j = cmom m j) → T (D + 2) 16 (13, [(0, zr 28), (1, zr 17)], [], m1) κ := by
    intro s hs m1 h1 h2 h3
    have e : frs m = s := by unfold frs; omega
    exact zb16_13 hT rfl (h m1 h1 (by rw [e]; exact h2) (by rw [e]; exact h3))
  refine zb16_0 hT hB ?_ ?_ ?_ ?_ ?_ ?_ ?_ ?_ ?_ ?_ ?_ ?_ ?_
  · exact fun e => z_wt30 hT hB (fin 0 e)
  · exact fun e => z_wt31 hT hB (fin 1 e)
  · exact fun e => z_wt32 hT hB (fin 2 e)
  · exact fun e => z_wt33 hT hB (fin 3 e)
  · exact fun e => z_wt34 hT hB (fin 4 e)
  · exact fun e => z_wt35 hT hB (fin 5 e)
  · exact fun e => z_wt36 hT hB (fin 6 e)
  · exact fun e => z_wt37 hT hB (fin 7 e)
  · exact fun e => z_wt38 hT hB (fin 8 e)
  · exact fun e => z_wt39 hT hB (fin 9 e)
  · exact fun e => z_wt40 hT hB (fin 10 e)
  · exact fun e => z_wt41 hT hB (fin 11 e)
  · exact fun e => z_wt42 hT hB (fin 12 e)
theorem z_back (hT : zRules T) (hB : zB m) (h : ∀ m1, zB m1 → zFr rtW m m1 → Brought m1 (m (30 + frs m)) → κ none m1) : T (D + 2) 19 (0, [(0, zr 28), (1, zr 17)], [], m) κ := by
  have fin : ∀ (s : Nat), Int.tmod (m 28 4 + m 28 5) 13 = (s : Int) → ∀ m1, zB m1 → zFr rtW m m1 → Brought m1 (m (30 + s)) → T (D + 2) 19 (13, [(0, zr 28), (1, zr 17)], [], m1) κ := by
    intro s hs m1 h1 h2 h3
    have e : frs m = s := by unfold frs; omega
    exact zb19_13 hT rfl (h m1 h1 h2 (by rw [e]; exact h3))
  refine zb19_0 hT hB ?_ ?_ ?_ ?_ ?_ ?_ ?_ ?_ ?_ ?_ ?_ ?_ ?_
  · exact fun e => z_rt30 hT hB (fin 0 e)
  · exact fun e => z_rt31 hT hB (fin 1 e)
  · exact fun e => z_rt32 hT hB (fin 2 e)
  · exact fun e => z_rt33 hT hB (fin 3 e)
  · exact fun e => z_rt34 hT hB (fin 4 e)
  · exact fun e => z_rt35 hT hB (fin 5 e)
  · exact fun e => z_rt36 hT hB (fin 6 e)
  · exact fun e => z_rt37 hT hB (fin 7 e)
  · exact fun e => z_rt38 hT hB (fin 8 e)
  · exact fun e => z_rt39 hT hB (fin 9 e)
  · exact fun e => z_rt40 hT hB (fin 10 e)
  · exact fun e => z_rt41 hT hB (fin 11 e)
  · exact fun e => z_rt42 hT hB (fin 12 e)
end ZMom
end
-- 44.core2.lean.txt
section
/-! Who wears it; a cloth made long on the reference's rows; rows laid; what the reference remembers. -/
/-- the first from p on, of j, at which it is c -/
noncomputable def wIx (f : Nat → Int) (c : Int) : Nat → Nat → Int
  | _, 0 => -1
  | p, j + 1 => if f p = c then (p : Int) else wIx f c (p + 1) j
theorem zbd87 {i j : Nat} {v : Int} (h : i % 59 = j % 59) (hv : zbd 87 i v) : zbd 87 j v := by
  show (match zb75 (j % 59) with
    | some q => q.1 ≤ v ∧ v ≤ q.2
    | none => True)
  rw [← h]
  exact hv
theorem zbd8775 {u j : Nat} {v : Int} (hj : j < 59) (hv : zbd 75 j v) : zbd 87 (59 * u + j) v := by
  show (match zb75 ((59 * u + j) % 59) with
    | some q => q.1 ≤ v ∧ v ≤ q.2
    | none => True)
  rw [show (59 * u + j) % 59 = j by omega]
  exact hv
theorem zbd7587 {u j : Nat} {v : Int} (hj : j < 59) (hv : zbd 87 (59 * u + j) v) : zbd 75 j v := by
  have e : (59 * u + j) % 59 = j := by omega
  have h : (match zb75 ((59 * u + j) % 59) with
    | some q => q.1 ≤ v ∧ v ≤ q.2
    | none => True) := hv
  rw [e] at h
  exact h
theorem zbd10675 {u j : Nat} {v : Int} (hj : j < 59) (hv : zbd 75 j v) : zbd 106 (59 * u + j) v := zbd8775 (u := u) hj hv
theorem zbd75106 {u j : Nat} {v : Int} (hj : j < 59) (hv : zbd 106 (59 * u + j) v) : zbd 75 j v := zbd7587 (u := u) hj hv
theorem z_cp_s {m : zM} {q0 q1 sp dp n : Nat} (h : q0 ≠ q1) : zu (z_cp m q0 q1 sp dp n) q1 (dp + n) (z_cp m q0 q1 sp dp n q0 (sp + n)) = z_cp m q0 q1 sp dp (n + 1) := by
  funext c j
  by_cases e : c = q1
  · subst e
    rw [z_cp_dn h]
    by_cases e2 : j = dp + n
    · subst e2
      rw [zu_sm rfl, z_cp_in (by omega)]
      congr 1
      omega
    · rw [zu_off e2]
      by_cases e3 : dp ≤ j ∧ j < dp + n
      · rw [z_cp_in e3, z_cp_in (by omega)]
      · rw [z_cp_of e3, z_cp_of (by omega)]
  · rw [zu_dn e, z_cp_dn e, z_cp_dn e]
theorem z_cp_0 {m : zM} {q0 q1 sp dp : Nat} : z_cp m q0 q1 sp dp 0 = m := by
  funext c j
  by_cases e : c = q1
  · subst e
    rw [z_cp_of (by omega)]
  · rw [z_cp_dn e]
theorem zu_dnR {m : zM} {q c i : Nat} {v : Int} (h : c ≠ q) : zu m q i v c = m c := zu_ne h
section ZCore2
variable {T : Nat → Nat → zG → (Option zA → zM → Prop) → Prop} {D : Nat} {κ : Option zA → zM → Prop} {m : zM}
theorem z_wearerOf (hT : zRules T) {c : Int} {n : Nat} (hB : zB m) (hc : -1 ≤ c ∧ c ≤ 100) (hn : m 17 0 = (n : Int)) (h : κ (some (zi (wIx (m 20) c 0 n))) m) : T (D + 1) 29 (0, [(0, zr 17), (1, zi c)], [], m) κ := by
  have hN : 0 ≤ m 17 0 ∧ m 17 0 ≤ 6 := hB 17 0
  have key : ∀ j p : Nat, p + j = n → κ (some (zi (wIx (m 20) c p j))) m → T (D + 1) 29 (2, [(0, zr 17), (1, zi c), (2, zi (p : Int))], [], m) κ := by
    intro j
    induction j with
    | zero =>
      intro p hp hk
      exact zb29_2 hT rfl hB hc (by omega) (fun _ => hk) (fun h1 => by omega) (fun h1 => by omega)
    | succ j ih =>
      intro p hp hk
      refine zb29_2 hT rfl hB hc (by omega) (fun h1 => by omega) (fun h1 h2 => ?_) (fun h1 h2 => ?_)
      · rw [wIx, if_neg h2] at hk
        exact ih (p + 1) (by omega) hk
      · rw [wIx, if_pos h2] at hk
        exact hk
  exact zb29_0 hT hB hc (key n 0 (by omega) h)
theorem z_wearer (hT : zRules T) {c : Int} {n : Nat} (hB : zB m) (hc : -1 ≤ c ∧ c ≤ 100) (hn : m 74 4 = (n : Int)) (h : κ (some (zi (wIx (fun p => m 75 (p + 6)) c 0 n))) m) : T (D + 1) 217 (0, [(0, zr 74), (1, zr 75), (2, zi c)], [], m) κ := by
  have hN : 0 ≤ m 74 4 ∧ m 74 4 ≤ 6 := hB 74 4
  have key : ∀ j p : Nat, p + j = n → κ (some (zi (wIx (fun p => m 75 (p + 6)) c p j))) m → T (D + 1) 217 (2, [(0, zr 74), (1, zr 75), (2, zi c), (3, zi (p : Int))], [], m) κ := by
    intro j
    induction j with
    | zero =>
      intro p hp hk
      exact zb217_2 hT rfl hB hc (by omega) (fun _ => hk) (fun h1 => by omega) (fun h1 => by omega)
    | succ j ih =>
      intro p hp hk
      refine zb217_2 hT rfl hB hc (by omega) (fun h1 => by omega) (fun h1 h2 => ?_) (fun h1 h2 => ?_)
      · rw [wIx, if_neg h2] at hk
        exact ih (p + 1) (by omega) hk
      · rw [wIx, if_pos h2] at hk
        exact hk
  exact zb217_0 hT hB hc (key n 0 (by omega) h)
theorem wIx_congr {f g : Nat → Int} {c : Int} : ∀ (j p : Nat), (∀ i, p ≤ i → i < p + j → f i = g i) → wIx f c p j = wIx g c p j
  | 0, _, _ => rfl
  | j + 1, p, h => by
    rw [wIx, wIx, h p (by omega) (by omega), wIx_congr j (p + 1) (fun i h1 h2 => h i (by omega) (by omega))]
theorem wIx_rng {f : Nat → Int} {c : Int} : ∀ (j p : Nat), wIx f c p j = -1 ∨ ((p : Int) ≤ wIx f c p j ∧ wIx f c p j < (p : Int) + j)
  | 0, _ => Or.inl rfl
  | j + 1, p => by
    rw [wIx]
    split
    · exact Or.inr ⟨by omega, by omega⟩
    · rcases wIx_rng j (p + 1) with h | h
      · exact Or.inl h
      · exact Or.inr ⟨by omega, by omega⟩
theorem z_lay_75_91 (hT : zRules T) {k : Nat} (hk : k ≤ 0) (h : κ none (z_cp m 75 91 0 k 59)) : T (D + 1) 228 (0, [(0, zr 75), (1, zr 91), (2, zi (k : Int))], [], m) κ := by
  have key : ∀ j i : Nat, i + j = 59 → T (D + 1) 228 (2, [(0, zr 75), (1, zr 91), (2, zi (k : Int)), (3, zi (i : Int))], [], z_cp m 75 91 0 k i) κ := by
    intro j
    induction j with
    | zero =>
      intro i hi
      have ei : i = 59 := by omega
      subst ei
      exact zb228_2_75_91 hT rfl hk (by omega) (fun _ => h) (fun h1 => by omega)
    | succ j ih =>
      intro i hi
      refine zb228_2_75_91 hT rfl hk (by omega) (fun h1 => by omega) (fun h1 => ?_)
      have e := z_cp_s (m := m) (q0 := 75) (q1 := 91) (sp := 0) (dp := k) (n := i) (by omega)
      rw [Nat.zero_add] at e
      rw [e]
      exact ih (i + 1) (by omega)
  refine zb228_0_75_91 hT (by omega) ?_
  have := key 59 0 (by omega)
  rw [z_cp_0] at this
  exact this
theorem z_lay_75_88 (hT : zRules T) {k : Nat} (hk : k ≤ 0) (h : κ none (z_cp m 75 88 0 k 59)) : T (D + 1) 228 (0, [(0, zr 75), (1, zr 88), (2, zi (k : Int))], [], m) κ := by
  have key : ∀ j i : Nat, i + j = 59 → T (D + 1) 228 (2, [(0, zr 75), (1, zr 88), (2, zi (k : Int)), (3, zi (i : Int))], [], z_cp m 75 88 0 k i) κ := by
    intro j
    induction j with
    | zero =>
      intro i hi
      have ei : i = 59 := by omega
      subst ei
      exact zb228_2_75_88 hT rfl hk (by omega) (fun _ => h) (fun h1 => by omega)
    | succ j ih =>
      intro i hi
      refine zb228_2_75_88 hT rfl hk (by omega) (fun h1 => by omega) (fun h1 => ?_)
      have e := z_cp_s (m := m) (q0 := 75) (q1 := 88) (sp := 0) (dp := k) (n := i) (by omega)
      rw [Nat.zero_add] at e
      rw [e]
      exact ih (i + 1) (by omega)
  refine zb228_0_75_88 hT (by omega) ?_
  have := key 59 0 (by omega)
  rw [z_cp_0] at this
  exact this
theorem z_lay_75_87 (hT : zRules T) {k : Nat} (hk : k ≤ 649) (h : κ none (z_cp m 75 87 0 k 59)) : T (D + 1) 228 (0, [(0, zr 75), (1, zr 87), (2, zi (k : Int))], [], m) κ := by
  have key : ∀ j i : Nat, i + j = 59 → T (D + 1) 228 (2, [(0, zr 75), (1, zr 87), (2, zi (k : Int)), (3, zi (i : Int))], [], z_cp m 75 87 0 k i) κ := by
    intro j
    induction j with
    | zero =>
      intro i hi
      have ei : i = 59 := by omega
      subst ei
      exact zb228_2_75_87 hT rfl hk (by omega) (fun _ => h) (fun h1 => by omega)
    | succ j ih =>
      intro i hi
      refine zb228_2_75_87 hT rfl hk (by omega) (fun h1 => by omega) (fun h1 => ?_)
      have e := z_cp_s (m := m) (q0 := 75) (q1 := 87) (sp := 0) (dp := k) (n := i) (by omega)
      rw [Nat.zero_add] at e
      rw [e]
      exact ih (i + 1) (by omega)
  refine zb228_0_75_87 hT (by omega) ?_
  have := key 59 0 (by omega)
  rw [z_cp_0] at this
  exact this
theorem z_lay_88_87 (hT : zRules T) {k : Nat} (hk : k ≤ 649) (h : κ none (z_cp m 88 87 0 k 59)) : T (D + 1) 228 (0, [(0, zr 88), (1, zr 87), (2, zi (k : Int))], [], m) κ := by
  have key : ∀ j i : Nat, i + j = 59 → T (D + 1) 228 (2, [(0, zr 88), (1, zr 87), (2, zi (k : Int)), (3, zi (i : Int))], [], z_cp m 88 87 0 k i) κ := by
    intro j
    induction j with
    | zero =>
      intro i hi
      have ei : i = 59 := by omega
      subst ei
      exact zb228_2_88_87 hT rfl hk (by omega) (fun _ => h) (fun h1 => by omega)
    | succ j ih =>
      intro i hi
      refine zb228_2_88_87 hT rfl hk (by omega) (fun h1 => by omega) (fun h1 => ?_)
      have e := z_cp_s (m := m) (q0 := 88) (q1 := 87) (sp := 0) (dp := k) (n := i) (by omega)
      rw [Nat.zero_add] at e
      rw [e]
      exact ih (i + 1) (by omega)
  refine zb228_0_88_87 hT (by omega) ?_
  have := key 59 0 (by omega)
  rw [z_cp_0] at this
  exact this
theorem z_lay_75_106 (hT : zRules T) {k : Nat} (hk : k ≤ 59) (h : κ none (z_cp m 75 106 0 k 59)) : T (D + 1) 228 (0, [(0, zr 75), (1, zr 106), (2, zi (k : Int))], [], m) κ := by
  have key : ∀ j i : Nat, i + j = 59 → T (D + 1) 228 (2, [(0, zr 75), (1, zr 106), (2, zi (k : Int)), (3, zi (i : Int))], [], z_cp m 75 106 0 k i) κ := by
    intro j
    induction j with
    | zero =>
      intro i hi
      have ei : i = 59 := by omega
      subst ei
      exact zb228_2_75_106 hT rfl hk (by omega) (fun _ => h) (fun h1 => by omega)
    | succ j ih =>
      intro i hi
      refine zb228_2_75_106 hT rfl hk (by omega) (fun h1 => by omega) (fun h1 => ?_)
      have e := z_cp_s (m := m) (q0 := 75) (q1 := 106) (sp := 0) (dp := k) (n := i) (by omega)
      rw [Nat.zero_add] at e
      rw [e]
      exact ih (i + 1) (by omega)
  refine zb228_0_75_106 hT (by omega) ?_
  have := key 59 0 (by omega)
  rw [z_cp_0] at this
  exact this
theorem z_makes_75 (hT : zRules T) {c : Nat} {v : Int} {a : zS} (hB : zB m) (hc : c ≤ 7) (hv : 0 ≤ v ∧ v ≤ 99) (hR : RelR 75 m a)
    (h : ∀ m1, zB m1 → zFr (mkW 75) m m1 → RelR 75 m1 (mkA (m 79 0) a c v) → κ none m1) : T (D + 2) 226 (0, [(0, zr 74), (1, zr 75), (2, zi (c : Int)), (3, zi v)], [], m) κ := by
  obtain ⟨r1, b1, b2, b3⟩ := hR
  have e1 : a.1 (c + 12) = m 75 (c + 12) := by rw [r1]
  have e2 : a.1 (c + 20) = m 75 (c + 20) := by rw [r1]
  have e3 : a.1 (c + 28) = m 75 (c + 28) := by rw [r1]
  have e5 : a.1 56 = m 75 56 := by rw [r1]
  have hB5 : 0 ≤ m 75 56 ∧ m 75 56 ≤ 20 := hB 75 56
  have hB9 : 0 ≤ m 79 0 ∧ m 79 0 ≤ 9 := hB 79 0
  have w1 := zSg hB 75 12 20 (-1) 99 rfl (c + 12) (by omega) (by omega)
  have w2 := zSg hB 75 20 28 (-1) 9 rfl (c + 20) (by omega) (by omega)
  refine zb226_0_75 hT hB hc hv ?_ ?_ ?_ ?_ ?_
  · intro a1 a2 a3 a4
    have hs : (zu (zu (zu (zu (zu m 75 (c + 12) v) 75 (c + 20) (m 79 0)) 74 32 ((m 74 32) + 2)) 74 33 ((m 74 33) + ((((m 75 (c + 12)) + (m 75 (c + 20))) - v) - (m 79 0)))) 75 ((36 + (m 75 56)).toNat) ((((m 75 (c + 12)) + (m 75 (c + 20))) - v) - (m 79 0))) 75 56 = m 75 56 := by
      simp (disch := omega) only [zu_off, zu_dn]
    rw [hs]
    refine h _ ?_ ((((((zFr.refl.set rfl).set rfl).set rfl).set rfl).set rfl).set rfl) ⟨?_, ?_, ?_, ?_⟩
    · refine zB_u (zB_u (zB_u (zB_u (zB_u (zB_u hB (zbSg 75 12 20 (-1) 99 rfl _ _ (by omega) (by omega) ⟨by omega, by omega⟩)) (zbSg 75 20 28 (-1) 9 rfl _ _ (by omega) (by omega) ⟨by omega, by omega⟩)) trivial) trivial) (zbSg 75 36 56 0 108 rfl _ _ (by omega) (by omega) ⟨by omega, by omega⟩)) ?_
      show 0 ≤ m 75 56 + 1 ∧ m 75 56 + 1 ≤ 20
      omega
    · rw [mkA, if_neg (by omega), if_neg (by omega), if_pos (by omega), if_neg (by omega)]
      simp (disch := omega) only [zu_row, zu_dnR, r1]
    · rw [mkA, if_neg (by omega), if_neg (by omega), if_pos (by omega)]
      simp (disch := omega) only [zu_dn, zu_off]
      exact b1
    · rw [mkA, if_neg (by omega), if_neg (by omega), if_pos (by omega)]
      simp (disch := omega) only [zu_dn, zu_off, zu_sm]
      omega
    · rw [mkA, if_neg (by omega), if_neg (by omega), if_pos (by omega)]
      simp (disch := omega) only [zu_dn, zu_off, zu_sm]
      omega
  · intro a1 a2 a3 a4 hz
    refine h _ hz ((((zFr.refl.set rfl).set rfl).set rfl).set rfl) ⟨?_, ?_, ?_, ?_⟩
    · rw [mkA, if_neg (by omega), if_neg (by omega), if_pos (by omega), if_pos (by omega)]
      simp (disch := omega) only [zu_row, zu_dnR, r1]
    · rw [mkA, if_neg (by omega), if_neg (by omega), if_pos (by omega)]
      simp (disch := omega) only [zu_dn, zu_off]
      exact b1
    · rw [mkA, if_neg (by omega), if_neg (by omega), if_pos (by omega)]
      simp (disch := omega) only [zu_dn, zu_off, zu_sm]
      omega
    · rw [mkA, if_neg (by omega), if_neg (by omega), if_pos (by omega)]
      simp (disch := omega) only [zu_dn, zu_off, zu_sm]
      omega
  · intro a1 a2 a3 hz
    refine h _ hz (((zFr.refl.set rfl).set rfl).set rfl) ⟨?_, ?_, ?_, ?_⟩
    · rw [mkA, if_neg (by omega), if_neg (by omega), if_neg (by omega)]
      simp (disch := omega) only [zu_row, zu_dnR, r1]
    · rw [mkA, if_neg (by omega), if_neg (by omega), if_neg (by omega)]
      simp (disch := omega) only [zu_dn, zu_off]
      exact b1
    · rw [mkA, if_neg (by omega), if_neg (by omega), if_neg (by omega)]
      simp (disch := omega) only [zu_dn, zu_off, zu_sm]
      omega
    · rw [mkA, if_neg (by omega), if_neg (by omega), if_neg (by omega)]
      simp (disch := omega) only [zu_dn, zu_off, zu_sm]
      exact b3
  · intro a1 a2 hz
    refine h _ hz (((((zFr.refl.set rfl).set rfl).set rfl).set rfl).set rfl) ⟨?_, ?_, ?_, ?_⟩
    · rw [mkA, if_neg (by omega), if_pos (by omega)]
      simp (disch := omega) only [zu_row, zu_dnR, r1]
    · rw [mkA, if_neg (by omega), if_pos (by omega)]
      simp (disch := omega) only [zu_dn, zu_off, zu_sm]
      omega
    · rw [mkA, if_neg (by omega), if_pos (by omega)]
      simp (disch := omega) only [zu_dn, zu_off, zu_sm]
      omega
    · rw [mkA, if_neg (by omega), if_pos (by omega)]
      simp (disch := omega) only [zu_dn, zu_off, zu_sm]
      exact b3
  · intro a1
    refine h m hB zFr.refl ?_
    rw [mkA, if_pos (by omega)]
    exact ⟨r1, b1, b2, b3⟩
theorem z_makes_91 (hT : zRules T) {c : Nat} {v : Int} {a : zS} (hB : zB m) (hc : c ≤ 7) (hv : 0 ≤ v ∧ v ≤ 99) (hR : RelR 91 m a)
    (h : ∀ m1, zB m1 → zFr (mkW 91) m m1 → RelR 91 m1 (mkA (m 79 0) a c v) → κ none m1) : T (D + 2) 226 (0, [(0, zr 74), (1, zr 91), (2, zi (c : Int)), (3, zi v)], [], m) κ := by
  obtain ⟨r1, b1, b2, b3⟩ := hR
  have e1 : a.1 (c + 12) = m 91 (c + 12) := by rw [r1]
  have e2 : a.1 (c + 20) = m 91 (c + 20) := by rw [r1]
  have e3 : a.1 (c + 28) = m 91 (c + 28) := by rw [r1]
  have e5 : a.1 56 = m 91 56 := by rw [r1]
  have hB5 : 0 ≤ m 91 56 ∧ m 91 56 ≤ 20 := hB 91 56
  have hB9 : 0 ≤ m 79 0 ∧ m 79 0 ≤ 9 := hB 79 0
  have w1 := zSg hB 91 12 20 (-1) 99 rfl (c + 12) (by omega) (by omega)
  have w2 := zSg hB 91 20 28 (-1) 9 rfl (c + 20) (by omega) (by omega)
  refine zb226_0_91 hT hB hc hv ?_ ?_ ?_ ?_ ?_
  · intro a1 a2 a3 a4
    have hs : (zu (zu (zu (zu (zu m 91 (c + 12) v) 91 (c + 20) (m 79 0)) 74 32 ((m 74 32) + 2)) 74 33 ((m 74 33) + ((((m 91 (c + 12)) + (m 91 (c + 20))) - v) - (m 79 0)))) 91 ((36 + (m 91 56)).toNat) ((((m 91 (c + 12)) + (m 91 (c + 20))) - v) - (m 79 0))) 91 56 = m 91 56 := by
      simp (disch := omega) only [zu_off, zu_dn]
    rw [hs]
    refine h _ ?_ ((((((zFr.refl.set rfl).set rfl).set rfl).set rfl).set rfl).set rfl) ⟨?_, ?_, ?_, ?_⟩
    · refine zB_u (zB_u (zB_u (zB_u (zB_u (zB_u hB (zbSg 91 12 20 (-1) 99 rfl _ _ (by omega) (by omega) ⟨by omega, by omega⟩)) (zbSg 91 20 28 (-1) 9 rfl _ _ (by omega) (by omega) ⟨by omega, by omega⟩)) trivial) trivial) (zbSg 91 36 56 0 108 rfl _ _ (by omega) (by omega) ⟨by omega, by omega⟩)) ?_
      show 0 ≤ m 91 56 + 1 ∧ m 91 56 + 1 ≤ 20
      omega
    · rw [mkA, if_neg (by omega), if_neg (by omega), if_pos (by omega), if_neg (by omega)]
      simp (disch := omega) only [zu_row, zu_dnR, r1]
    · rw [mkA, if_neg (by omega), if_neg (by omega), if_pos (by omega)]
      simp (disch := omega) only [zu_dn, zu_off]
      exact b1
    · rw [mkA, if_neg (by omega), if_neg (by omega), if_pos (by omega)]
      simp (disch := omega) only [zu_dn, zu_off, zu_sm]
      omega
    · rw [mkA, if_neg (by omega), if_neg (by omega), if_pos (by omega)]
      simp (disch := omega) only [zu_dn, zu_off, zu_sm]
      omega
  · intro a1 a2 a3 a4 hz
    refine h _ hz ((((zFr.refl.set rfl).set rfl).set rfl).set rfl) ⟨?_, ?_, ?_, ?_⟩
    · rw [mkA, if_neg (by omega), if_neg (by omega), if_pos (by omega), if_pos (by omega)]
      simp (disch := omega) only [zu_row, zu_dnR, r1]
    · rw [mkA, if_neg (by omega), if_neg (by omega), if_pos (by omega)]
      simp (disch := omega) only [zu_dn, zu_off]
      exact b1
    · rw [mkA, if_neg (by omega), if_neg (by omega), if_pos (by omega)]
      simp (disch := omega) only [zu_dn, zu_off, zu_sm]
      omega
    · rw [mkA, if_neg (by omega), if_neg (by omega), if_pos (by omega)]
      simp (disch := omega) only [zu_dn, zu_off, zu_sm]
      omega
  · intro a1 a2 a3 hz
    refine h _ hz (((zFr.refl.set rfl).set rfl).set rfl) ⟨?_, ?_, ?_, ?_⟩
    · rw [mkA, if_neg (by omega), if_neg (by omega), if_neg (by omega)]
      simp (disch := omega) only [zu_row, zu_dnR, r1]
    · rw [mkA, if_neg (by omega), if_neg (by omega), if_neg (by omega)]
      simp (disch := omega) only [zu_dn, zu_off]
      exact b1
    · rw [mkA, if_neg (by omega), if_neg (by omega), if_neg (by omega)]
      simp (disch := omega) only [zu_dn, zu_off, zu_sm]
      omega
    · rw [mkA, if_neg (by omega), if_neg (by omega), if_neg (by omega)]
      simp (disch := omega) only [zu_dn, zu_off, zu_sm]
      exact b3
  · intro a1 a2 hz
    refine h _ hz (((((zFr.refl.set rfl).set rfl).set rfl).set rfl).set rfl) ⟨?_, ?_, ?_, ?_⟩
    · rw [mkA, if_neg (by omega), if_pos (by omega)]
      simp (disch := omega) only [zu_row, zu_dnR, r1]
    · rw [mkA, if_neg (by omega), if_pos (by omega)]
      simp (disch := omega) only [zu_dn, zu_off, zu_sm]
      omega
    · rw [mkA, if_neg (by omega), if_pos (by omega)]
      simp (disch := omega) only [zu_dn, zu_off, zu_sm]
      omega
    · rw [mkA, if_neg (by omega), if_pos (by omega)]
      simp (disch := omega) only [zu_dn, zu_off, zu_sm]
      exact b3
  · intro a1
    refine h m hB zFr.refl ?_
    rw [mkA, if_pos (by omega)]
    exact ⟨r1, b1, b2, b3⟩
end ZCore2
end
-- 45.rem.lean.txt
section
/-! What the reference remembers. -/
noncomputable def remW (c j : Nat) : Bool := Nat.beq c 87 || (Nat.beq c 74 && Nat.beq j 35)
/-- one more is remembered (the first is lost, if there are 12) -/
noncomputable def Rem (m m1 : zM) (r : Nat → Int) : Prop := ∃ u s : Nat, m 74 35 = (u : Int) ∧ ((u = 12 ∧ s = 1) ∨ (u < 12 ∧ s = 0)) ∧ m1 74 35 = (u : Int) + 1 - s ∧ (∀ i j, j < 59 → i + s < u → m1 87 (59 * i + j) = m 87 (59 * (i + s) + j)) ∧ ∀ j, j < 59 → m1 87 (59 * (u - s) + j) = r j
section ZRem
variable {T : Nat → Nat → zG → (Option zA → zM → Prop) → Prop} {D : Nat} {κ : Option zA → zM → Prop} {m : zM}
theorem z_remR_75 (hT : zRules T) (hB : zB m) (h : ∀ m1, zB m1 → zFr remW m m1 → Rem m m1 (m 75) → κ none m1) : T (D + 2) 229 (0, [(0, zr 74), (1, zr 75)], [], m) κ := by
  have hU : 0 ≤ m 74 35 ∧ m 74 35 ≤ 12 := hB 74 35
  obtain ⟨u, hu⟩ : ∃ u : Nat, m 74 35 = (u : Int) := ⟨(m 74 35).toNat, by omega⟩
  -- behind the shift: M, of which v are left
  have fin : ∀ (M : zM) (v s : Nat) (lo : zL), zB M → zFr remW m M → M 74 35 = (v : Int) → ((u = 12 ∧ s = 1) ∨ (u < 12 ∧ s = 0)) → v = u - s → (∀ i j, j < 59 → i + s < u → M 87 (59 * i + j) = m 87 (59 * (i + s) + j)) → M 75 = m 75 → z_keep [0] lo = [(0, zr 74)] → T (D + 1) 228 (0, [(0, zr 75), (1, zr 87), (2, zi (59 * (M 74 35)))], [], M) (fun r m1 => T (D + 2) 229 (64, lo, r.toList ++ [], m1) κ) := by
    intro M v s lo hBM hF hv hs hvs hsh ha hlo
    have e : 59 * M 74 35 = ((59 * v : Nat) : Int) := by omega
    rw [e]
    refine z_lay_75_87 hT (by omega) ?_
    have hB1 : zB (z_cp M 75 87 0 (59 * v) 59) := by
      refine zB_cp hBM (fun j h1 h2 => ?_)
      have h9 : zbd 75 (j - 59 * v) (M 75 (j - 59 * v)) := hBM 75 (j - 59 * v)
      have := zbd8775 (u := v) (j := j - 59 * v) (by omega) h9
      rw [show 59 * v + (j - 59 * v) = j by omega] at this
      rw [Nat.zero_add]
      exact this
    refine zb229_64_75 hT hlo hB1 ?_
    have e2 : z_cp M 75 87 0 (59 * v) 59 74 35 = (v : Int) := by rw [z_cp_dn (by omega)]; exact hv
    rw [e2]
    refine h _ (zB_u hB1 (show 0 ≤ (v : Int) + 1 ∧ (v : Int) + 1 ≤ 12 by omega)) ?_ ⟨u, s, hu, hs, ?_, fun i j hj hi => ?_, fun j hj => ?_⟩
    · exact (zFr.cp hF (fun _ => rfl)).set rfl
    · rw [zu_sm rfl]
      omega
    · rw [zu_dn (by omega), z_cp_of (by omega)]
      exact hsh i j hj hi
    · rw [zu_dn (by omega), z_cp_in (by omega), ← ha]
      congr 1
      omega
  refine zb229_0_75 hT hB (fun hne => ?_) (fun he => ?_)
  · exact fin m u 0 _ hB zFr.refl hu (Or.inr ⟨by omega, rfl⟩) rfl (fun i j hj hi => rfl) rfl rfl
  · have key : ∀ (j k : Nat) (M : zM), k + j = 649 → zB M → (∀ i, i < k → M 87 i = m 87 (i + 59)) → (∀ i, k ≤ i → M 87 i = m 87 i) → (∀ c, c ≠ 87 → M c = m c) → T (D + 2) 229 (11, [(0, zr 74), (1, zr 75), (2, zi (k : Int))], [], M) κ := by
      intro j
      induction j with
      | zero =>
        intro k M hk hBM h1 h2 h3
        refine zb229_11_75 hT rfl hBM (by omega) (fun _ => ?_) (fun q => by omega)
        have e74 : M 74 35 = 12 := by rw [h3 74 (by omega)]; exact he
        have hx := fin (zu M 74 35 (M 74 35 - 1)) 11 1 [(0, zr 74), (1, zr 75), (2, zi (k : Int))] (zB_u hBM (show 0 ≤ M 74 35 - 1 ∧ M 74 35 - 1 ≤ 12 by omega)) ?_ ?_ (Or.inl ⟨by omega, rfl⟩) (by omega) ?_ ?_ rfl
        · rw [zu_sm rfl] at hx
          exact hx
        · refine zFr.set (fun c j hc => ?_) rfl
          have hc2 : c ≠ 87 := fun q => by subst q; cases hc
          rw [h3 c hc2]
        · rw [zu_sm rfl]
          omega
        · intro i j hj hi
          rw [zu_dn (by omega), h1 _ (by omega)]
          congr 1
          omega
        · rw [zu_dnR (by omega), h3 _ (by omega)]
      | succ j ih =>
        intro k M hk hBM h1 h2 h3
        refine zb229_11_75 hT rfl hBM (by omega) (fun q => by omega) (fun _ => ?_)
        refine ih (k + 1) _ (by omega) ?_ (fun i hi => ?_) (fun i hi => ?_) (fun c hc => ?_)
        · exact zB_u hBM (zbd87 (by omega) (hBM 87 (k + 59)))
        · by_cases e : i = k
          · subst e
            rw [zu_sm rfl]
            exact h2 _ (by omega)
          · rw [zu_off e]
            exact h1 i (by omega)
        · rw [zu_off (by omega)]
          exact h2 i (by omega)
        · rw [zu_dnR hc]
          exact h3 c hc
    exact key 649 0 m (by omega) hB (fun i hi => by omega) (fun i hi => rfl) (fun c hc => rfl)
theorem z_remR_88 (hT : zRules T) (hB : zB m) (h : ∀ m1, zB m1 → zFr remW m m1 → Rem m m1 (m 88) → κ none m1) : T (D + 2) 229 (0, [(0, zr 74), (1, zr 88)], [], m) κ := by
  have hU : 0 ≤ m 74 35 ∧ m 74 35 ≤ 12 := hB 74 35
  obtain ⟨u, hu⟩ : ∃ u : Nat, m 74 35 = (u : Int) := ⟨(m 74 35).toNat, by omega⟩
  -- behind the shift: M, of which v are left
  have fin : ∀ (M : zM) (v s : Nat) (lo : zL), zB M → zFr remW m M → M 74 35 = (v : Int) → ((u = 12 ∧ s = 1) ∨ (u < 12 ∧ s = 0)) → v = u - s → (∀ i j, j < 59 → i + s < u → M 87 (59 * i + j) = m 87 (59 * (i + s) + j)) → M 88 = m 88 → z_keep [0] lo = [(0, zr 74)] → T (D + 1) 228 (0, [(0, zr 88), (1, zr 87), (2, zi (59 * (M 74 35)))], [], M) (fun r m1 => T (D + 2) 229 (64, lo, r.toList ++ [], m1) κ) := by
    intro M v s lo hBM hF hv hs hvs hsh ha hlo
    have e : 59 * M 74 35 = ((59 * v : Nat) : Int) := by omega
    rw [e]
    refine z_lay_88_87 hT (by omega) ?_
    have hB1 : zB (z_cp M 88 87 0 (59 * v) 59) := by
      refine zB_cp hBM (fun j h1 h2 => ?_)
      have h9 : zbd 75 (j - 59 * v) (M 88 (j - 59 * v)) := hBM 88 (j - 59 * v)
      have := zbd8775 (u := v) (j := j - 59 * v) (by omega) h9
      rw [show 59 * v + (j - 59 * v) = j by omega] at this
      rw [Nat.zero_add]
      exact this
    refine zb229_64_88 hT hlo hB1 ?_
    have e2 : z_cp M 88 87 0 (59 * v) 59 74 35 = (v : Int) := by rw [z_cp_dn (by omega)]; exact hv
    rw [e2]
    refine h _ (zB_u hB1 (show 0 ≤ (v : Int) + 1 ∧ (v : Int) + 1 ≤ 12 by omega)) ?_ ⟨u, s, hu, hs, ?_, fun i j hj hi => ?_, fun j hj => ?_⟩
    · exact (zFr.cp hF (fun _ => rfl)).set rfl
    · rw [zu_sm rfl]
      omega
    · rw [zu_dn (by omega), z_cp_of (by omega)]
      exact hsh i j hj hi
    · rw [zu_dn (by omega), z_cp_in (by omega), ← ha]
      congr 1
      omega
  refine zb229_0_88 hT hB (fun hne => ?_) (fun he => ?_)
  · exact fin m u 0 _ hB zFr.refl hu (Or.inr ⟨by omega, rfl⟩) rfl (fun i j hj hi => rfl) rfl rfl
  · have key : ∀ (j k : Nat) (M : zM), k + j = 649 → zB M → (∀ i, i < k → M 87 i = m 87 (i + 59)) → (∀ i, k ≤ i → M 87 i = m 87 i) → (∀ c, c ≠ 87 → M c = m c) → T (D + 2) 229 (11, [(0, zr 74), (1, zr 88), (2, zi (k : Int))], [], M) κ := by
      intro j
      induction j with
      | zero =>
        intro k M hk hBM h1 h2 h3
        refine zb229_11_88 hT rfl hBM (by omega) (fun _ => ?_) (fun q => by omega)
        have e74 : M 74 35 = 12 := by rw [h3 74 (by omega)]; exact he
        have hx := fin (zu M 74 35 (M 74 35 - 1)) 11 1 [(0, zr 74), (1, zr 88), (2, zi (k : Int))] (zB_u hBM (show 0 ≤ M 74 35 - 1 ∧ M 74 35 - 1 ≤ 12 by omega)) ?_ ?_ (Or.inl ⟨by omega, rfl⟩) (by omega) ?_ ?_ rfl
        · rw [zu_sm rfl] at hx
          exact hx
        · refine zFr.set (fun c j hc => ?_) rfl
          have hc2 : c ≠ 87 := fun q => by subst q; cases hc
          rw [h3 c hc2]
        · rw [zu_sm rfl]
          omega
        · intro i j hj hi
          rw [zu_dn (by omega), h1 _ (by omega)]
          congr 1
          omega
        · rw [zu_dnR (by omega), h3 _ (by omega)]
      | succ j ih =>
        intro k M hk hBM h1 h2 h3
        refine zb229_11_88 hT rfl hBM (by omega) (fun q => by omega) (fun _ => ?_)
        refine ih (k + 1) _ (by omega) ?_ (fun i hi => ?_) (fun i hi => ?_) (fun c hc => ?_)
        · exact zB_u hBM (zbd87 (by omega) (hBM 87 (k + 59)))
        · by_cases e : i = k
          · subst e
            rw [zu_sm rfl]
            exact h2 _ (by omega)
          · rw [zu_off e]
            exact h1 i (by omega)
        · rw [zu_off (by omega)]
          exact h2 i (by omega)
        · rw [zu_dnR hc]
          exact h3 c hc
    exact key 649 0 m (by omega) hB (fun i hi => by omega) (fun i hi => rfl) (fun c hc => rfl)
end ZRem
end
-- 46.b3.lean.txt
section
section ZBlocks
variable {T : Nat → Nat → zG → (Option zA → zM → Prop) → Prop}
theorem zb58_0r (hT : zRules T) {D : Nat} {κ : Option zA → zM → Prop} {m : zM} {h : Int} {l : Int} {w : Int} {p : Int} {i : Int} 
    (o1 : ¬ wr (m 9 4) < 1 → T (D + 2) 58 (18, [(0, zr 9), (1, zi h), (2, zi l), (3, zi w), (4, zi p), (5, zi i), (6, zi 0)], [], m) κ)
    (o2 : wr (m 9 4) < 1 → κ (some (zi (wr (Int.tdiv (wr (h * l)) 10)))) m) :
    T (D + 2) 58 (0, [(0, zr 9), (1, zi h), (2, zi l), (3, zi w), (4, zi p), (5, zi i)], [], m) κ :=
  hT.1 [(18, [0, 1, 2, 3, 4, 5, 6])] 6 (D + 2) 58 _ κ (And.intro (fun a1 => (o1 a1)) (fun a2 => (hT.1 [(18, [0, 1, 2, 3, 4, 5, 6])] 6 (D + 2) 58 (10, [(0, zr 9), (1, zi h), (2, zi l), (3, zi w), (4, zi p), (5, zi i)], [zi l, zi h], m) _ (And.intro (z_neL rfl) (o2 (Classical.byContradiction a2))))))
theorem zb58_0 (hT : zRules T) {D : Nat} {κ : Option zA → zM → Prop} {m : zM} {h : Int} {l : Int} {w : Int} {p : Int} {i : Int}  (hB : zB m) (h_h : 0 ≤ h ∧ h ≤ 99) (h_l : 0 ≤ l ∧ l ≤ 9) (h_w : 0 ≤ w ∧ w ≤ 500000) (h_p : 0 ≤ p ∧ p ≤ 3) (h_i : 0 ≤ i ∧ i ≤ 5) 
    (k1 : ¬ (m 9 4) < 1 → T (D + 2) 58 (18, [(0, zr 9), (1, zi h), (2, zi l), (3, zi w), (4, zi p), (5, zi i), (6, zi 0)], [], m) κ)
    (k2 : (m 9 4) < 1 → κ (some (zi (Int.tdiv (h * l) 10))) m) :
    T (D + 2) 58 (0, [(0, zr 9), (1, zi h), (2, zi l), (3, zi w), (4, zi p), (5, zi i)], [], m) κ := by
  have hb5 : 0 ≤ (m 9 4) ∧ (m 9 4) ≤ 40 := hB 9 4
  have hb6 : 0 ≤ (h * l) ∧ (h * l) ≤ 891 := z_mulB h l 99 9 891 (by omega) (by omega) (by omega) (by omega) rfl
  have hb7 : 0 ≤ (Int.tdiv (h * l) 10) ∧ (Int.tdiv (h * l) 10) ≤ 891 := z_tdivB (h * l) 10 891 (by omega) (by omega) (by omega)
  have he0 : wr (m 9 4) = (m 9 4) := wr_id (by omega) (by omega)
  have he1 : wr (h * l) = (h * l) := wr_id (by omega) (by omega)
  have he2 : wr (Int.tdiv (h * l) 10) = (Int.tdiv (h * l) 10) := wr_id (by omega) (by omega)
  have key := @zb58_0r T hT D κ m h l w p i
  simp only [he0, he1, he2, Int.toNat_natCast] at key
  exact key
    k1
    k2
theorem zb58_18r (hT : zRules T) {D : Nat} {κ : Option zA → zM → Prop} {m : zM} {h : Int} {l : Int} {w : Int} {p : Int} {i : Int} {k : Nat} {lo : zL} (hlo : z_keep [0, 1, 2, 3, 4, 5, 6] lo = [(0, zr 9), (1, zi h), (2, zi l), (3, zi w), (4, zi p), (5, zi i), (6, zi (k : Int))]) 
    (o1 : ¬ wr (k : Int) < wr (m 9 4) → (0 ≤ wr ((m 9 4) - 1) ∧ wr ((m 9 4) - 1) < 40))
    (o2 : ¬ wr (k : Int) < wr (m 9 4) → κ (some (zi (wr (m 13 ((wr ((m 9 4) - 1)).toNat))))) m)
    (o3 : wr (k : Int) < wr (m 9 4) → (0 ≤ wr (k : Int) ∧ wr (k : Int) < 40))
    (o4 : wr (k : Int) < wr (m 9 4) → wr (m 10 ((wr (k : Int)).toNat)) = 48 → (0 ≤ wr (k : Int) ∧ wr (k : Int) < 40))
    (o5 : wr (k : Int) < wr (m 9 4) → wr (m 10 ((wr (k : Int)).toNat)) = 48 → (0 ≤ wr (k : Int) ∧ wr (k : Int) < 40))
    (o6 : wr (k : Int) < wr (m 9 4) → wr (m 10 ((wr (k : Int)).toNat)) = 48 → T (D + 2) 58 (18, [(0, zr 9), (1, zi h), (2, zi l), (3, zi w), (4, zi p), (5, zi i), (6, zi ((k : Int) + 1))], [], (zu m 13 ((wr (k : Int)).toNat) (m 11 ((wr (k : Int)).toNat)))) κ)
    (o7 : wr (k : Int) < wr (m 9 4) → ¬ wr (m 10 ((wr (k : Int)).toNat)) = 48 → wr (m 10 ((wr (k : Int)).toNat)) = 104 → (0 ≤ wr (k : Int) ∧ wr (k : Int) < 40))
    (o8 : wr (k : Int) < wr (m 9 4) → ¬ wr (m 10 ((wr (k : Int)).toNat)) = 48 → wr (m 10 ((wr (k : Int)).toNat)) = 104 → T (D + 2) 58 (18, [(0, zr 9), (1, zi h), (2, zi l), (3, zi w), (4, zi p), (5, zi i), (6, zi ((k : Int) + 1))], [], (zu m 13 ((wr (k : Int)).toNat) h)) κ)
    (o9 : wr (k : Int) < wr (m 9 4) → ¬ wr (m 10 ((wr (k : Int)).toNat)) = 48 → ¬ wr (m 10 ((wr (k : Int)).toNat)) = 104 → wr (m 10 ((wr (k : Int)).toNat)) = 105 → (0 ≤ wr (k : Int) ∧ wr (k : Int) < 40))
    (o10 : wr (k : Int) < wr (m 9 4) → ¬ wr (m 10 ((wr (k : Int)).toNat)) = 48 → ¬ wr (m 10 ((wr (k : Int)).toNat)) = 104 → wr (m 10 ((wr (k : Int)).toNat)) = 105 → T (D + 2) 58 (18, [(0, zr 9), (1, zi h), (2, zi l), (3, zi w), (4, zi p), (5, zi i), (6, zi ((k : Int) + 1))], [], (zu m 13 ((wr (k : Int)).toNat) i)) κ)
    (o11 : wr (k : Int) < wr (m 9 4) → ¬ wr (m 10 ((wr (k : Int)).toNat)) = 48 → ¬ wr (m 10 ((wr (k : Int)).toNat)) = 104 → ¬ wr (m 10 ((wr (k : Int)).toNat)) = 105 → wr (m 10 ((wr (k : Int)).toNat)) = 108 → (0 ≤ wr (k : Int) ∧ wr (k : Int) < 40))
    (o12 : wr (k : Int) < wr (m 9 4) → ¬ wr (m 10 ((wr (k : Int)).toNat)) = 48 → ¬ wr (m 10 ((wr (k : Int)).toNat)) = 104 → ¬ wr (m 10 ((wr (k : Int)).toNat)) = 105 → wr (m 10 ((wr (k : Int)).toNat)) = 108 → T (D + 2) 58 (18, [(0, zr 9), (1, zi h), (2, zi l), (3, zi w), (4, zi p), (5, zi i), (6, zi ((k : Int) + 1))], [], (zu m 13 ((wr (k : Int)).toNat) l)) κ)
    (o13 : wr (k : Int) < wr (m 9 4) → ¬ wr (m 10 ((wr (k : Int)).toNat)) = 48 → ¬ wr (m 10 ((wr (k : Int)).toNat)) = 104 → ¬ wr (m 10 ((wr (k : Int)).toNat)) = 105 → ¬ wr (m 10 ((wr (k : Int)).toNat)) = 108 → wr (m 10 ((wr (k : Int)).toNat)) = 112 → (0 ≤ wr (k : Int) ∧ wr (k : Int) < 40))
    (o14 : wr (k : Int) < wr (m 9 4) → ¬ wr (m 10 ((wr (k : Int)).toNat)) = 48 → ¬ wr (m 10 ((wr (k : Int)).toNat)) = 104 → ¬ wr (m 10 ((wr (k : Int)).toNat)) = 105 → ¬ wr (m 10 ((wr (k : Int)).toNat)) = 108 → wr (m 10 ((wr (k : Int)).toNat)) = 112 → T (D + 2) 58 (18, [(0, zr 9), (1, zi h), (2, zi l), (3, zi w), (4, zi p), (5, zi i), (6, zi ((k : Int) + 1))], [], (zu m 13 ((wr (k : Int)).toNat) p)) κ)
    (o15 : wr (k : Int) < wr (m 9 4) → ¬ wr (m 10 ((wr (k : Int)).toNat)) = 48 → ¬ wr (m 10 ((wr (k : Int)).toNat)) = 104 → ¬ wr (m 10 ((wr (k : Int)).toNat)) = 105 → ¬ wr (m 10 ((wr (k : Int)).toNat)) = 108 → ¬ wr (m 10 ((wr (k : Int)).toNat)) = 112 → wr (m 10 ((wr (k : Int)).toNat)) = 119 → (0 ≤ wr (k : Int) ∧ wr (k : Int) < 40))
    (o16 : wr (k : Int) < wr (m 9 4) → ¬ wr (m 10 ((wr (k : Int)).toNat)) = 48 → ¬ wr (m 10 ((wr (k : Int)).toNat)) = 104 → ¬ wr (m 10 ((wr (k : Int)).toNat)) = 105 → ¬ wr (m 10 ((wr (k : Int)).toNat)) = 108 → ¬ wr (m 10 ((wr (k : Int)).toNat)) = 112 → wr (m 10 ((wr (k : Int)).toNat)) = 119 → T (D + 2) 58 (18, [(0, zr 9), (1, zi h), (2, zi l), (3, zi w), (4, zi p), (5, zi i), (6, zi ((k : Int) + 1))], [], (zu m 13 ((wr (k : Int)).toNat) w)) κ)
    (o17 : wr (k : Int) < wr (m 9 4) → ¬ wr (m 10 ((wr (k : Int)).toNat)) = 48 → ¬ wr (m 10 ((wr (k : Int)).toNat)) = 104 → ¬ wr (m 10 ((wr (k : Int)).toNat)) = 105 → ¬ wr (m 10 ((wr (k : Int)).toNat)) = 108 → ¬ wr (m 10 ((wr (k : Int)).toNat)) = 112 → ¬ wr (m 10 ((wr (k : Int)).toNat)) = 119 → (0 ≤ wr (k : Int) ∧ wr (k : Int) < 40))
    (o18 : wr (k : Int) < wr (m 9 4) → ¬ wr (m 10 ((wr (k : Int)).toNat)) = 48 → ¬ wr (m 10 ((wr (k : Int)).toNat)) = 104 → ¬ wr (m 10 ((wr (k : Int)).toNat)) = 105 → ¬ wr (m 10 ((wr (k : Int)).toNat)) = 108 → ¬ wr (m 10 ((wr (k : Int)).toNat)) = 112 → ¬ wr (m 10 ((wr (k : Int)).toNat)) = 119 → (0 ≤ wr (k : Int) ∧ wr (k : Int) < 40))
    (o19 : wr (k : Int) < wr (m 9 4) → ¬ wr (m 10 ((wr (k : Int)).toNat)) = 48 → ¬ wr (m 10 ((wr (k : Int)).toNat)) = 104 → ¬ wr (m 10 ((wr (k : Int)).toNat)) = 105 → ¬ wr (m 10 ((wr (k : Int)).toNat)) = 108 → ¬ wr (m 10 ((wr (k : Int)).toNat)) = 112 → ¬ wr (m 10 ((wr (k : Int)).toNat)) = 119 → (0 ≤ wr (m 11 ((wr (k : Int)).toNat)) ∧ wr (m 11 ((wr (k : Int)).toNat)) < 40))
    (o20 : wr (k : Int) < wr (m 9 4) → ¬ wr (m 10 ((wr (k : Int)).toNat)) = 48 → ¬ wr (m 10 ((wr (k : Int)).toNat)) = 104 → ¬ wr (m 10 ((wr (k : Int)).toNat)) = 105 → ¬ wr (m 10 ((wr (k : Int)).toNat)) = 108 → ¬ wr (m 10 ((wr (k : Int)).toNat)) = 112 → ¬ wr (m 10 ((wr (k : Int)).toNat)) = 119 → (0 ≤ wr (k : Int) ∧ wr (k : Int) < 40))
    (o21 : wr (k : Int) < wr (m 9 4) → ¬ wr (m 10 ((wr (k : Int)).toNat)) = 48 → ¬ wr (m 10 ((wr (k : Int)).toNat)) = 104 → ¬ wr (m 10 ((wr (k : Int)).toNat)) = 105 → ¬ wr (m 10 ((wr (k : Int)).toNat)) = 108 → ¬ wr (m 10 ((wr (k : Int)).toNat)) = 112 → ¬ wr (m 10 ((wr (k : Int)).toNat)) = 119 → (0 ≤ wr (m 12 ((wr (k : Int)).toNat)) ∧ wr (m 12 ((wr (k : Int)).toNat)) < 40))
    (o22 : wr (k : Int) < wr (m 9 4) → ¬ wr (m 10 ((wr (k : Int)).toNat)) = 48 → ¬ wr (m 10 ((wr (k : Int)).toNat)) = 104 → ¬ wr (m 10 ((wr (k : Int)).toNat)) = 105 → ¬ wr (m 10 ((wr (k : Int)).toNat)) = 108 → ¬ wr (m 10 ((wr (k : Int)).toNat)) = 112 → ¬ wr (m 10 ((wr (k : Int)).toNat)) = 119 → T (D + 1) 59 (0, [(0, zi (m 10 ((wr (k : Int)).toNat))), (1, zi (m 13 ((wr (m 11 ((wr (k : Int)).toNat))).toNat))), (2, zi (m 13 ((wr (m 12 ((wr (k : Int)).toNat))).toNat)))], [], m) (fun r m1 => T (D + 2) 58 (206, [(0, zr 9), (1, zi h), (2, zi l), (3, zi w), (4, zi p), (5, zi i), (6, zi (k : Int))], r.toList ++ [zi (k : Int), zr 13], m1) κ)) :
    T (D + 2) 58 (18, lo, [], m) κ :=
  zkeep hT hlo (hT.1 [(18, [0, 1, 2, 3, 4, 5, 6])] 6 (D + 2) 58 _ κ (And.intro (fun a1 => (hT.1 [(18, [0, 1, 2, 3, 4, 5, 6])] 6 (D + 2) 58 (217, [(0, zr 9), (1, zi h), (2, zi l), (3, zi w), (4, zi p), (5, zi i), (6, zi (k : Int))], [zr 13], m) _ (And.intro (o1 a1) (o2 a1)))) (fun a2 => (hT.1 [(18, [0, 1, 2, 3, 4, 5, 6])] 6 (D + 2) 58 (31, [(0, zr 9), (1, zi h), (2, zi l), (3, zi w), (4, zi p), (5, zi i), (6, zi (k : Int))], [zr 10], m) _ (And.intro (o3 (Classical.byContradiction a2)) (And.intro (fun a3 => (hT.1 [(18, [0, 1, 2, 3, 4, 5, 6])] 6 (D + 2) 58 (98, [(0, zr 9), (1, zi h), (2, zi l), (3, zi w), (4, zi p), (5, zi i), (6, zi (k : Int))], [zi (k : Int), zr 13], m) _ (And.intro (o4 (Classical.byContradiction a2) a3) (And.intro (And.intro (o5 (Classical.byContradiction a2) a3) trivial) (hT.1 [(18, [0, 1, 2, 3, 4, 5, 6])] 6 (D + 2) 58 (207, [(0, zr 9), (1, zi h), (2, zi l), (3, zi w), (4, zi p), (5, zi i), (6, zi (k : Int))], [], (zu m 13 ((wr (k : Int)).toNat) (m 11 ((wr (k : Int)).toNat)))) _ (o6 (Classical.byContradiction a2) a3)))))) (fun a4 => (And.intro (fun a5 => (hT.1 [(18, [0, 1, 2, 3, 4, 5, 6])] 6 (D + 2) 58 (115, [(0, zr 9), (1, zi h), (2, zi l), (3, zi w), (4, zi p), (5, zi i), (6, zi (k : Int))], [zi (k : Int), zr 13], m) _ (And.intro (And.intro (o7 (Classical.byContradiction a2) a4 a5) trivial) (o8 (Classical.byContradiction a2) a4 a5)))) (fun a6 => (And.intro (fun a7 => (hT.1 [(18, [0, 1, 2, 3, 4, 5, 6])] 6 (D + 2) 58 (160, [(0, zr 9), (1, zi h), (2, zi l), (3, zi w), (4, zi p), (5, zi i), (6, zi (k : Int))], [zi (k : Int), zr 13], m) _ (And.intro (And.intro (o9 (Classical.byContradiction a2) a4 a6 a7) trivial) (o10 (Classical.byContradiction a2) a4 a6 a7)))) (fun a8 => (And.intro (fun a9 => (hT.1 [(18, [0, 1, 2, 3, 4, 5, 6])] 6 (D + 2) 58 (126, [(0, zr 9), (1, zi h), (2, zi l), (3, zi w), (4, zi p), (5, zi i), (6, zi (k : Int))], [zi (k : Int), zr 13], m) _ (And.intro (And.intro (o11 (Classical.byContradiction a2) a4 a6 a8 a9) trivial) (o12 (Classical.byContradiction a2) a4 a6 a8 a9)))) (fun a10 => (And.intro (fun a11 => (hT.1 [(18, [0, 1, 2, 3, 4, 5, 6])] 6 (D + 2) 58 (148, [(0, zr 9), (1, zi h), (2, zi l), (3, zi w), (4, zi p), (5, zi i), (6, zi (k : Int))], [zi (k : Int), zr 13], m) _ (And.intro (And.intro (o13 (Classical.byContradiction a2) a4 a6 a8 a10 a11) trivial) (o14 (Classical.byContradiction a2) a4 a6 a8 a10 a11)))) (fun a12 => (And.intro (fun a13 => (hT.1 [(18, [0, 1, 2, 3, 4, 5, 6])] 6 (D + 2) 58 (137, [(0, zr 9), (1, zi h), (2, zi l), (3, zi w), (4, zi p), (5, zi i), (6, zi (k : Int))], [zi (k : Int), zr 13], m) _ (And.intro (And.intro (o15 (Classical.byContradiction a2) a4 a6 a8 a10 a12 a13) trivial) (o16 (Classical.byContradiction a2) a4 a6 a8 a10 a12 a13)))) (fun a14 => (hT.1 [(18, [0, 1, 2, 3, 4, 5, 6])] 6 (D + 2) 58 (172, [(0, zr 9), (1, zi h), (2, zi l), (3, zi w), (4, zi p), (5, zi i), (6, zi (k : Int))], [zi (k : Int), zr 13], m) _ (And.intro (o17 (Classical.byContradiction a2) a4 a6 a8 a10 a12 a14) (hT.1 [(18, [0, 1, 2, 3, 4, 5, 6])] 6 (D + 2) 58 (183, [(0, zr 9), (1, zi h), (2, zi l), (3, zi w), (4, zi p), (5, zi i), (6, zi (k : Int))], [zr 13, zi (m 10 ((wr (k : Int)).toNat)), zi (k : Int), zr 13], m) _ (And.intro (o18 (Classical.byContradiction a2) a4 a6 a8 a10 a12 a14) (And.intro (o19 (Classical.byContradiction a2) a4 a6 a8 a10 a12 a14) (hT.1 [(18, [0, 1, 2, 3, 4, 5, 6])] 6 (D + 2) 58 (192, [(0, zr 9), (1, zi h), (2, zi l), (3, zi w), (4, zi p), (5, zi i), (6, zi (k : Int))], [zr 9, zi (m 13 ((wr (m 11 ((wr (k : Int)).toNat))).toNat)), zi (m 10 ((wr (k : Int)).toNat)), zi (k : Int), zr 13], m) _ (And.intro (o20 (Classical.byContradiction a2) a4 a6 a8 a10 a12 a14) (And.intro (o21 (Classical.byContradiction a2) a4 a6 a8 a10 a12 a14) (hT.1 [(18, [0, 1, 2, 3, 4, 5, 6])] 6 (D + 2) 58 (203, [(0, zr 9), (1, zi h), (2, zi l), (3, zi w), (4, zi p), (5, zi i), (6, zi (k : Int))], [zi (m 13 ((wr (m 12 ((wr (k : Int)).toNat))).toNat)), zi (m 13 ((wr (m 11 ((wr (k : Int)).toNat))).toNat)), zi (m 10 ((wr (k : Int)).toNat)), zi (k : Int), zr 13], m) _ (o22 (Classical.byContradiction a2) a4 a6 a8 a10 a12 a14)))))))))))))))))))))))))))
theorem zb58_18 (hT : zRules T) {D : Nat} {κ : Option zA → zM → Prop} {m : zM} {h : Int} {l : Int} {w : Int} {p : Int} {i : Int} {k : Nat} {lo : zL} (hlo : z_keep [0, 1, 2, 3, 4, 5, 6] lo = [(0, zr 9), (1, zi h), (2, zi l), (3, zi w), (4, zi p), (5, zi i), (6, zi (k : Int))])  (hB : zB m) (h_h : 0 ≤ h ∧ h ≤ 99) (h_l : 0 ≤ l ∧ l ≤ 9) (h_w : 0 ≤ w ∧ w ≤ 500000) (h_p : 0 ≤ p ∧ p ≤ 3) (h_i : 0 ≤ i ∧ i ≤ 5) (h_k : k ≤ 40) 
    (k1 : ¬ (k : Int) < (m 9 4) → (0 ≤ ((m 9 4) - 1) ∧ ((m 9 4) - 1) < 40))
    (k2 : ¬ (k : Int) < (m 9 4) → κ (some (zi (wr (m 13 (((m 9 4) - 1).toNat))))) m)
    (k3 : (k : Int) < (m 9 4) → (m 10 k) = 48 → zB (zu m 13 k (m 11 k)) → T (D + 2) 58 (18, [(0, zr 9), (1, zi h), (2, zi l), (3, zi w), (4, zi p), (5, zi i), (6, zi ((k : Int) + 1))], [], (zu m 13 k (m 11 k))) κ)
    (k4 : (k : Int) < (m 9 4) → ¬ (m 10 k) = 48 → (m 10 k) = 104 → zB (zu m 13 k h) → T (D + 2) 58 (18, [(0, zr 9), (1, zi h), (2, zi l), (3, zi w), (4, zi p), (5, zi i), (6, zi ((k : Int) + 1))], [], (zu m 13 k h)) κ)
    (k5 : (k : Int) < (m 9 4) → ¬ (m 10 k) = 48 → ¬ (m 10 k) = 104 → (m 10 k) = 105 → zB (zu m 13 k i) → T (D + 2) 58 (18, [(0, zr 9), (1, zi h), (2, zi l), (3, zi w), (4, zi p), (5, zi i), (6, zi ((k : Int) + 1))], [], (zu m 13 k i)) κ)
    (k6 : (k : Int) < (m 9 4) → ¬ (m 10 k) = 48 → ¬ (m 10 k) = 104 → ¬ (m 10 k) = 105 → (m 10 k) = 108 → zB (zu m 13 k l) → T (D + 2) 58 (18, [(0, zr 9), (1, zi h), (2, zi l), (3, zi w), (4, zi p), (5, zi i), (6, zi ((k : Int) + 1))], [], (zu m 13 k l)) κ)
    (k7 : (k : Int) < (m 9 4) → ¬ (m 10 k) = 48 → ¬ (m 10 k) = 104 → ¬ (m 10 k) = 105 → ¬ (m 10 k) = 108 → (m 10 k) = 112 → zB (zu m 13 k p) → T (D + 2) 58 (18, [(0, zr 9), (1, zi h), (2, zi l), (3, zi w), (4, zi p), (5, zi i), (6, zi ((k : Int) + 1))], [], (zu m 13 k p)) κ)
    (k8 : (k : Int) < (m 9 4) → ¬ (m 10 k) = 48 → ¬ (m 10 k) = 104 → ¬ (m 10 k) = 105 → ¬ (m 10 k) = 108 → ¬ (m 10 k) = 112 → (m 10 k) = 119 → zB (zu m 13 k w) → T (D + 2) 58 (18, [(0, zr 9), (1, zi h), (2, zi l), (3, zi w), (4, zi p), (5, zi i), (6, zi ((k : Int) + 1))], [], (zu m 13 k w)) κ)
    (k9 : (k : Int) < (m 9 4) → ¬ (m 10 k) = 48 → ¬ (m 10 k) = 104 → ¬ (m 10 k) = 105 → ¬ (m 10 k) = 108 → ¬ (m 10 k) = 112 → ¬ (m 10 k) = 119 → (0 ≤ (m 11 k) ∧ (m 11 k) < 40))
    (k10 : (k : Int) < (m 9 4) → ¬ (m 10 k) = 48 → ¬ (m 10 k) = 104 → ¬ (m 10 k) = 105 → ¬ (m 10 k) = 108 → ¬ (m 10 k) = 112 → ¬ (m 10 k) = 119 → T (D + 1) 59 (0, [(0, zi (m 10 k)), (1, zi (m 13 ((m 11 k).toNat))), (2, zi (m 13 ((m 12 k).toNat)))], [], m) (fun r m1 => T (D + 2) 58 (206, [(0, zr 9), (1, zi h), (2, zi l), (3, zi w), (4, zi p), (5, zi i), (6, zi (k : Int))], r.toList ++ [zi (k : Int), zr 13], m1) κ)) :
    T (D + 2) 58 (18, lo, [], m) κ := by
  have hb6 : 0 ≤ (m 9 4) ∧ (m 9 4) ≤ 40 := hB 9 4
  have hb7 : (-1) ≤ (m 10 k) ∧ (m 10 k) ≤ 65535 := hB 10 k
  have hb8 : 0 ≤ (m 11 k) ∧ (m 11 k) ≤ 999 := hB 11 k
  have hb9 : 0 ≤ (m 12 k) ∧ (m 12 k) ≤ 39 := hB 12 k
  have hb10 : (-2147483648) ≤ wr (m 13 (((m 9 4) - 1).toNat)) ∧ wr (m 13 (((m 9 4) - 1).toNat)) ≤ 2147483647 := wrB (m 13 (((m 9 4) - 1).toNat))
  have he0 : wr (k : Int) = (k : Int) := wr_id (by omega) (by omega)
  have he1 : wr (m 9 4) = (m 9 4) := wr_id (by omega) (by omega)
  have he2 : (k : Int).toNat = k := by omega
  have he3 : wr (m 10 k) = (m 10 k) := wr_id (by omega) (by omega)
  have he4 : wr (m 11 k) = (m 11 k) := wr_id (by omega) (by omega)
  have he5 : wr (m 12 k) = (m 12 k) := wr_id (by omega) (by omega)
  have he6 : wr ((m 9 4) - 1) = ((m 9 4) - 1) := wr_id (by omega) (by omega)
  have key := @zb58_18r T hT D κ m h l w p i k lo hlo
  simp only [he0, he1, he2, he3, he4, he5, he6, Int.toNat_natCast] at key
  exact key
    k1
    k2
    (fun x0 => by refine ⟨?_, ?_⟩ <;> omega)
    (fun x0 x1 => by refine ⟨?_, ?_⟩ <;> omega)
    (fun x0 x1 => by refine ⟨?_, ?_⟩ <;> omega)
    (fun x0 x1 => k3 x0 x1 (zB_u hB trivial))
    (fun x0 x1 x2 => by refine ⟨?_, ?_⟩ <;> omega)
    (fun x0 x1 x2 => k4 x0 x1 x2 (zB_u hB trivial))
    (fun x0 x1 x2 x3 => by refine ⟨?_, ?_⟩ <;> omega)
    (fun x0 x1 x2 x3 => k5 x0 x1 x2 x3 (zB_u hB trivial))
    (fun x0 x1 x2 x3 x4 => by refine ⟨?_, ?_⟩ <;> omega)
    (fun x0 x1 x2 x3 x4 => k6 x0 x1 x2 x3 x4 (zB_u hB trivial))
    (fun x0 x1 x2 x3 x4 x5 => by refine ⟨?_, ?_⟩ <;> omega)
    (fun x0 x1 x2 x3 x4 x5 => k7 x0 x1 x2 x3 x4 x5 (zB_u hB trivial))
    (fun x0 x1 x2 x3 x4 x5 x6 => by refine ⟨?_, ?_⟩ <;> omega)
    (fun x0 x1 x2 x3 x4 x5 x6 => k8 x0 x1 x2 x3 x4 x5 x6 (zB_u hB trivial))
    (fun x0 x1 x2 x3 x4 x5 x6 => by refine ⟨?_, ?_⟩ <;> omega)
    (fun x0 x1 x2 x3 x4 x5 x6 => by refine ⟨?_, ?_⟩ <;> omega)
    k9
    (fun x0 x1 x2 x3 x4 x5 x6 => by refine ⟨?_, ?_⟩ <;> omega)
    (fun x0 x1 x2 x3 x4 x5 x6 => by refine ⟨?_, ?_⟩ <;> omega)
    k10
theorem zb58_206r (hT : zRules T) {D : Nat} {κ : Option zA → zM → Prop} {m : zM} {h : Int} {l : Int} {w : Int} {p : Int} {i : Int} {k : Nat} {v : Int} {lo : zL} (hlo : z_keep [0, 1, 2, 3, 4, 5, 6] lo = [(0, zr 9), (1, zi h), (2, zi l), (3, zi w), (4, zi p), (5, zi i), (6, zi (k : Int))]) 
    (o1 : (0 ≤ wr (k : Int) ∧ wr (k : Int) < 40))
    (o2 : T (D + 2) 58 (18, [(0, zr 9), (1, zi h), (2, zi l), (3, zi w), (4, zi p), (5, zi i), (6, zi ((k : Int) + 1))], [], (zu m 13 ((wr (k : Int)).toNat) v)) κ) :
    T (D + 2) 58 (206, lo, [zi v, zi (k : Int), zr 13], m) κ :=
  zkeep hT hlo (hT.1 [(18, [0, 1, 2, 3, 4, 5, 6])] 6 (D + 2) 58 _ κ (And.intro (And.intro (o1) trivial) (o2)))
theorem zb58_206 (hT : zRules T) {D : Nat} {κ : Option zA → zM → Prop} {m : zM} {h : Int} {l : Int} {w : Int} {p : Int} {i : Int} {k : Nat} {v : Int} {lo : zL} (hlo : z_keep [0, 1, 2, 3, 4, 5, 6] lo = [(0, zr 9), (1, zi h), (2, zi l), (3, zi w), (4, zi p), (5, zi i), (6, zi (k : Int))])  (hB : zB m) (h_h : 0 ≤ h ∧ h ≤ 99) (h_l : 0 ≤ l ∧ l ≤ 9) (h_w : 0 ≤ w ∧ w ≤ 500000) (h_p : 0 ≤ p ∧ p ≤ 3) (h_i : 0 ≤ i ∧ i ≤ 5) (h_k : k ≤ 39) 
    (k1 : zB (zu m 13 k v) → T (D + 2) 58 (18, [(0, zr 9), (1, zi h), (2, zi l), (3, zi w), (4, zi p), (5, zi i), (6, zi ((k : Int) + 1))], [], (zu m 13 k v)) κ) :
    T (D + 2) 58 (206, lo, [zi v, zi (k : Int), zr 13], m) κ := by
  have he0 : wr (k : Int) = (k : Int) := wr_id (by omega) (by omega)
  have he1 : (k : Int).toNat = k := by omega
  have key := @zb58_206r T hT D κ m h l w p i k v lo hlo
  simp only [he0, he1, Int.toNat_natCast] at key
  exact key
    (by refine ⟨?_, ?_⟩ <;> omega)
    (k1  (zB_u hB trivial))
theorem zb59_0r (hT : zRules T) {D : Nat} {κ : Option zA → zM → Prop} {m : zM} {kd : Int} {a : Int} {b : Int} 
    (o1 : wr kd = 42 → κ (some (zi (wr (a * b)))) m)
    (o2 : ¬ wr kd = 42 → wr kd = 43 → κ (some (zi (wr (a + b)))) m)
    (o3 : ¬ wr kd = 42 → ¬ wr kd = 43 → wr kd = 44 → κ (some (zi (wr (-a)))) m)
    (o4 : ¬ wr kd = 42 → ¬ wr kd = 43 → ¬ wr kd = 44 → wr kd = 45 → κ (some (zi (wr (a - b)))) m)
    (o5 : ¬ wr kd = 42 → ¬ wr kd = 43 → ¬ wr kd = 44 → ¬ wr kd = 45 → wr kd = 46 → κ (some (zi (wr (-a)))) m)
    (o6 : ¬ wr kd = 42 → ¬ wr kd = 43 → ¬ wr kd = 44 → ¬ wr kd = 45 → ¬ wr kd = 46 → wr kd = 47 → ¬ wr b = 0 → ¬ wr b = 0)
    (o7 : ¬ wr kd = 42 → ¬ wr kd = 43 → ¬ wr kd = 44 → ¬ wr kd = 45 → ¬ wr kd = 46 → wr kd = 47 → ¬ wr b = 0 → κ (some (zi (wr (Int.tdiv (wr a) (wr b))))) m)
    (o8 : ¬ wr kd = 42 → ¬ wr kd = 43 → ¬ wr kd = 44 → ¬ wr kd = 45 → ¬ wr kd = 46 → wr kd = 47 → wr b = 0 → κ (some (zi 0)) m)
    (o9 : ¬ wr kd = 42 → ¬ wr kd = 43 → ¬ wr kd = 44 → ¬ wr kd = 45 → ¬ wr kd = 46 → ¬ wr kd = 47 → wr kd = 48 → κ (some (zi (wr (-a)))) m)
    (o10 : ¬ wr kd = 42 → ¬ wr kd = 43 → ¬ wr kd = 44 → ¬ wr kd = 45 → ¬ wr kd = 46 → ¬ wr kd = 47 → ¬ wr kd = 48 → wr kd = 49 → κ (some (zi (wr (-a)))) m)
    (o11 : ¬ wr kd = 42 → ¬ wr kd = 43 → ¬ wr kd = 44 → ¬ wr kd = 45 → ¬ wr kd = 46 → ¬ wr kd = 47 → ¬ wr kd = 48 → ¬ wr kd = 49 → wr kd = 50 → κ (some (zi (wr (-a)))) m)
    (o12 : ¬ wr kd = 42 → ¬ wr kd = 43 → ¬ wr kd = 44 → ¬ wr kd = 45 → ¬ wr kd = 46 → ¬ wr kd = 47 → ¬ wr kd = 48 → ¬ wr kd = 49 → ¬ wr kd = 50 → wr kd = 51 → κ (some (zi (wr (-a)))) m)
    (o13 : ¬ wr kd = 42 → ¬ wr kd = 43 → ¬ wr kd = 44 → ¬ wr kd = 45 → ¬ wr kd = 46 → ¬ wr kd = 47 → ¬ wr kd = 48 → ¬ wr kd = 49 → ¬ wr kd = 50 → ¬ wr kd = 51 → wr kd = 52 → κ (some (zi (wr (-a)))) m)
    (o14 : ¬ wr kd = 42 → ¬ wr kd = 43 → ¬ wr kd = 44 → ¬ wr kd = 45 → ¬ wr kd = 46 → ¬ wr kd = 47 → ¬ wr kd = 48 → ¬ wr kd = 49 → ¬ wr kd = 50 → ¬ wr kd = 51 → ¬ wr kd = 52 → wr kd = 53 → κ (some (zi (wr (-a)))) m)
    (o15 : ¬ wr kd = 42 → ¬ wr kd = 43 → ¬ wr kd = 44 → ¬ wr kd = 45 → ¬ wr kd = 46 → ¬ wr kd = 47 → ¬ wr kd = 48 → ¬ wr kd = 49 → ¬ wr kd = 50 → ¬ wr kd = 51 → ¬ wr kd = 52 → ¬ wr kd = 53 → wr kd = 54 → κ (some (zi (wr (-a)))) m)
    (o16 : ¬ wr kd = 42 → ¬ wr kd = 43 → ¬ wr kd = 44 → ¬ wr kd = 45 → ¬ wr kd = 46 → ¬ wr kd = 47 → ¬ wr kd = 48 → ¬ wr kd = 49 → ¬ wr kd = 50 → ¬ wr kd = 51 → ¬ wr kd = 52 → ¬ wr kd = 53 → ¬ wr kd = 54 → wr kd = 55 → κ (some (zi (wr (-a)))) m)
    (o17 : ¬ wr kd = 42 → ¬ wr kd = 43 → ¬ wr kd = 44 → ¬ wr kd = 45 → ¬ wr kd = 46 → ¬ wr kd = 47 → ¬ wr kd = 48 → ¬ wr kd = 49 → ¬ wr kd = 50 → ¬ wr kd = 51 → ¬ wr kd = 52 → ¬ wr kd = 53 → ¬ wr kd = 54 → ¬ wr kd = 55 → wr kd = 56 → κ (some (zi (wr (-a)))) m)
    (o18 : ¬ wr kd = 42 → ¬ wr kd = 43 → ¬ wr kd = 44 → ¬ wr kd = 45 → ¬ wr kd = 46 → ¬ wr kd = 47 → ¬ wr kd = 48 → ¬ wr kd = 49 → ¬ wr kd = 50 → ¬ wr kd = 51 → ¬ wr kd = 52 → ¬ wr kd = 53 → ¬ wr kd = 54 → ¬ wr kd = 55 → ¬ wr kd = 56 → wr kd = 57 → κ (some (zi (wr (-a)))) m)
    (o19 : ¬ wr kd = 42 → ¬ wr kd = 43 → ¬ wr kd = 44 → ¬ wr kd = 45 → ¬ wr kd = 46 → ¬ wr kd = 47 → ¬ wr kd = 48 → ¬ wr kd = 49 → ¬ wr kd = 50 → ¬ wr kd = 51 → ¬ wr kd = 52 → ¬ wr kd = 53 → ¬ wr kd = 54 → ¬ wr kd = 55 → ¬ wr kd = 56 → ¬ wr kd = 57 → wr kd = 58 → κ (some (zi (wr (-a)))) m)
    (o20 : ¬ wr kd = 42 → ¬ wr kd = 43 → ¬ wr kd = 44 → ¬ wr kd = 45 → ¬ wr kd = 46 → ¬ wr kd = 47 → ¬ wr kd = 48 → ¬ wr kd = 49 → ¬ wr kd = 50 → ¬ wr kd = 51 → ¬ wr kd = 52 → ¬ wr kd = 53 → ¬ wr kd = 54 → ¬ wr kd = 55 → ¬ wr kd = 56 → ¬ wr kd = 57 → ¬ wr kd = 58 → wr kd = 59 → κ (some (zi (wr (-a)))) m)
    (o21 : ¬ wr kd = 42 → ¬ wr kd = 43 → ¬ wr kd = 44 → ¬ wr kd = 45 → ¬ wr kd = 46 → ¬ wr kd = 47 → ¬ wr kd = 48 → ¬ wr kd = 49 → ¬ wr kd = 50 → ¬ wr kd = 51 → ¬ wr kd = 52 → ¬ wr kd = 53 → ¬ wr kd = 54 → ¬ wr kd = 55 → ¬ wr kd = 56 → ¬ wr kd = 57 → ¬ wr kd = 58 → ¬ wr kd = 59 → wr kd = 60 → ¬ wr a < wr b → κ (some (zi 0)) m)
    (o22 : ¬ wr kd = 42 → ¬ wr kd = 43 → ¬ wr kd = 44 → ¬ wr kd = 45 → ¬ wr kd = 46 → ¬ wr kd = 47 → ¬ wr kd = 48 → ¬ wr kd = 49 → ¬ wr kd = 50 → ¬ wr kd = 51 → ¬ wr kd = 52 → ¬ wr kd = 53 → ¬ wr kd = 54 → ¬ wr kd = 55 → ¬ wr kd = 56 → ¬ wr kd = 57 → ¬ wr kd = 58 → ¬ wr kd = 59 → wr kd = 60 → wr a < wr b → κ (some (zi 1)) m)
    (o23 : ¬ wr kd = 42 → ¬ wr kd = 43 → ¬ wr kd = 44 → ¬ wr kd = 45 → ¬ wr kd = 46 → ¬ wr kd = 47 → ¬ wr kd = 48 → ¬ wr kd = 49 → ¬ wr kd = 50 → ¬ wr kd = 51 → ¬ wr kd = 52 → ¬ wr kd = 53 → ¬ wr kd = 54 → ¬ wr kd = 55 → ¬ wr kd = 56 → ¬ wr kd = 57 → ¬ wr kd = 58 → ¬ wr kd = 59 → ¬ wr kd = 60 → wr kd = 61 → ¬ wr a = wr b → κ (some (zi 0)) m)
    (o24 : ¬ wr kd = 42 → ¬ wr kd = 43 → ¬ wr kd = 44 → ¬ wr kd = 45 → ¬ wr kd = 46 → ¬ wr kd = 47 → ¬ wr kd = 48 → ¬ wr kd = 49 → ¬ wr kd = 50 → ¬ wr kd = 51 → ¬ wr kd = 52 → ¬ wr kd = 53 → ¬ wr kd = 54 → ¬ wr kd = 55 → ¬ wr kd = 56 → ¬ wr kd = 57 → ¬ wr kd = 58 → ¬ wr kd = 59 → ¬ wr kd = 60 → wr kd = 61 → wr a = wr b → κ (some (zi 1)) m)
    (o25 : ¬ wr kd = 42 → ¬ wr kd = 43 → ¬ wr kd = 44 → ¬ wr kd = 45 → ¬ wr kd = 46 → ¬ wr kd = 47 → ¬ wr kd = 48 → ¬ wr kd = 49 → ¬ wr kd = 50 → ¬ wr kd = 51 → ¬ wr kd = 52 → ¬ wr kd = 53 → ¬ wr kd = 54 → ¬ wr kd = 55 → ¬ wr kd = 56 → ¬ wr kd = 57 → ¬ wr kd = 58 → ¬ wr kd = 59 → ¬ wr kd = 60 → ¬ wr kd = 61 → wr kd = 62 → ¬ wr b < wr a → κ (some (zi 0)) m)
    (o26 : ¬ wr kd = 42 → ¬ wr kd = 43 → ¬ wr kd = 44 → ¬ wr kd = 45 → ¬ wr kd = 46 → ¬ wr kd = 47 → ¬ wr kd = 48 → ¬ wr kd = 49 → ¬ wr kd = 50 → ¬ wr kd = 51 → ¬ wr kd = 52 → ¬ wr kd = 53 → ¬ wr kd = 54 → ¬ wr kd = 55 → ¬ wr kd = 56 → ¬ wr kd = 57 → ¬ wr kd = 58 → ¬ wr kd = 59 → ¬ wr kd = 60 → ¬ wr kd = 61 → wr kd = 62 → wr b < wr a → κ (some (zi 1)) m)
    (o27 : ¬ wr kd = 42 → ¬ wr kd = 43 → ¬ wr kd = 44 → ¬ wr kd = 45 → ¬ wr kd = 46 → ¬ wr kd = 47 → ¬ wr kd = 48 → ¬ wr kd = 49 → ¬ wr kd = 50 → ¬ wr kd = 51 → ¬ wr kd = 52 → ¬ wr kd = 53 → ¬ wr kd = 54 → ¬ wr kd = 55 → ¬ wr kd = 56 → ¬ wr kd = 57 → ¬ wr kd = 58 → ¬ wr kd = 59 → ¬ wr kd = 60 → ¬ wr kd = 61 → ¬ wr kd = 62 → κ (some (zi (wr (-a)))) m) :
    T (D + 1) 59 (0, [(0, zi kd), (1, zi a), (2, zi b)], [], m) κ :=
  hT.1 [] 6 (D + 1) 59 _ κ (And.intro (fun a1 => (o1 a1)) (fun a2 => (And.intro (fun a3 => (o2 a2 a3)) (fun a4 => (And.intro (fun a5 => (o3 a2 a4 a5)) (fun a6 => (And.intro (fun a7 => (o4 a2 a4 a6 a7)) (fun a8 => (And.intro (fun a9 => (o5 a2 a4 a6 a8 a9)) (fun a10 => (And.intro (fun a11 => (And.intro (fun a13 => (hT.1 [] 6 (D + 1) 59 (122, [(0, zi kd), (1, zi a), (2, zi b)], [zi b, zi a], m) _ (And.intro (o6 a2 a4 a6 a8 a10 a11 a13) (o7 a2 a4 a6 a8 a10 a11 a13)))) (fun a14 => (hT.1 [] 6 (D + 1) 59 (123, [(0, zi kd), (1, zi a), (2, zi b)], [zi 0], m) _ (o8 a2 a4 a6 a8 a10 a11 (Classical.byContradiction a14)))))) (fun a12 => (And.intro (fun a15 => (o9 a2 a4 a6 a8 a10 a12 a15)) (fun a16 => (And.intro (fun a17 => (o10 a2 a4 a6 a8 a10 a12 a16 a17)) (fun a18 => (And.intro (fun a19 => (o11 a2 a4 a6 a8 a10 a12 a16 a18 a19)) (fun a20 => (And.intro (fun a21 => (o12 a2 a4 a6 a8 a10 a12 a16 a18 a20 a21)) (fun a22 => (And.intro (fun a23 => (o13 a2 a4 a6 a8 a10 a12 a16 a18 a20 a22 a23)) (fun a24 => (And.intro (fun a25 => (o14 a2 a4 a6 a8 a10 a12 a16 a18 a20 a22 a24 a25)) (fun a26 => (And.intro (fun a27 => (o15 a2 a4 a6 a8 a10 a12 a16 a18 a20 a22 a24 a26 a27)) (fun a28 => (And.intro (fun a29 => (o16 a2 a4 a6 a8 a10 a12 a16 a18 a20 a22 a24 a26 a28 a29)) (fun a30 => (And.intro (fun a31 => (o17 a2 a4 a6 a8 a10 a12 a16 a18 a20 a22 a24 a26 a28 a30 a31)) (fun a32 => (And.intro (fun a33 => (o18 a2 a4 a6 a8 a10 a12 a16 a18 a20 a22 a24 a26 a28 a30 a32 a33)) (fun a34 => (And.intro (fun a35 => (o19 a2 a4 a6 a8 a10 a12 a16 a18 a20 a22 a24 a26 a28 a30 a32 a34 a35)) (fun a36 => (And.intro (fun a37 => (o20 a2 a4 a6 a8 a10 a12 a16 a18 a20 a22 a24 a26 a28 a30 a32 a34 a36 a37)) (fun a38 => (And.intro (fun a39 => (And.intro (fun a41 => (hT.1 [] 6 (D + 1) 59 (134, [(0, zi kd), (1, zi a), (2, zi b)], [zi 0], m) _ (o21 a2 a4 a6 a8 a10 a12 a16 a18 a20 a22 a24 a26 a28 a30 a32 a34 a36 a38 a39 a41))) (fun a42 => (hT.1 [] 6 (D + 1) 59 (130, [(0, zi kd), (1, zi a), (2, zi b)], [zi 1], m) _ (o22 a2 a4 a6 a8 a10 a12 a16 a18 a20 a22 a24 a26 a28 a30 a32 a34 a36 a38 a39 (Classical.byContradiction a42)))))) (fun a40 => (And.intro (fun a43 => (And.intro (fun a45 => (hT.1 [] 6 (D + 1) 59 (156, [(0, zi kd), (1, zi a), (2, zi b)], [zi 0], m) _ (o23 a2 a4 a6 a8 a10 a12 a16 a18 a20 a22 a24 a26 a28 a30 a32 a34 a36 a38 a40 a43 a45))) (fun a46 => (hT.1 [] 6 (D + 1) 59 (152, [(0, zi kd), (1, zi a), (2, zi b)], [zi 1], m) _ (o24 a2 a4 a6 a8 a10 a12 a16 a18 a20 a22 a24 a26 a28 a30 a32 a34 a36 a38 a40 a43 (Classical.byContradiction a46)))))) (fun a44 => (And.intro (fun a47 => (And.intro (fun a49 => (hT.1 [] 6 (D + 1) 59 (145, [(0, zi kd), (1, zi a), (2, zi b)], [zi 0], m) _ (o25 a2 a4 a6 a8 a10 a12 a16 a18 a20 a22 a24 a26 a28 a30 a32 a34 a36 a38 a40 a44 a47 a49))) (fun a50 => (hT.1 [] 6 (D + 1) 59 (141, [(0, zi kd), (1, zi a), (2, zi b)], [zi 1], m) _ (o26 a2 a4 a6 a8 a10 a12 a16 a18 a20 a22 a24 a26 a28 a30 a32 a34 a36 a38 a40 a44 a47 (Classical.byContradiction a50)))))) (fun a48 => (o27 a2 a4 a6 a8 a10 a12 a16 a18 a20 a22 a24 a26 a28 a30 a32 a34 a36 a38 a40 a44 a48)))))))))))))))))))))))))))))))))))))))))))
theorem zb59_0 (hT : zRules T) {D : Nat} {κ : Option zA → zM → Prop} {m : zM} {kd : Int} {a : Int} {b : Int}  (hB : zB m) (h_kd : (-1) ≤ kd ∧ kd ≤ 65535) 
    (k1 : kd = 42 → κ (some (zi (wr (a * b)))) m)
    (k2 : ¬ kd = 42 → kd = 43 → κ (some (zi (wr (a + b)))) m)
    (k3 : ¬ kd = 42 → ¬ kd = 43 → kd = 44 → κ (some (zi (wr (-a)))) m)
    (k4 : ¬ kd = 42 → ¬ kd = 43 → ¬ kd = 44 → kd = 45 → κ (some (zi (wr (a - b)))) m)
    (k5 : ¬ kd = 42 → ¬ kd = 43 → ¬ kd = 44 → ¬ kd = 45 → kd = 46 → κ (some (zi (wr (-a)))) m)
    (k6 : ¬ kd = 42 → ¬ kd = 43 → ¬ kd = 44 → ¬ kd = 45 → ¬ kd = 46 → kd = 47 → ¬ wr b = 0 → κ (some (zi (wr (Int.tdiv (wr a) (wr b))))) m)
    (k7 : ¬ kd = 42 → ¬ kd = 43 → ¬ kd = 44 → ¬ kd = 45 → ¬ kd = 46 → kd = 47 → wr b = 0 → κ (some (zi 0)) m)
    (k8 : ¬ kd = 42 → ¬ kd = 43 → ¬ kd = 44 → ¬ kd = 45 → ¬ kd = 46 → ¬ kd = 47 → kd = 48 → κ (some (zi (wr (-a)))) m)
    (k9 : ¬ kd = 42 → ¬ kd = 43 → ¬ kd = 44 → ¬ kd = 45 → ¬ kd = 46 → ¬ kd = 47 → ¬ kd = 48 → kd = 49 → κ (some (zi (wr (-a)))) m)
    (k10 : ¬ kd = 42 → ¬ kd = 43 → ¬ kd = 44 → ¬ kd = 45 → ¬ kd = 46 → ¬ kd = 47 → ¬ kd = 48 → ¬ kd = 49 → kd = 50 → κ (some (zi (wr (-a)))) m)
    (k11 : ¬ kd = 42 → ¬ kd = 43 → ¬ kd = 44 → ¬ kd = 45 → ¬ kd = 46 → ¬ kd = 47 → ¬ kd = 48 → ¬ kd = 49 → ¬ kd = 50 → kd = 51 → κ (some (zi (wr (-a)))) m)
    (k12 : ¬ kd = 42 → ¬ kd = 43 → ¬ kd = 44 → ¬ kd = 45 → ¬ kd = 46 → ¬ kd = 47 → ¬ kd = 48 → ¬ kd = 49 → ¬ kd = 50 → ¬ kd = 51 → kd = 52 → κ (some (zi (wr (-a)))) m)
    (k13 : ¬ kd = 42 → ¬ kd = 43 → ¬ kd = 44 → ¬ kd = 45 → ¬ kd = 46 → ¬ kd = 47 → ¬ kd = 48 → ¬ kd = 49 → ¬ kd = 50 → ¬ kd = 51 → ¬ kd = 52 → kd = 53 → κ (some (zi (wr (-a)))) m)
    (k14 : ¬ kd = 42 → ¬ kd = 43 → ¬ kd = 44 → ¬ kd = 45 → ¬ kd = 46 → ¬ kd = 47 → ¬ kd = 48 → ¬ kd = 49 → ¬ kd = 50 → ¬ kd = 51 → ¬ kd = 52 → ¬ kd = 53 → kd = 54 → κ (some (zi (wr (-a)))) m)
    (k15 : ¬ kd = 42 → ¬ kd = 43 → ¬ kd = 44 → ¬ kd = 45 → ¬ kd = 46 → ¬ kd = 47 → ¬ kd = 48 → ¬ kd = 49 → ¬ kd = 50 → ¬ kd = 51 → ¬ kd = 52 → ¬ kd = 53 → ¬ kd = 54 → kd = 55 → κ (some (zi (wr (-a)))) m)
    (k16 : ¬ kd = 42 → ¬ kd = 43 → ¬ kd = 44 → ¬ kd = 45 → ¬ kd = 46 → ¬ kd = 47 → ¬ kd = 48 → ¬ kd = 49 → ¬ kd = 50 → ¬ kd = 51 → ¬ kd = 52 → ¬ kd = 53 → ¬ kd = 54 → ¬ kd = 55 → kd = 56 → κ (some (zi (wr (-a)))) m)
    (k17 : ¬ kd = 42 → ¬ kd = 43 → ¬ kd = 44 → ¬ kd = 45 → ¬ kd = 46 → ¬ kd = 47 → ¬ kd = 48 → ¬ kd = 49 → ¬ kd = 50 → ¬ kd = 51 → ¬ kd = 52 → ¬ kd = 53 → ¬ kd = 54 → ¬ kd = 55 → ¬ kd = 56 → kd = 57 → κ (some (zi (wr (-a)))) m)
    (k18 : ¬ kd = 42 → ¬ kd = 43 → ¬ kd = 44 → ¬ kd = 45 → ¬ kd = 46 → ¬ kd = 47 → ¬ kd = 48 → ¬ kd = 49 → ¬ kd = 50 → ¬ kd = 51 → ¬ kd = 52 → ¬ kd = 53 → ¬ kd = 54 → ¬ kd = 55 → ¬ kd = 56 → ¬ kd = 57 → kd = 58 → κ (some (zi (wr (-a)))) m)
    (k19 : ¬ kd = 42 → ¬ kd = 43 → ¬ kd = 44 → ¬ kd = 45 → ¬ kd = 46 → ¬ kd = 47 → ¬ kd = 48 → ¬ kd = 49 → ¬ kd = 50 → ¬ kd = 51 → ¬ kd = 52 → ¬ kd = 53 → ¬ kd = 54 → ¬ kd = 55 → ¬ kd = 56 → ¬ kd = 57 → ¬ kd = 58 → kd = 59 → κ (some (zi (wr (-a)))) m)
    (k20 : ¬ kd = 42 → ¬ kd = 43 → ¬ kd = 44 → ¬ kd = 45 → ¬ kd = 46 → ¬ kd = 47 → ¬ kd = 48 → ¬ kd = 49 → ¬ kd = 50 → ¬ kd = 51 → ¬ kd = 52 → ¬ kd = 53 → ¬ kd = 54 → ¬ kd = 55 → ¬ kd = 56 → ¬ kd = 57 → ¬ kd = 58 → ¬ kd = 59 → kd = 60 → ¬ wr a < wr b → κ (some (zi 0)) m)
    (k21 : ¬ kd = 42 → ¬ kd = 43 → ¬ kd = 44 → ¬ kd = 45 → ¬ kd = 46 → ¬ kd = 47 → ¬ kd = 48 → ¬ kd = 49 → ¬ kd = 50 → ¬ kd = 51 → ¬ kd = 52 → ¬ kd = 53 → ¬ kd = 54 → ¬ kd = 55 → ¬ kd = 56 → ¬ kd = 57 → ¬ kd = 58 → ¬ kd = 59 → kd = 60 → wr a < wr b → κ (some (zi 1)) m)
    (k22 : ¬ kd = 42 → ¬ kd = 43 → ¬ kd = 44 → ¬ kd = 45 → ¬ kd = 46 → ¬ kd = 47 → ¬ kd = 48 → ¬ kd = 49 → ¬ kd = 50 → ¬ kd = 51 → ¬ kd = 52 → ¬ kd = 53 → ¬ kd = 54 → ¬ kd = 55 → ¬ kd = 56 → ¬ kd = 57 → ¬ kd = 58 → ¬ kd = 59 → ¬ kd = 60 → kd = 61 → ¬ wr a = wr b → κ (some (zi 0)) m)
    (k23 : ¬ kd = 42 → ¬ kd = 43 → ¬ kd = 44 → ¬ kd = 45 → ¬ kd = 46 → ¬ kd = 47 → ¬ kd = 48 → ¬ kd = 49 → ¬ kd = 50 → ¬ kd = 51 → ¬ kd = 52 → ¬ kd = 53 → ¬ kd = 54 → ¬ kd = 55 → ¬ kd = 56 → ¬ kd = 57 → ¬ kd = 58 → ¬ kd = 59 → ¬ kd = 60 → kd = 61 → wr a = wr b → κ (some (zi 1)) m)
    (k24 : ¬ kd = 42 → ¬ kd = 43 → ¬ kd = 44 → ¬ kd = 45 → ¬ kd = 46 → ¬ kd = 47 → ¬ kd = 48 → ¬ kd = 49 → ¬ kd = 50 → ¬ kd = 51 → ¬ kd = 52 → ¬ kd = 53 → ¬ kd = 54 → ¬ kd = 55 → ¬ kd = 56 → ¬ kd = 57 → ¬ kd = 58 → ¬ kd = 59 → ¬ kd = 60 → ¬ kd = 61 → kd = 62 → ¬ wr b < wr a → κ (some (zi 0)) m)
    (k25 : ¬ kd = 42 → ¬ kd = 43 → ¬ kd = 44 → ¬ kd = 45 → ¬ kd = 46 → ¬ kd = 47 → ¬ kd = 48 → ¬ kd = 49 → ¬ kd = 50 → ¬ kd = 51 → ¬ kd = 52 → ¬ kd = 53 → ¬ kd = 54 → ¬ kd = 55 → ¬ kd = 56 → ¬ kd = 57 → ¬ kd = 58 → ¬ kd = 59 → ¬ kd = 60 → ¬ kd = 61 → kd = 62 → wr b < wr a → κ (some (zi 1)) m)
    (k26 : ¬ kd = 42 → ¬ kd = 43 → ¬ kd = 44 → ¬ kd = 45 → ¬ kd = 46 → ¬ kd = 47 → ¬ kd = 48 → ¬ kd = 49 → ¬ kd = 50 → ¬ kd = 51 → ¬ kd = 52 → ¬ kd = 53 → ¬ kd = 54 → ¬ kd = 55 → ¬ kd = 56 → ¬ kd = 57 → ¬ kd = 58 → ¬ kd = 59 → ¬ kd = 60 → ¬ kd = 61 → ¬ kd = 62 → κ (some (zi (wr (-a)))) m) :
    T (D + 1) 59 (0, [(0, zi kd), (1, zi a), (2, zi b)], [], m) κ := by
  have hb1 : (-2147483648) ≤ wr (a * b) ∧ wr (a * b) ≤ 2147483647 := wrB (a * b)
  have hb2 : (-2147483648) ≤ wr (a + b) ∧ wr (a + b) ≤ 2147483647 := wrB (a + b)
  have hb3 : (-2147483648) ≤ wr (-a) ∧ wr (-a) ≤ 2147483647 := wrB (-a)
  have hb4 : (-2147483648) ≤ wr (a - b) ∧ wr (a - b) ≤ 2147483647 := wrB (a - b)
  have hb5 : (-2147483648) ≤ wr b ∧ wr b ≤ 2147483647 := wrB b
  have hb6 : (-2147483648) ≤ wr a ∧ wr a ≤ 2147483647 := wrB a
  have hb7 : (-2147483648) ≤ wr (Int.tdiv (wr a) (wr b)) ∧ wr (Int.tdiv (wr a) (wr b)) ≤ 2147483647 := wrB (Int.tdiv (wr a) (wr b))
  have he0 : wr kd = kd := wr_id (by omega) (by omega)
  have key := @zb59_0r T hT D κ m kd a b
  simp only [he0, Int.toNat_natCast] at key
  exact key
    k1
    k2
    k3
    k4
    k5
    (fun x0 x1 x2 x3 x4 x5 x6 => by omega)
    k6
    k7
    k8
    k9
    k10
    k11
    k12
    k13
    k14
    k15
    k16
    k17
    k18
    k19
    k20
    k21
    k22
    k23
    k24
    k25
    k26
theorem zb170_0ar (hT : zRules T) {D : Nat} {κ : Option zA → zM → Prop} {m : zM} {h : Int} {i : Int} {p : Nat} {w : Int} 
    (o1 : wr (p : Int) < 0 → False)
    (o2 : ¬ wr (p : Int) < 0 → ¬ wr (p : Int) < wr (m 4 4) → κ (some (zi 0)) m)
    (o3 : ¬ wr (p : Int) < 0 → wr (p : Int) < wr (m 4 4) → wr w < 0 → False)
    (o4 : ¬ wr (p : Int) < 0 → wr (p : Int) < wr (m 4 4) → ¬ wr w < 0 → (0 ≤ wr (p : Int) ∧ wr (p : Int) < 4))
    (o5 : ¬ wr (p : Int) < 0 → wr (p : Int) < wr (m 4 4) → ¬ wr w < 0 → ¬ wr (m 6 ((wr (p : Int)).toNat)) < 1 → (0 ≤ wr (p : Int) ∧ wr (p : Int) < 4))
    (o6 : ¬ wr (p : Int) < 0 → wr (p : Int) < wr (m 4 4) → ¬ wr w < 0 → ¬ wr (m 6 ((wr (p : Int)).toNat)) < 1 → ¬ wr (m 6 ((wr (p : Int)).toNat)) = 0)
    (o7 : ¬ wr (p : Int) < 0 → wr (p : Int) < wr (m 4 4) → ¬ wr w < 0 → ¬ wr (m 6 ((wr (p : Int)).toNat)) < 1 → (0 ≤ wr (((p : Int) * 26) + (Int.tmod (wr w) (wr (m 6 ((wr (p : Int)).toNat))))) ∧ wr (((p : Int) * 26) + (Int.tmod (wr w) (wr (m 6 ((wr (p : Int)).toNat))))) < 104))
    (o8 : ¬ wr (p : Int) < 0 → wr (p : Int) < wr (m 4 4) → ¬ wr w < 0 → ¬ wr (m 6 ((wr (p : Int)).toNat)) < 1 → ¬ wr (wr (m 5 ((wr (((p : Int) * 26) + (Int.tmod (wr w) (wr (m 6 ((wr (p : Int)).toNat)))))).toNat))) = (-1) → T (D + 2) 58 (0, [(0, zr 9), (1, zi h), (2, zi (wr (m 5 ((wr (((p : Int) * 26) + (Int.tmod (wr w) (wr (m 6 ((wr (p : Int)).toNat)))))).toNat)))), (3, zi w), (4, zi (p : Int)), (5, zi i)], [], m) (fun r m1 => T (D + 3) 170 (34, [(0, zr 1), (1, zi h), (2, zi i), (3, zi (p : Int)), (4, zi w), (5, zi (wr (m 5 ((wr (((p : Int) * 26) + (Int.tmod (wr w) (wr (m 6 ((wr (p : Int)).toNat)))))).toNat))))], r.toList ++ [], m1) κ))
    (o9 : ¬ wr (p : Int) < 0 → wr (p : Int) < wr (m 4 4) → ¬ wr w < 0 → ¬ wr (m 6 ((wr (p : Int)).toNat)) < 1 → wr (wr (m 5 ((wr (((p : Int) * 26) + (Int.tmod (wr w) (wr (m 6 ((wr (p : Int)).toNat)))))).toNat))) = (-1) → False)
    (o10 : ¬ wr (p : Int) < 0 → wr (p : Int) < wr (m 4 4) → ¬ wr w < 0 → wr (m 6 ((wr (p : Int)).toNat)) < 1 → False) :
    T (D + 3) 170 (0, [(0, zr 1), (1, zi h), (2, zi i), (3, zi (p : Int)), (4, zi w)], [], m) κ :=
  hT.1 [] 6 (D + 3) 170 _ κ (hT.1 [] 6 (D + 2) 1 _ _ (And.intro (fun a1 => (o1 a1).elim) (fun a2 => (And.intro (fun a3 => (hT.1 [] 6 (D + 2) 1 (26, [(0, zr 4), (1, zi (p : Int)), (2, zi w)], [], m) _ (hT.1 [] 6 (D + 3) 170 _ _ (And.intro (fun a5 => (z_litF a5 rfl).elim) (fun _ => (o2 a2 a3)))))) (fun a4 => (hT.1 [] 6 (D + 2) 1 (12, [(0, zr 4), (1, zi (p : Int)), (2, zi w)], [], m) _ (And.intro (fun a6 => (o3 a2 (Classical.byContradiction a4) a6).elim) (fun a7 => (And.intro (o4 a2 (Classical.byContradiction a4) a7) (hT.1 [] 6 (D + 2) 1 (22, [(0, zr 4), (1, zi (p : Int)), (2, zi w)], [zi (m 6 ((wr (p : Int)).toNat))], m) _ (And.intro (fun a8 => (hT.1 [] 6 (D + 2) 1 (35, [(0, zr 4), (1, zi (p : Int)), (2, zi w)], [zi 26, zi (p : Int), zr 5], m) _ (And.intro (o5 a2 (Classical.byContradiction a4) a7 a8) (hT.1 [] 6 (D + 2) 1 (43, [(0, zr 4), (1, zi (p : Int)), (2, zi w)], [zi (m 6 ((wr (p : Int)).toNat)), zi w, zi ((p : Int) * 26), zr 5], m) _ (And.intro (o6 a2 (Classical.byContradiction a4) a7 a8) (And.intro (o7 a2 (Classical.byContradiction a4) a7 a8) (hT.1 [] 6 (D + 3) 170 _ _ (And.intro (fun a10 => (hT.1 [] 6 (D + 3) 170 (24, [(0, zr 1), (1, zi h), (2, zi i), (3, zi (p : Int)), (4, zi w), (5, zi (wr (m 5 ((wr (((p : Int) * 26) + (Int.tmod (wr w) (wr (m 6 ((wr (p : Int)).toNat)))))).toNat))))], [zr 9], m) _ (o8 a2 (Classical.byContradiction a4) a7 a8 a10))) (fun a11 => (o9 a2 (Classical.byContradiction a4) a7 a8 (Classical.byContradiction a11)).elim))))))))) (fun a9 => (o10 a2 (Classical.byContradiction a4) a7 (Classical.byContradiction a9)).elim))))))))))))
theorem zb170_0a (hT : zRules T) {D : Nat} {κ : Option zA → zM → Prop} {m : zM} {h : Int} {i : Int} {p : Nat} {w : Int}  (hB : zB m) (h_h : 0 ≤ h ∧ h ≤ 99) (h_i : 0 ≤ i ∧ i ≤ 5) (h_p : p ≤ 3) (h_w : 0 ≤ w ∧ w ≤ 500000) (hf0 : 1 ≤ m 6 p ∧ m 6 p ≤ 26) 
    (k1 : ¬ (p : Int) < (m 4 4) → κ (some (zi 0)) m)
    (k2 : (p : Int) < (m 4 4) → T (D + 2) 58 (0, [(0, zr 9), (1, zi h), (2, zi (m 5 ((((p : Int) * 26) + (Int.tmod w (m 6 p))).toNat))), (3, zi w), (4, zi (p : Int)), (5, zi i)], [], m) (fun r m1 => T (D + 3) 170 (34, [(0, zr 1), (1, zi h), (2, zi i), (3, zi (p : Int)), (4, zi w), (5, zi (m 5 ((((p : Int) * 26) + (Int.tmod w (m 6 p))).toNat)))], r.toList ++ [], m1) κ)) :
    T (D + 3) 170 (0, [(0, zr 1), (1, zi h), (2, zi i), (3, zi (p : Int)), (4, zi w)], [], m) κ := by
  have hb5 : 0 ≤ (m 4 4) ∧ (m 4 4) ≤ 4 := hB 4 4
  have hb6 : 0 ≤ (Int.tmod w (m 6 p)) ∧ (Int.tmod w (m 6 p)) ≤ 25 := z_tmodB w (m 6 p) 25 (by omega) (by omega) (by omega)
  have hb7 : 0 ≤ (m 5 ((((p : Int) * 26) + (Int.tmod w (m 6 p))).toNat)) ∧ (m 5 ((((p : Int) * 26) + (Int.tmod w (m 6 p))).toNat)) ≤ 9 := hB 5 ((((p : Int) * 26) + (Int.tmod w (m 6 p))).toNat)
  have he0 : wr (p : Int) = (p : Int) := wr_id (by omega) (by omega)
  have he1 : wr (m 4 4) = (m 4 4) := wr_id (by omega) (by omega)
  have he2 : wr w = w := wr_id (by omega) (by omega)
  have he3 : (p : Int).toNat = p := by omega
  have he4 : wr (m 6 p) = (m 6 p) := wr_id (by omega) (by omega)
  have he5 : wr (((p : Int) * 26) + (Int.tmod w (m 6 p))) = (((p : Int) * 26) + (Int.tmod w (m 6 p))) := wr_id (by omega) (by omega)
  have he6 : wr (m 5 ((((p : Int) * 26) + (Int.tmod w (m 6 p))).toNat)) = (m 5 ((((p : Int) * 26) + (Int.tmod w (m 6 p))).toNat)) := wr_id (by omega) (by omega)
  have key := @zb170_0ar T hT D κ m h i p w
  simp only [he0, he1, he2, he3, he4, he5, he6, Int.toNat_natCast] at key
  exact key
    (fun x0 => by omega)
    (fun x0 x1 => k1 x1)
    (fun x0 x1 x2 => by omega)
    (fun x0 x1 x2 => by refine ⟨?_, ?_⟩ <;> omega)
    (fun x0 x1 x2 x3 => by refine ⟨?_, ?_⟩ <;> omega)
    (fun x0 x1 x2 x3 => by omega)
    (fun x0 x1 x2 x3 => by refine ⟨?_, ?_⟩ <;> omega)
    (fun x0 x1 x2 x3 x4 => k2 x1)
    (fun x0 x1 x2 x3 x4 => by omega)
    (fun x0 x1 x2 x3 => by omega)
theorem zb170_0br (hT : zRules T) {D : Nat} {κ : Option zA → zM → Prop} {m : zM} {h : Int} {i : Int} {p : Nat} {w : Int} 
    (o1 : wr (p : Int) < 0 → False)
    (o2 : ¬ wr (p : Int) < 0 → ¬ wr (p : Int) < wr (m 4 4) → κ (some (zi 0)) m)
    (o3 : ¬ wr (p : Int) < 0 → wr (p : Int) < wr (m 4 4) → wr w < 0 → False)
    (o4 : ¬ wr (p : Int) < 0 → wr (p : Int) < wr (m 4 4) → ¬ wr w < 0 → (0 ≤ wr (p : Int) ∧ wr (p : Int) < 4))
    (o5 : ¬ wr (p : Int) < 0 → wr (p : Int) < wr (m 4 4) → ¬ wr w < 0 → ¬ wr (m 6 ((wr (p : Int)).toNat)) < 1 → (0 ≤ wr (p : Int) ∧ wr (p : Int) < 4))
    (o6 : ¬ wr (p : Int) < 0 → wr (p : Int) < wr (m 4 4) → ¬ wr w < 0 → ¬ wr (m 6 ((wr (p : Int)).toNat)) < 1 → ¬ wr (m 6 ((wr (p : Int)).toNat)) = 0)
    (o7 : ¬ wr (p : Int) < 0 → wr (p : Int) < wr (m 4 4) → ¬ wr w < 0 → ¬ wr (m 6 ((wr (p : Int)).toNat)) < 1 → (0 ≤ wr (((p : Int) * 26) + (Int.tmod (wr w) (wr (m 6 ((wr (p : Int)).toNat))))) ∧ wr (((p : Int) * 26) + (Int.tmod (wr w) (wr (m 6 ((wr (p : Int)).toNat))))) < 104))
    (o8 : ¬ wr (p : Int) < 0 → wr (p : Int) < wr (m 4 4) → ¬ wr w < 0 → ¬ wr (m 6 ((wr (p : Int)).toNat)) < 1 → ¬ wr (wr (m 5 ((wr (((p : Int) * 26) + (Int.tmod (wr w) (wr (m 6 ((wr (p : Int)).toNat)))))).toNat))) = (-1) → T (D + 2) 58 (0, [(0, zr 9), (1, zi h), (2, zi (wr (m 5 ((wr (((p : Int) * 26) + (Int.tmod (wr w) (wr (m 6 ((wr (p : Int)).toNat)))))).toNat)))), (3, zi w), (4, zi (p : Int)), (5, zi i)], [], m) (fun r m1 => T (D + 3) 170 (34, [(0, zr 1), (1, zi h), (2, zi i), (3, zi (p : Int)), (4, zi w), (5, zi (wr (m 5 ((wr (((p : Int) * 26) + (Int.tmod (wr w) (wr (m 6 ((wr (p : Int)).toNat)))))).toNat))))], r.toList ++ [], m1) κ))
    (o9 : ¬ wr (p : Int) < 0 → wr (p : Int) < wr (m 4 4) → ¬ wr w < 0 → ¬ wr (m 6 ((wr (p : Int)).toNat)) < 1 → wr (wr (m 5 ((wr (((p : Int) * 26) + (Int.tmod (wr w) (wr (m 6 ((wr (p : Int)).toNat)))))).toNat))) = (-1) → False)
    (o10 : ¬ wr (p : Int) < 0 → wr (p : Int) < wr (m 4 4) → ¬ wr w < 0 → wr (m 6 ((wr (p : Int)).toNat)) < 1 → κ (some (zi 0)) m) :
    T (D + 3) 170 (0, [(0, zr 1), (1, zi h), (2, zi i), (3, zi (p : Int)), (4, zi w)], [], m) κ :=
  hT.1 [] 6 (D + 3) 170 _ κ (hT.1 [] 6 (D + 2) 1 _ _ (And.intro (fun a1 => (o1 a1).elim) (fun a2 => (And.intro (fun a3 => (hT.1 [] 6 (D + 2) 1 (26, [(0, zr 4), (1, zi (p : Int)), (2, zi w)], [], m) _ (hT.1 [] 6 (D + 3) 170 _ _ (And.intro (fun a5 => (z_litF a5 rfl).elim) (fun _ => (o2 a2 a3)))))) (fun a4 => (hT.1 [] 6 (D + 2) 1 (12, [(0, zr 4), (1, zi (p : Int)), (2, zi w)], [], m) _ (And.intro (fun a6 => (o3 a2 (Classical.byContradiction a4) a6).elim) (fun a7 => (And.intro (o4 a2 (Classical.byContradiction a4) a7) (hT.1 [] 6 (D + 2) 1 (22, [(0, zr 4), (1, zi (p : Int)), (2, zi w)], [zi (m 6 ((wr (p : Int)).toNat))], m) _ (And.intro (fun a8 => (hT.1 [] 6 (D + 2) 1 (35, [(0, zr 4), (1, zi (p : Int)), (2, zi w)], [zi 26, zi (p : Int), zr 5], m) _ (And.intro (o5 a2 (Classical.byContradiction a4) a7 a8) (hT.1 [] 6 (D + 2) 1 (43, [(0, zr 4), (1, zi (p : Int)), (2, zi w)], [zi (m 6 ((wr (p : Int)).toNat)), zi w, zi ((p : Int) * 26), zr 5], m) _ (And.intro (o6 a2 (Classical.byContradiction a4) a7 a8) (And.intro (o7 a2 (Classical.byContradiction a4) a7 a8) (hT.1 [] 6 (D + 3) 170 _ _ (And.intro (fun a10 => (hT.1 [] 6 (D + 3) 170 (24, [(0, zr 1), (1, zi h), (2, zi i), (3, zi (p : Int)), (4, zi w), (5, zi (wr (m 5 ((wr (((p : Int) * 26) + (Int.tmod (wr w) (wr (m 6 ((wr (p : Int)).toNat)))))).toNat))))], [zr 9], m) _ (o8 a2 (Classical.byContradiction a4) a7 a8 a10))) (fun a11 => (o9 a2 (Classical.byContradiction a4) a7 a8 (Classical.byContradiction a11)).elim))))))))) (fun a9 => (hT.1 [] 6 (D + 3) 170 _ _ (And.intro (fun a12 => (z_litF a12 rfl).elim) (fun _ => (o10 a2 (Classical.byContradiction a4) a7 (Classical.byContradiction a9)))))))))))))))))
theorem zb170_0b (hT : zRules T) {D : Nat} {κ : Option zA → zM → Prop} {m : zM} {h : Int} {i : Int} {p : Nat} {w : Int}  (hB : zB m) (h_h : 0 ≤ h ∧ h ≤ 99) (h_i : 0 ≤ i ∧ i ≤ 5) (h_p : p ≤ 3) (h_w : 0 ≤ w ∧ w ≤ 500000) 
    (k1 : ¬ (p : Int) < (m 4 4) → κ (some (zi 0)) m)
    (k2 : (p : Int) < (m 4 4) → ¬ (m 6 p) < 1 → (0 ≤ wr (((p : Int) * 26) + (Int.tmod w (m 6 p))) ∧ wr (((p : Int) * 26) + (Int.tmod w (m 6 p))) < 104))
    (k3 : (p : Int) < (m 4 4) → ¬ (m 6 p) < 1 → T (D + 2) 58 (0, [(0, zr 9), (1, zi h), (2, zi (m 5 ((wr (((p : Int) * 26) + (Int.tmod w (m 6 p)))).toNat))), (3, zi w), (4, zi (p : Int)), (5, zi i)], [], m) (fun r m1 => T (D + 3) 170 (34, [(0, zr 1), (1, zi h), (2, zi i), (3, zi (p : Int)), (4, zi w), (5, zi (m 5 ((wr (((p : Int) * 26) + (Int.tmod w (m 6 p)))).toNat)))], r.toList ++ [], m1) κ))
    (k4 : (p : Int) < (m 4 4) → (m 6 p) < 1 → κ (some (zi 0)) m) :
    T (D + 3) 170 (0, [(0, zr 1), (1, zi h), (2, zi i), (3, zi (p : Int)), (4, zi w)], [], m) κ := by
  have hb4 : 0 ≤ (m 4 4) ∧ (m 4 4) ≤ 4 := hB 4 4
  have hb5 : 0 ≤ (m 6 p) ∧ (m 6 p) ≤ 26 := hB 6 p
  have hb6 : (-2147483648) ≤ wr (((p : Int) * 26) + (Int.tmod w (m 6 p))) ∧ wr (((p : Int) * 26) + (Int.tmod w (m 6 p))) ≤ 2147483647 := wrB (((p : Int) * 26) + (Int.tmod w (m 6 p)))
  have hb7 : 0 ≤ (m 5 ((wr (((p : Int) * 26) + (Int.tmod w (m 6 p)))).toNat)) ∧ (m 5 ((wr (((p : Int) * 26) + (Int.tmod w (m 6 p)))).toNat)) ≤ 9 := hB 5 ((wr (((p : Int) * 26) + (Int.tmod w (m 6 p)))).toNat)
  have he0 : wr (p : Int) = (p : Int) := wr_id (by omega) (by omega)
  have he1 : wr (m 4 4) = (m 4 4) := wr_id (by omega) (by omega)
  have he2 : wr w = w := wr_id (by omega) (by omega)
  have he3 : (p : Int).toNat = p := by omega
  have he4 : wr (m 6 p) = (m 6 p) := wr_id (by omega) (by omega)
  have he5 : wr (m 5 ((wr (((p : Int) * 26) + (Int.tmod w (m 6 p)))).toNat)) = (m 5 ((wr (((p : Int) * 26) + (Int.tmod w (m 6 p)))).toNat)) := wr_id (by omega) (by omega)
  have key := @zb170_0br T hT D κ m h i p w
  simp only [he0, he1, he2, he3, he4, he5, Int.toNat_natCast] at key
  exact key
    (fun x0 => by omega)
    (fun x0 x1 => k1 x1)
    (fun x0 x1 x2 => by omega)
    (fun x0 x1 x2 => by refine ⟨?_, ?_⟩ <;> omega)
    (fun x0 x1 x2 x3 => by refine ⟨?_, ?_⟩ <;> omega)
    (fun x0 x1 x2 x3 => by omega)
    (fun x0 x1 x2 x3 => k2 x1 x3)
    (fun x0 x1 x2 x3 x4 => k3 x1 x3)
    (fun x0 x1 x2 x3 x4 => by omega)
    (fun x0 x1 x2 x3 => k4 x1 x3)
theorem zb170_34r (hT : zRules T) {D : Nat} {κ : Option zA → zM → Prop} {m : zM} {v : Int} {lo : zL} (hlo : z_keep [] lo = []) 
    (o1 : wr v < 99 → 0 < wr (wr v) → κ (some (zi (wr (wr (wr (wr v)))))) m)
    (o2 : wr v < 99 → ¬ 0 < wr (wr v) → κ (some (zi 0)) m)
    (o3 : ¬ wr v < 99 → κ (some (zi 99)) m) :
    T (D + 3) 170 (34, lo, [zi v], m) κ :=
  zkeep hT hlo (hT.1 [] 6 (D + 3) 170 _ κ (hT.1 [] 6 (D + 2) 166 _ _ (hT.1 [] 6 (D + 1) 294 _ _ (And.intro (fun a1 => (hT.1 [] 6 (D + 2) 166 _ _ (hT.1 [] 6 (D + 1) 295 _ _ (And.intro (fun a3 => (hT.1 [] 6 (D + 2) 166 _ _ (hT.1 [] 6 (D + 3) 170 _ _ (o1 a1 a3)))) (fun a4 => (hT.1 [] 6 (D + 2) 166 _ _ (hT.1 [] 6 (D + 3) 170 _ _ (o2 a1 a4)))))))) (fun a2 => (hT.1 [] 6 (D + 2) 166 _ _ (hT.1 [] 6 (D + 1) 295 _ _ (And.intro (fun _ => (hT.1 [] 6 (D + 2) 166 _ _ (hT.1 [] 6 (D + 3) 170 _ _ (o3 a2)))) (fun a5 => (a5 (z_litT rfl)).elim)))))))))
theorem zb170_34 (hT : zRules T) {D : Nat} {κ : Option zA → zM → Prop} {m : zM} {v : Int} {lo : zL} (hlo : z_keep [] lo = [])  (hB : zB m) 
    (k1 : wr v < 99 → 0 < wr v → κ (some (zi (wr v))) m)
    (k2 : wr v < 99 → ¬ 0 < wr v → κ (some (zi 0)) m)
    (k3 : ¬ wr v < 99 → κ (some (zi 99)) m) :
    T (D + 3) 170 (34, lo, [zi v], m) κ := by
  have hb0 : (-2147483648) ≤ wr v ∧ wr v ≤ 2147483647 := wrB v
  have he0 : wr (wr v) = wr v := wr_id (by omega) (by omega)
  have key := @zb170_34r T hT D κ m v lo hlo
  simp only [he0, Int.toNat_natCast] at key
  exact key
    k1
    k2
    k3
theorem zb213_0r (hT : zRules T) {D : Nat} {κ : Option zA → zM → Prop} {m : zM} {p : Nat} {w : Int} 
    (o1 : (0 ≤ wr (p : Int) ∧ wr (p : Int) < 4))
    (o2 : ¬ wr (m 77 ((wr (p : Int)).toNat)) = 0)
    (o3 : (0 ≤ wr ((26 * (p : Int)) + (Int.tmod (wr w) (wr (m 77 ((wr (p : Int)).toNat))))) ∧ wr ((26 * (p : Int)) + (Int.tmod (wr w) (wr (m 77 ((wr (p : Int)).toNat))))) < 104))
    (o4 : κ (some (zi (wr (m 76 ((wr ((26 * (p : Int)) + (Int.tmod (wr w) (wr (m 77 ((wr (p : Int)).toNat)))))).toNat))))) m) :
    T (D + 1) 213 (0, [(0, zr 74), (1, zi (p : Int)), (2, zi w)], [], m) κ :=
  hT.1 [] 6 (D + 1) 213 _ κ (hT.1 [] 6 (D + 1) 213 (9, [(0, zr 74), (1, zi (p : Int)), (2, zi w)], [zi w, zi (26 * (p : Int)), zr 76], m) _ (And.intro (o1) (And.intro (o2) (hT.1 [] 6 (D + 1) 213 (17, [(0, zr 74), (1, zi (p : Int)), (2, zi w)], [zi ((26 * (p : Int)) + (Int.tmod (wr w) (wr (m 77 ((wr (p : Int)).toNat))))), zr 76], m) _ (And.intro (o3) (o4))))))
theorem zb213_0 (hT : zRules T) {D : Nat} {κ : Option zA → zM → Prop} {m : zM} {p : Nat} {w : Int}  (hB : zB m) (h_p : p ≤ 3) (h_w : 0 ≤ w ∧ w ≤ 500000) (hf0 : 1 ≤ m 77 p ∧ m 77 p ≤ 26) 
    (k1 : κ (some (zi (m 76 (((26 * (p : Int)) + (Int.tmod w (m 77 p))).toNat)))) m) :
    T (D + 1) 213 (0, [(0, zr 74), (1, zi (p : Int)), (2, zi w)], [], m) κ := by
  have hb3 : 0 ≤ (Int.tmod w (m 77 p)) ∧ (Int.tmod w (m 77 p)) ≤ 25 := z_tmodB w (m 77 p) 25 (by omega) (by omega) (by omega)
  have hb4 : 0 ≤ (m 76 (((26 * (p : Int)) + (Int.tmod w (m 77 p))).toNat)) ∧ (m 76 (((26 * (p : Int)) + (Int.tmod w (m 77 p))).toNat)) ≤ 9 := hB 76 (((26 * (p : Int)) + (Int.tmod w (m 77 p))).toNat)
  have he0 : wr (p : Int) = (p : Int) := wr_id (by omega) (by omega)
  have he1 : (p : Int).toNat = p := by omega
  have he2 : wr w = w := wr_id (by omega) (by omega)
  have he3 : wr (m 77 p) = (m 77 p) := wr_id (by omega) (by omega)
  have he4 : wr ((26 * (p : Int)) + (Int.tmod w (m 77 p))) = ((26 * (p : Int)) + (Int.tmod w (m 77 p))) := wr_id (by omega) (by omega)
  have he5 : wr (m 76 (((26 * (p : Int)) + (Int.tmod w (m 77 p))).toNat)) = (m 76 (((26 * (p : Int)) + (Int.tmod w (m 77 p))).toNat)) := wr_id (by omega) (by omega)
  have key := @zb213_0r T hT D κ m p w
  simp only [he0, he1, he2, he3, he4, he5, Int.toNat_natCast] at key
  exact key
    (by refine ⟨?_, ?_⟩ <;> omega)
    (by omega)
    (by refine ⟨?_, ?_⟩ <;> omega)
    k1
theorem zb214_0ar (hT : zRules T) {D : Nat} {κ : Option zA → zM → Prop} {m : zM} {i : Int} {h : Int} {p : Nat} {w : Int} 
    (o1 : wr (p : Int) < wr (m 74 1) → ¬ wr (m 74 25) = 0 → T (D + 1) 208 (0, [(0, zr 74), (1, zi 0)], [], (zu (zu (zu (zu (zu (zu (zu (zu (zu (zu m 74 13 86) 74 14 (m 74 25)) 74 15 40) 74 16 0) 74 17 (-1)) 74 26 1) 74 27 i) 74 28 h) 74 29 (p : Int)) 74 30 w)) (fun r m1 => T (D + 2) 214 (79, [(0, zr 74), (1, zi i), (2, zi h), (3, zi (p : Int)), (4, zi w)], r.toList ++ [], m1) κ))
    (o2 : wr (p : Int) < wr (m 74 1) → wr (m 74 25) = 0 → (0 ≤ wr (p : Int) ∧ wr (p : Int) < 4))
    (o3 : wr (p : Int) < wr (m 74 1) → wr (m 74 25) = 0 → ¬ wr (m 77 ((wr (p : Int)).toNat)) = 0)
    (o4 : wr (p : Int) < wr (m 74 1) → wr (m 74 25) = 0 → (0 ≤ wr ((26 * (p : Int)) + (Int.tmod (wr w) (wr (m 77 ((wr (p : Int)).toNat))))) ∧ wr ((26 * (p : Int)) + (Int.tmod (wr w) (wr (m 77 ((wr (p : Int)).toNat))))) < 104))
    (o5 : wr (p : Int) < wr (m 74 1) → wr (m 74 25) = 0 → wr (Int.tdiv (wr (h * wr (m 76 ((wr ((26 * (p : Int)) + (Int.tmod (wr w) (wr (m 77 ((wr (p : Int)).toNat)))))).toNat)))) 10) < 99 → 0 < wr (wr (Int.tdiv (wr (h * wr (m 76 ((wr ((26 * (p : Int)) + (Int.tmod (wr w) (wr (m 77 ((wr (p : Int)).toNat)))))).toNat)))) 10)) → κ (some (zi (wr (wr (wr (Int.tdiv (wr (h * wr (m 76 ((wr ((26 * (p : Int)) + (Int.tmod (wr w) (wr (m 77 ((wr (p : Int)).toNat)))))).toNat)))) 10)))))) m)
    (o6 : wr (p : Int) < wr (m 74 1) → wr (m 74 25) = 0 → wr (Int.tdiv (wr (h * wr (m 76 ((wr ((26 * (p : Int)) + (Int.tmod (wr w) (wr (m 77 ((wr (p : Int)).toNat)))))).toNat)))) 10) < 99 → ¬ 0 < wr (wr (Int.tdiv (wr (h * wr (m 76 ((wr ((26 * (p : Int)) + (Int.tmod (wr w) (wr (m 77 ((wr (p : Int)).toNat)))))).toNat)))) 10)) → κ (some (zi 0)) m)
    (o7 : wr (p : Int) < wr (m 74 1) → wr (m 74 25) = 0 → ¬ wr (Int.tdiv (wr (h * wr (m 76 ((wr ((26 * (p : Int)) + (Int.tmod (wr w) (wr (m 77 ((wr (p : Int)).toNat)))))).toNat)))) 10) < 99 → κ (some (zi 99)) m)
    (o8 : ¬ wr (p : Int) < wr (m 74 1) → κ (some (zi 0)) m) :
    T (D + 2) 214 (0, [(0, zr 74), (1, zi i), (2, zi h), (3, zi (p : Int)), (4, zi w)], [], m) κ :=
  hT.1 [] 6 (D + 2) 214 _ κ (And.intro (fun a1 => (hT.1 [] 6 (D + 2) 214 (14, [(0, zr 74), (1, zi i), (2, zi h), (3, zi (p : Int)), (4, zi w)], [zi (m 74 25)], m) _ (And.intro (fun a3 => (hT.1 [] 6 (D + 2) 214 (43, [(0, zr 74), (1, zi i), (2, zi h), (3, zi (p : Int)), (4, zi w)], [zi (m 74 25), zr 86, zr 74], m) _ (hT.1 [] 6 (D + 1) 197 _ _ (And.intro trivial (hT.1 [] 6 (D + 1) 197 (10, [(0, zr 74), (1, zr 86), (2, zi (m 74 25)), (3, zi 40)], [], (zu (zu m 74 13 86) 74 14 (m 74 25))) _ (And.intro trivial (And.intro trivial (hT.1 [] 6 (D + 1) 197 (20, [(0, zr 74), (1, zr 86), (2, zi (m 74 25)), (3, zi 40)], [], (zu (zu (zu (zu m 74 13 86) 74 14 (m 74 25)) 74 15 40) 74 16 0)) _ (And.intro trivial (hT.1 [] 6 (D + 2) 214 _ _ (And.intro (z_b01L rfl) (And.intro trivial (hT.1 [] 6 (D + 2) 214 (58, [(0, zr 74), (1, zi i), (2, zi h), (3, zi (p : Int)), (4, zi w)], [], (zu (zu (zu (zu (zu (zu (zu m 74 13 86) 74 14 (m 74 25)) 74 15 40) 74 16 0) 74 17 (-1)) 74 26 1) 74 27 i)) _ (And.intro trivial (And.intro trivial (hT.1 [] 6 (D + 2) 214 (68, [(0, zr 74), (1, zi i), (2, zi h), (3, zi (p : Int)), (4, zi w)], [], (zu (zu (zu (zu (zu (zu (zu (zu (zu m 74 13 86) 74 14 (m 74 25)) 74 15 40) 74 16 0) 74 17 (-1)) 74 26 1) 74 27 i) 74 28 h) 74 29 (p : Int))) _ (And.intro trivial (o1 a1 a3)))))))))))))))))) (fun a4 => (hT.1 [] 6 (D + 1) 213 _ _ (hT.1 [] 6 (D + 1) 213 (9, [(0, zr 74), (1, zi (p : Int)), (2, zi w)], [zi w, zi (26 * (p : Int)), zr 76], m) _ (And.intro (o2 a1 (Classical.byContradiction a4)) (And.intro (o3 a1 (Classical.byContradiction a4)) (hT.1 [] 6 (D + 1) 213 (17, [(0, zr 74), (1, zi (p : Int)), (2, zi w)], [zi ((26 * (p : Int)) + (Int.tmod (wr w) (wr (m 77 ((wr (p : Int)).toNat))))), zr 76], m) _ (And.intro (o4 a1 (Classical.byContradiction a4)) (hT.1 [] 6 (D + 2) 214 _ _ (And.intro (z_neL rfl) (hT.1 [] 6 (D + 2) 214 (87, [(0, zr 74), (1, zi i), (2, zi h), (3, zi (p : Int)), (4, zi w), (5, zi (Int.tdiv (wr (h * wr (m 76 ((wr ((26 * (p : Int)) + (Int.tmod (wr w) (wr (m 77 ((wr (p : Int)).toNat)))))).toNat)))) 10))], [zi 0], m) _ (hT.1 [] 6 (D + 1) 294 _ _ (And.intro (fun a5 => (hT.1 [] 6 (D + 2) 214 _ _ (hT.1 [] 6 (D + 1) 295 _ _ (And.intro (fun a7 => (hT.1 [] 6 (D + 2) 214 _ _ (o5 a1 (Classical.byContradiction a4) a5 a7))) (fun a8 => (hT.1 [] 6 (D + 2) 214 _ _ (o6 a1 (Classical.byContradiction a4) a5 a8))))))) (fun a6 => (hT.1 [] 6 (D + 2) 214 _ _ (hT.1 [] 6 (D + 1) 295 _ _ (And.intro (fun _ => (hT.1 [] 6 (D + 2) 214 _ _ (o7 a1 (Classical.byContradiction a4) a6))) (fun a9 => (a9 (z_litT rfl)).elim)))))))))))))))))))) (fun a2 => (o8 a2)))
theorem zb214_0a (hT : zRules T) {D : Nat} {κ : Option zA → zM → Prop} {m : zM} {i : Int} {h : Int} {p : Nat} {w : Int}  (hB : zB m) (h_i : 0 ≤ i ∧ i ≤ 5) (h_h : 0 ≤ h ∧ h ≤ 99) (h_p : p ≤ 3) (h_w : 0 ≤ w ∧ w ≤ 500000) (hf0 : 1 ≤ m 77 p ∧ m 77 p ≤ 26) 
    (k1 : (p : Int) < (m 74 1) → ¬ (m 74 25) = 0 → zB (zu (zu (zu (zu (zu (zu (zu (zu (zu (zu m 74 13 86) 74 14 (m 74 25)) 74 15 40) 74 16 0) 74 17 (-1)) 74 26 1) 74 27 i) 74 28 h) 74 29 (p : Int)) 74 30 w) → T (D + 1) 208 (0, [(0, zr 74), (1, zi 0)], [], (zu (zu (zu (zu (zu (zu (zu (zu (zu (zu m 74 13 86) 74 14 (m 74 25)) 74 15 40) 74 16 0) 74 17 (-1)) 74 26 1) 74 27 i) 74 28 h) 74 29 (p : Int)) 74 30 w)) (fun r m1 => T (D + 2) 214 (79, [(0, zr 74), (1, zi i), (2, zi h), (3, zi (p : Int)), (4, zi w)], r.toList ++ [], m1) κ))
    (k2 : (p : Int) < (m 74 1) → (m 74 25) = 0 → (Int.tdiv (h * (m 76 (((26 * (p : Int)) + (Int.tmod w (m 77 p))).toNat))) 10) < 99 → 0 < (Int.tdiv (h * (m 76 (((26 * (p : Int)) + (Int.tmod w (m 77 p))).toNat))) 10) → κ (some (zi (Int.tdiv (h * (m 76 (((26 * (p : Int)) + (Int.tmod w (m 77 p))).toNat))) 10))) m)
    (k3 : (p : Int) < (m 74 1) → (m 74 25) = 0 → (Int.tdiv (h * (m 76 (((26 * (p : Int)) + (Int.tmod w (m 77 p))).toNat))) 10) < 99 → ¬ 0 < (Int.tdiv (h * (m 76 (((26 * (p : Int)) + (Int.tmod w (m 77 p))).toNat))) 10) → κ (some (zi 0)) m)
    (k4 : (p : Int) < (m 74 1) → (m 74 25) = 0 → ¬ (Int.tdiv (h * (m 76 (((26 * (p : Int)) + (Int.tmod w (m 77 p))).toNat))) 10) < 99 → κ (some (zi 99)) m)
    (k5 : ¬ (p : Int) < (m 74 1) → κ (some (zi 0)) m) :
    T (D + 2) 214 (0, [(0, zr 74), (1, zi i), (2, zi h), (3, zi (p : Int)), (4, zi w)], [], m) κ := by
  have hb5 : 0 ≤ (m 74 1) ∧ (m 74 1) ≤ 4 := hB 74 1
  have hb6 : 0 ≤ (m 74 25) ∧ (m 74 25) ≤ 40 := hB 74 25
  have hb7 : 0 ≤ (Int.tmod w (m 77 p)) ∧ (Int.tmod w (m 77 p)) ≤ 25 := z_tmodB w (m 77 p) 25 (by omega) (by omega) (by omega)
  have hb8 : 0 ≤ (m 76 (((26 * (p : Int)) + (Int.tmod w (m 77 p))).toNat)) ∧ (m 76 (((26 * (p : Int)) + (Int.tmod w (m 77 p))).toNat)) ≤ 9 := hB 76 (((26 * (p : Int)) + (Int.tmod w (m 77 p))).toNat)
  have hb9 : 0 ≤ (h * (m 76 (((26 * (p : Int)) + (Int.tmod w (m 77 p))).toNat))) ∧ (h * (m 76 (((26 * (p : Int)) + (Int.tmod w (m 77 p))).toNat))) ≤ 891 := z_mulB h (m 76 (((26 * (p : Int)) + (Int.tmod w (m 77 p))).toNat)) 99 9 891 (by omega) (by omega) (by omega) (by omega) rfl
  have hb10 : 0 ≤ (Int.tdiv (h * (m 76 (((26 * (p : Int)) + (Int.tmod w (m 77 p))).toNat))) 10) ∧ (Int.tdiv (h * (m 76 (((26 * (p : Int)) + (Int.tmod w (m 77 p))).toNat))) 10) ≤ 891 := z_tdivB (h * (m 76 (((26 * (p : Int)) + (Int.tmod w (m 77 p))).toNat))) 10 891 (by omega) (by omega) (by omega)
  have he0 : wr (p : Int) = (p : Int) := wr_id (by omega) (by omega)
  have he1 : wr (m 74 1) = (m 74 1) := wr_id (by omega) (by omega)
  have he2 : wr (m 74 25) = (m 74 25) := wr_id (by omega) (by omega)
  have he3 : (p : Int).toNat = p := by omega
  have he4 : wr w = w := wr_id (by omega) (by omega)
  have he5 : wr (m 77 p) = (m 77 p) := wr_id (by omega) (by omega)
  have he6 : wr ((26 * (p : Int)) + (Int.tmod w (m 77 p))) = ((26 * (p : Int)) + (Int.tmod w (m 77 p))) := wr_id (by omega) (by omega)
  have he7 : wr (m 76 (((26 * (p : Int)) + (Int.tmod w (m 77 p))).toNat)) = (m 76 (((26 * (p : Int)) + (Int.tmod w (m 77 p))).toNat)) := wr_id (by omega) (by omega)
  have he8 : wr (h * (m 76 (((26 * (p : Int)) + (Int.tmod w (m 77 p))).toNat))) = (h * (m 76 (((26 * (p : Int)) + (Int.tmod w (m 77 p))).toNat))) := wr_id (by omega) (by omega)
  have he9 : wr (Int.tdiv (h * (m 76 (((26 * (p : Int)) + (Int.tmod w (m 77 p))).toNat))) 10) = (Int.tdiv (h * (m 76 (((26 * (p : Int)) + (Int.tmod w (m 77 p))).toNat))) 10) := wr_id (by omega) (by omega)
  have key := @zb214_0ar T hT D κ m i h p w
  simp only [he0, he1, he2, he3, he4, he5, he6, he7, he8, he9, Int.toNat_natCast] at key
  exact key
    (fun x0 x1 => k1 x0 x1 (zB_u (zB_u (zB_u (zB_u (zB_u (zB_u (zB_u (zB_u (zB_u (zB_u hB trivial) (show 0 ≤ (m 74 25) ∧ (m 74 25) ≤ 80 from ⟨by omega, by omega⟩)) (show 0 ≤ 40 ∧ 40 ≤ 80 from ⟨by omega, by omega⟩)) (show 0 ≤ 0 ∧ 0 ≤ 100 from ⟨by omega, by omega⟩)) trivial) (show 0 ≤ 1 ∧ 1 ≤ 1 from ⟨by omega, by omega⟩)) trivial) trivial) trivial) trivial))
    (fun x0 x1 => by refine ⟨?_, ?_⟩ <;> omega)
    (fun x0 x1 => by omega)
    (fun x0 x1 => by refine ⟨?_, ?_⟩ <;> omega)
    k2
    k3
    k4
    k5
theorem zb214_0br (hT : zRules T) {D : Nat} {κ : Option zA → zM → Prop} {m : zM} {i : Int} {h : Int} {p : Nat} {w : Int} 
    (o1 : wr (p : Int) < wr (m 74 1) → ¬ wr (m 74 25) = 0 → T (D + 1) 208 (0, [(0, zr 74), (1, zi 0)], [], (zu (zu (zu (zu (zu (zu (zu (zu (zu (zu m 74 13 86) 74 14 (m 74 25)) 74 15 40) 74 16 0) 74 17 (-1)) 74 26 1) 74 27 i) 74 28 h) 74 29 (p : Int)) 74 30 w)) (fun r m1 => T (D + 2) 214 (79, [(0, zr 74), (1, zi i), (2, zi h), (3, zi (p : Int)), (4, zi w)], r.toList ++ [], m1) κ))
    (o2 : wr (p : Int) < wr (m 74 1) → wr (m 74 25) = 0 → (0 ≤ wr (p : Int) ∧ wr (p : Int) < 4))
    (o3 : wr (p : Int) < wr (m 74 1) → wr (m 74 25) = 0 → ¬ wr (m 77 ((wr (p : Int)).toNat)) = 0)
    (o4 : wr (p : Int) < wr (m 74 1) → wr (m 74 25) = 0 → (0 ≤ wr ((26 * (p : Int)) + (Int.tmod (wr w) (wr (m 77 ((wr (p : Int)).toNat))))) ∧ wr ((26 * (p : Int)) + (Int.tmod (wr w) (wr (m 77 ((wr (p : Int)).toNat))))) < 104))
    (o5 : wr (p : Int) < wr (m 74 1) → wr (m 74 25) = 0 → wr (Int.tdiv (wr (h * wr (m 76 ((wr ((26 * (p : Int)) + (Int.tmod (wr w) (wr (m 77 ((wr (p : Int)).toNat)))))).toNat)))) 10) < 99 → 0 < wr (wr (Int.tdiv (wr (h * wr (m 76 ((wr ((26 * (p : Int)) + (Int.tmod (wr w) (wr (m 77 ((wr (p : Int)).toNat)))))).toNat)))) 10)) → κ (some (zi (wr (wr (wr (Int.tdiv (wr (h * wr (m 76 ((wr ((26 * (p : Int)) + (Int.tmod (wr w) (wr (m 77 ((wr (p : Int)).toNat)))))).toNat)))) 10)))))) m)
    (o6 : wr (p : Int) < wr (m 74 1) → wr (m 74 25) = 0 → wr (Int.tdiv (wr (h * wr (m 76 ((wr ((26 * (p : Int)) + (Int.tmod (wr w) (wr (m 77 ((wr (p : Int)).toNat)))))).toNat)))) 10) < 99 → ¬ 0 < wr (wr (Int.tdiv (wr (h * wr (m 76 ((wr ((26 * (p : Int)) + (Int.tmod (wr w) (wr (m 77 ((wr (p : Int)).toNat)))))).toNat)))) 10)) → κ (some (zi 0)) m)
    (o7 : wr (p : Int) < wr (m 74 1) → wr (m 74 25) = 0 → ¬ wr (Int.tdiv (wr (h * wr (m 76 ((wr ((26 * (p : Int)) + (Int.tmod (wr w) (wr (m 77 ((wr (p : Int)).toNat)))))).toNat)))) 10) < 99 → κ (some (zi 99)) m)
    (o8 : ¬ wr (p : Int) < wr (m 74 1) → κ (some (zi 0)) m) :
    T (D + 2) 214 (0, [(0, zr 74), (1, zi i), (2, zi h), (3, zi (p : Int)), (4, zi w)], [], m) κ :=
  hT.1 [] 6 (D + 2) 214 _ κ (And.intro (fun a1 => (hT.1 [] 6 (D + 2) 214 (14, [(0, zr 74), (1, zi i), (2, zi h), (3, zi (p : Int)), (4, zi w)], [zi (m 74 25)], m) _ (And.intro (fun a3 => (hT.1 [] 6 (D + 2) 214 (43, [(0, zr 74), (1, zi i), (2, zi h), (3, zi (p : Int)), (4, zi w)], [zi (m 74 25), zr 86, zr 74], m) _ (hT.1 [] 6 (D + 1) 197 _ _ (And.intro trivial (hT.1 [] 6 (D + 1) 197 (10, [(0, zr 74), (1, zr 86), (2, zi (m 74 25)), (3, zi 40)], [], (zu (zu m 74 13 86) 74 14 (m 74 25))) _ (And.intro trivial (And.intro trivial (hT.1 [] 6 (D + 1) 197 (20, [(0, zr 74), (1, zr 86), (2, zi (m 74 25)), (3, zi 40)], [], (zu (zu (zu (zu m 74 13 86) 74 14 (m 74 25)) 74 15 40) 74 16 0)) _ (And.intro trivial (hT.1 [] 6 (D + 2) 214 _ _ (And.intro (z_b01L rfl) (And.intro trivial (hT.1 [] 6 (D + 2) 214 (58, [(0, zr 74), (1, zi i), (2, zi h), (3, zi (p : Int)), (4, zi w)], [], (zu (zu (zu (zu (zu (zu (zu m 74 13 86) 74 14 (m 74 25)) 74 15 40) 74 16 0) 74 17 (-1)) 74 26 1) 74 27 i)) _ (And.intro trivial (And.intro trivial (hT.1 [] 6 (D + 2) 214 (68, [(0, zr 74), (1, zi i), (2, zi h), (3, zi (p : Int)), (4, zi w)], [], (zu (zu (zu (zu (zu (zu (zu (zu (zu m 74 13 86) 74 14 (m 74 25)) 74 15 40) 74 16 0) 74 17 (-1)) 74 26 1) 74 27 i) 74 28 h) 74 29 (p : Int))) _ (And.intro trivial (o1 a1 a3)))))))))))))))))) (fun a4 => (hT.1 [] 6 (D + 1) 213 _ _ (hT.1 [] 6 (D + 1) 213 (9, [(0, zr 74), (1, zi (p : Int)), (2, zi w)], [zi w, zi (26 * (p : Int)), zr 76], m) _ (And.intro (o2 a1 (Classical.byContradiction a4)) (And.intro (o3 a1 (Classical.byContradiction a4)) (hT.1 [] 6 (D + 1) 213 (17, [(0, zr 74), (1, zi (p : Int)), (2, zi w)], [zi ((26 * (p : Int)) + (Int.tmod (wr w) (wr (m 77 ((wr (p : Int)).toNat))))), zr 76], m) _ (And.intro (o4 a1 (Classical.byContradiction a4)) (hT.1 [] 6 (D + 2) 214 _ _ (And.intro (z_neL rfl) (hT.1 [] 6 (D + 2) 214 (87, [(0, zr 74), (1, zi i), (2, zi h), (3, zi (p : Int)), (4, zi w), (5, zi (Int.tdiv (wr (h * wr (m 76 ((wr ((26 * (p : Int)) + (Int.tmod (wr w) (wr (m 77 ((wr (p : Int)).toNat)))))).toNat)))) 10))], [zi 0], m) _ (hT.1 [] 6 (D + 1) 294 _ _ (And.intro (fun a5 => (hT.1 [] 6 (D + 2) 214 _ _ (hT.1 [] 6 (D + 1) 295 _ _ (And.intro (fun a7 => (hT.1 [] 6 (D + 2) 214 _ _ (o5 a1 (Classical.byContradiction a4) a5 a7))) (fun a8 => (hT.1 [] 6 (D + 2) 214 _ _ (o6 a1 (Classical.byContradiction a4) a5 a8))))))) (fun a6 => (hT.1 [] 6 (D + 2) 214 _ _ (hT.1 [] 6 (D + 1) 295 _ _ (And.intro (fun _ => (hT.1 [] 6 (D + 2) 214 _ _ (o7 a1 (Classical.byContradiction a4) a6))) (fun a9 => (a9 (z_litT rfl)).elim)))))))))))))))))))) (fun a2 => (o8 a2)))
theorem zb214_0b (hT : zRules T) {D : Nat} {κ : Option zA → zM → Prop} {m : zM} {i : Int} {h : Int} {p : Nat} {w : Int}  (hB : zB m) (h_i : 0 ≤ i ∧ i ≤ 5) (h_h : 0 ≤ h ∧ h ≤ 99) (h_p : p ≤ 3) (h_w : 0 ≤ w ∧ w ≤ 500000) 
    (k1 : (p : Int) < (m 74 1) → ¬ (m 74 25) = 0 → zB (zu (zu (zu (zu (zu (zu (zu (zu (zu (zu m 74 13 86) 74 14 (m 74 25)) 74 15 40) 74 16 0) 74 17 (-1)) 74 26 1) 74 27 i) 74 28 h) 74 29 (p : Int)) 74 30 w) → T (D + 1) 208 (0, [(0, zr 74), (1, zi 0)], [], (zu (zu (zu (zu (zu (zu (zu (zu (zu (zu m 74 13 86) 74 14 (m 74 25)) 74 15 40) 74 16 0) 74 17 (-1)) 74 26 1) 74 27 i) 74 28 h) 74 29 (p : Int)) 74 30 w)) (fun r m1 => T (D + 2) 214 (79, [(0, zr 74), (1, zi i), (2, zi h), (3, zi (p : Int)), (4, zi w)], r.toList ++ [], m1) κ))
    (k2 : (p : Int) < (m 74 1) → (m 74 25) = 0 → ¬ (m 77 p) = 0)
    (k3 : (p : Int) < (m 74 1) → (m 74 25) = 0 → (0 ≤ wr ((26 * (p : Int)) + (Int.tmod w (m 77 p))) ∧ wr ((26 * (p : Int)) + (Int.tmod w (m 77 p))) < 104))
    (k4 : (p : Int) < (m 74 1) → (m 74 25) = 0 → (Int.tdiv (h * (m 76 ((wr ((26 * (p : Int)) + (Int.tmod w (m 77 p)))).toNat))) 10) < 99 → 0 < (Int.tdiv (h * (m 76 ((wr ((26 * (p : Int)) + (Int.tmod w (m 77 p)))).toNat))) 10) → κ (some (zi (Int.tdiv (h * (m 76 ((wr ((26 * (p : Int)) + (Int.tmod w (m 77 p)))).toNat))) 10))) m)
    (k5 : (p : Int) < (m 74 1) → (m 74 25) = 0 → (Int.tdiv (h * (m 76 ((wr ((26 * (p : Int)) + (Int.tmod w (m 77 p)))).toNat))) 10) < 99 → ¬ 0 < (Int.tdiv (h * (m 76 ((wr ((26 * (p : Int)) + (Int.tmod w (m 77 p)))).toNat))) 10) → κ (some (zi 0)) m)
    (k6 : (p : Int) < (m 74 1) → (m 74 25) = 0 → ¬ (Int.tdiv (h * (m 76 ((wr ((26 * (p : Int)) + (Int.tmod w (m 77 p)))).toNat))) 10) < 99 → κ (some (zi 99)) m)
    (k7 : ¬ (p : Int) < (m 74 1) → κ (some (zi 0)) m) :
    T (D + 2) 214 (0, [(0, zr 74), (1, zi i), (2, zi h), (3, zi (p : Int)), (4, zi w)], [], m) κ := by
  have hb4 : 0 ≤ (m 74 1) ∧ (m 74 1) ≤ 4 := hB 74 1
  have hb5 : 0 ≤ (m 74 25) ∧ (m 74 25) ≤ 40 := hB 74 25
  have hb6 : 0 ≤ (m 77 p) ∧ (m 77 p) ≤ 26 := hB 77 p
  have hb7 : (-2147483648) ≤ wr ((26 * (p : Int)) + (Int.tmod w (m 77 p))) ∧ wr ((26 * (p : Int)) + (Int.tmod w (m 77 p))) ≤ 2147483647 := wrB ((26 * (p : Int)) + (Int.tmod w (m 77 p)))
  have hb8 : 0 ≤ (m 76 ((wr ((26 * (p : Int)) + (Int.tmod w (m 77 p)))).toNat)) ∧ (m 76 ((wr ((26 * (p : Int)) + (Int.tmod w (m 77 p)))).toNat)) ≤ 9 := hB 76 ((wr ((26 * (p : Int)) + (Int.tmod w (m 77 p)))).toNat)
  have hb9 : 0 ≤ (h * (m 76 ((wr ((26 * (p : Int)) + (Int.tmod w (m 77 p)))).toNat))) ∧ (h * (m 76 ((wr ((26 * (p : Int)) + (Int.tmod w (m 77 p)))).toNat))) ≤ 891 := z_mulB h (m 76 ((wr ((26 * (p : Int)) + (Int.tmod w (m 77 p)))).toNat)) 99 9 891 (by omega) (by omega) (by omega) (by omega) rfl
  have hb10 : 0 ≤ (Int.tdiv (h * (m 76 ((wr ((26 * (p : Int)) + (Int.tmod w (m 77 p)))).toNat))) 10) ∧ (Int.tdiv (h * (m 76 ((wr ((26 * (p : Int)) + (Int.tmod w (m 77 p)))).toNat))) 10) ≤ 891 := z_tdivB (h * (m 76 ((wr ((26 * (p : Int)) + (Int.tmod w (m 77 p)))).toNat))) 10 891 (by omega) (by omega) (by omega)
  have he0 : wr (p : Int) = (p : Int) := wr_id (by omega) (by omega)
  have he1 : wr (m 74 1) = (m 74 1) := wr_id (by omega) (by omega)
  have he2 : wr (m 74 25) = (m 74 25) := wr_id (by omega) (by omega)
  have he3 : (p : Int).toNat = p := by omega
  have he4 : wr w = w := wr_id (by omega) (by omega)
  have he5 : wr (m 77 p) = (m 77 p) := wr_id (by omega) (by omega)
  have he6 : wr (m 76 ((wr ((26 * (p : Int)) + (Int.tmod w (m 77 p)))).toNat)) = (m 76 ((wr ((26 * (p : Int)) + (Int.tmod w (m 77 p)))).toNat)) := wr_id (by omega) (by omega)
  have he7 : wr (h * (m 76 ((wr ((26 * (p : Int)) + (Int.tmod w (m 77 p)))).toNat))) = (h * (m 76 ((wr ((26 * (p : Int)) + (Int.tmod w (m 77 p)))).toNat))) := wr_id (by omega) (by omega)
  have he8 : wr (Int.tdiv (h * (m 76 ((wr ((26 * (p : Int)) + (Int.tmod w (m 77 p)))).toNat))) 10) = (Int.tdiv (h * (m 76 ((wr ((26 * (p : Int)) + (Int.tmod w (m 77 p)))).toNat))) 10) := wr_id (by omega) (by omega)
  have key := @zb214_0br T hT D κ m i h p w
  simp only [he0, he1, he2, he3, he4, he5, he6, he7, he8, Int.toNat_natCast] at key
  exact key
    (fun x0 x1 => k1 x0 x1 (zB_u (zB_u (zB_u (zB_u (zB_u (zB_u (zB_u (zB_u (zB_u (zB_u hB trivial) (show 0 ≤ (m 74 25) ∧ (m 74 25) ≤ 80 from ⟨by omega, by omega⟩)) (show 0 ≤ 40 ∧ 40 ≤ 80 from ⟨by omega, by omega⟩)) (show 0 ≤ 0 ∧ 0 ≤ 100 from ⟨by omega, by omega⟩)) trivial) (show 0 ≤ 1 ∧ 1 ≤ 1 from ⟨by omega, by omega⟩)) trivial) trivial) trivial) trivial))
    (fun x0 x1 => by refine ⟨?_, ?_⟩ <;> omega)
    k2
    k3
    k4
    k5
    k6
    k7
theorem zb214_79r (hT : zRules T) {D : Nat} {κ : Option zA → zM → Prop} {m : zM} {v : Int} {lo : zL} (hlo : z_keep [0] lo = [(0, zr 74)]) 
    (o1 : wr v < 99 → 0 < wr (wr v) → κ (some (zi (wr (wr (wr v))))) (zu m 74 26 0))
    (o2 : wr v < 99 → ¬ 0 < wr (wr v) → κ (some (zi 0)) (zu m 74 26 0))
    (o3 : ¬ wr v < 99 → κ (some (zi 99)) (zu m 74 26 0)) :
    T (D + 2) 214 (79, lo, [zi v], m) κ :=
  zkeep hT hlo (hT.1 [] 6 (D + 2) 214 _ κ (And.intro (z_b01L rfl) (hT.1 [] 6 (D + 2) 214 (89, [(0, zr 74), (5, zi v)], [zi 99, zi 0], (zu m 74 26 0)) _ (hT.1 [] 6 (D + 1) 294 _ _ (And.intro (fun a1 => (hT.1 [] 6 (D + 2) 214 _ _ (hT.1 [] 6 (D + 1) 295 _ _ (And.intro (fun a3 => (hT.1 [] 6 (D + 2) 214 _ _ (o1 a1 a3))) (fun a4 => (hT.1 [] 6 (D + 2) 214 _ _ (o2 a1 a4))))))) (fun a2 => (hT.1 [] 6 (D + 2) 214 _ _ (hT.1 [] 6 (D + 1) 295 _ _ (And.intro (fun _ => (hT.1 [] 6 (D + 2) 214 _ _ (o3 a2))) (fun a5 => (a5 (z_litT rfl)).elim))))))))))
theorem zb214_79 (hT : zRules T) {D : Nat} {κ : Option zA → zM → Prop} {m : zM} {v : Int} {lo : zL} (hlo : z_keep [0] lo = [(0, zr 74)])  (hB : zB m) 
    (k1 : wr v < 99 → 0 < wr v → zB (zu m 74 26 0) → κ (some (zi (wr v))) (zu m 74 26 0))
    (k2 : wr v < 99 → ¬ 0 < wr v → zB (zu m 74 26 0) → κ (some (zi 0)) (zu m 74 26 0))
    (k3 : ¬ wr v < 99 → zB (zu m 74 26 0) → κ (some (zi 99)) (zu m 74 26 0)) :
    T (D + 2) 214 (79, lo, [zi v], m) κ := by
  have hb0 : (-2147483648) ≤ wr v ∧ wr v ≤ 2147483647 := wrB v
  have he0 : wr (wr v) = wr v := wr_id (by omega) (by omega)
  have key := @zb214_79r T hT D κ m v lo hlo
  simp only [he0, Int.toNat_natCast] at key
  exact key
    (fun x0 x1 => k1 x0 x1 (zB_u hB (show 0 ≤ 0 ∧ 0 ≤ 1 from ⟨by omega, by omega⟩)))
    (fun x0 x1 => k2 x0 x1 (zB_u hB (show 0 ≤ 0 ∧ 0 ≤ 1 from ⟨by omega, by omega⟩)))
    (fun x0 => k3 x0 (zB_u hB (show 0 ≤ 0 ∧ 0 ≤ 1 from ⟨by omega, by omega⟩)))
theorem zb198_0_80r (hT : zRules T) {D : Nat} {κ : Option zA → zM → Prop} {m : zM} 
    (o1 : ¬ wr (m 74 16) < wr (m 74 14) → κ (some (zi (-1))) m)
    (o2 : wr (m 74 16) < wr (m 74 14) → ¬ wr (m 74 16) < wr (m 74 15) → κ (some (zi (-1))) m)
    (o3 : wr (m 74 16) < wr (m 74 14) → wr (m 74 16) < wr (m 74 15) → (m 74 13) = 80)
    (o4 : wr (m 74 16) < wr (m 74 14) → wr (m 74 16) < wr (m 74 15) → (0 ≤ wr (m 74 16) ∧ wr (m 74 16) < 80))
    (o5 : wr (m 74 16) < wr (m 74 14) → wr (m 74 16) < wr (m 74 15) → κ (some (zi (wr (z_and (m 80 ((wr (m 74 16)).toNat)) 255)))) m) :
    T D 198 (0, [(0, zr 74)], [], m) κ :=
  hT.1 [] 6 D 198 _ κ (And.intro (fun a1 => (hT.1 [] 6 D 198 (39, [(0, zr 74)], [zi (-1)], m) _ (o1 a1))) (fun a2 => (hT.1 [] 6 D 198 (12, [(0, zr 74)], [zr 74], m) _ (And.intro (fun a3 => (o2 (Classical.byContradiction a2) a3)) (fun a4 => (And.intro (Or.inl (o3 (Classical.byContradiction a2) (Classical.byContradiction a4))) (And.intro (fun _ => (hT.1 [] 6 D 198 (26, [(0, zr 74)], [zr 80], m) _ (And.intro (o4 (Classical.byContradiction a2) (Classical.byContradiction a4)) (hT.1 [] 6 D 198 (39, [(0, zr 74)], [zi (z_and (m 80 ((wr (m 74 16)).toNat)) 255)], m) _ (o5 (Classical.byContradiction a2) (Classical.byContradiction a4)))))) (fun a5 => (z_n8086 (o3 (Classical.byContradiction a2) (Classical.byContradiction a4)) a5).elim))))))))
theorem zb198_0_80 (hT : zRules T) {D : Nat} {κ : Option zA → zM → Prop} {m : zM}  (hrd : m 74 13 = 80) (hf0 : 0 ≤ m 74 16 ∧ m 74 16 ≤ 1000) (hf1 : 0 ≤ m 74 14 ∧ m 74 14 ≤ 80) (hf2 : 0 ≤ m 74 15 ∧ m 74 15 ≤ 80) 
    (k1 : ¬ (m 74 16) < (m 74 14) → κ (some (zi (-1))) m)
    (k2 : (m 74 16) < (m 74 14) → ¬ (m 74 16) < (m 74 15) → κ (some (zi (-1))) m)
    (k3 : (m 74 16) < (m 74 14) → (m 74 16) < (m 74 15) → κ (some (zi (z_and (m 80 ((m 74 16).toNat)) 255))) m) :
    T D 198 (0, [(0, zr 74)], [], m) κ := by
  have hb3 : 0 ≤ (z_and (m 80 ((m 74 16).toNat)) 255) ∧ (z_and (m 80 ((m 74 16).toNat)) 255) ≤ 255 := z_andC (m 80 ((m 74 16).toNat)) 255 (by decide)
  have he0 : wr (m 74 16) = (m 74 16) := wr_id (by omega) (by omega)
  have he1 : wr (m 74 14) = (m 74 14) := wr_id (by omega) (by omega)
  have he2 : wr (m 74 15) = (m 74 15) := wr_id (by omega) (by omega)
  have he3 : wr (z_and (m 80 ((m 74 16).toNat)) 255) = (z_and (m 80 ((m 74 16).toNat)) 255) := wr_id (by omega) (by omega)
  have key := @zb198_0_80r T hT D κ m 
  simp only [he0, he1, he2, he3, Int.toNat_natCast] at key
  exact key
    k1
    k2
    (fun x0 x1 => hrd)
    (fun x0 x1 => by refine ⟨?_, ?_⟩ <;> omega)
    k3
theorem zb198_0_86r (hT : zRules T) {D : Nat} {κ : Option zA → zM → Prop} {m : zM} 
    (o1 : ¬ wr (m 74 16) < wr (m 74 14) → κ (some (zi (-1))) m)
    (o2 : wr (m 74 16) < wr (m 74 14) → ¬ wr (m 74 16) < wr (m 74 15) → κ (some (zi (-1))) m)
    (o3 : wr (m 74 16) < wr (m 74 14) → wr (m 74 16) < wr (m 74 15) → (m 74 13) = 86)
    (o4 : wr (m 74 16) < wr (m 74 14) → wr (m 74 16) < wr (m 74 15) → (0 ≤ wr (m 74 16) ∧ wr (m 74 16) < 40))
    (o5 : wr (m 74 16) < wr (m 74 14) → wr (m 74 16) < wr (m 74 15) → κ (some (zi (wr (z_and (m 86 ((wr (m 74 16)).toNat)) 255)))) m) :
    T D 198 (0, [(0, zr 74)], [], m) κ :=
  hT.1 [] 6 D 198 _ κ (And.intro (fun a1 => (hT.1 [] 6 D 198 (39, [(0, zr 74)], [zi (-1)], m) _ (o1 a1))) (fun a2 => (hT.1 [] 6 D 198 (12, [(0, zr 74)], [zr 74], m) _ (And.intro (fun a3 => (o2 (Classical.byContradiction a2) a3)) (fun a4 => (And.intro (Or.inr (o3 (Classical.byContradiction a2) (Classical.byContradiction a4))) (And.intro (fun a5 => (z_n8086 a5 (o3 (Classical.byContradiction a2) (Classical.byContradiction a4))).elim) (fun _ => (hT.1 [] 6 D 198 (26, [(0, zr 74)], [zr 86], m) _ (And.intro (o4 (Classical.byContradiction a2) (Classical.byContradiction a4)) (hT.1 [] 6 D 198 (39, [(0, zr 74)], [zi (z_and (m 86 ((wr (m 74 16)).toNat)) 255)], m) _ (o5 (Classical.byContradiction a2) (Classical.byContradiction a4)))))))))))))
theorem zb198_0_86 (hT : zRules T) {D : Nat} {κ : Option zA → zM → Prop} {m : zM}  (hrd : m 74 13 = 86) (hf0 : 0 ≤ m 74 16 ∧ m 74 16 ≤ 1000) (hf1 : 0 ≤ m 74 14 ∧ m 74 14 ≤ 80) (hf2 : 0 ≤ m 74 15 ∧ m 74 15 ≤ 40) 
    (k1 : ¬ (m 74 16) < (m 74 14) → κ (some (zi (-1))) m)
    (k2 : (m 74 16) < (m 74 14) → ¬ (m 74 16) < (m 74 15) → κ (some (zi (-1))) m)
    (k3 : (m 74 16) < (m 74 14) → (m 74 16) < (m 74 15) → κ (some (zi (z_and (m 86 ((m 74 16).toNat)) 255))) m) :
    T D 198 (0, [(0, zr 74)], [], m) κ := by
  have hb3 : 0 ≤ (z_and (m 86 ((m 74 16).toNat)) 255) ∧ (z_and (m 86 ((m 74 16).toNat)) 255) ≤ 255 := z_andC (m 86 ((m 74 16).toNat)) 255 (by decide)
  have he0 : wr (m 74 16) = (m 74 16) := wr_id (by omega) (by omega)
  have he1 : wr (m 74 14) = (m 74 14) := wr_id (by omega) (by omega)
  have he2 : wr (m 74 15) = (m 74 15) := wr_id (by omega) (by omega)
  have he3 : wr (z_and (m 86 ((m 74 16).toNat)) 255) = (z_and (m 86 ((m 74 16).toNat)) 255) := wr_id (by omega) (by omega)
  have key := @zb198_0_86r T hT D κ m 
  simp only [he0, he1, he2, he3, Int.toNat_natCast] at key
  exact key
    k1
    k2
    (fun x0 x1 => hrd)
    (fun x0 x1 => by refine ⟨?_, ?_⟩ <;> omega)
    k3
theorem zb69_0r (hT : zRules T) {D : Nat} {κ : Option zA → zM → Prop} {m : zM} 
    (o1 : ¬ wr (m 2 3) < wr (m 2 2) → κ (some (zi (-1))) m)
    (o2 : wr (m 2 3) < wr (m 2 2) → (0 ≤ wr (m 2 3) ∧ wr (m 2 3) < 80))
    (o3 : wr (m 2 3) < wr (m 2 2) → κ (some (zi (wr (m 3 ((wr (m 2 3)).toNat))))) m) :
    T D 69 (0, [(0, zr 2)], [], m) κ :=
  hT.1 [] 6 D 69 _ κ (And.intro (fun a1 => (hT.1 [] 6 D 69 (24, [(0, zr 2)], [zi (-1)], m) _ (o1 a1))) (fun a2 => (hT.1 [] 6 D 69 (12, [(0, zr 2)], [zr 2], m) _ (And.intro (o2 (Classical.byContradiction a2)) (o3 (Classical.byContradiction a2))))))
theorem zb69_0 (hT : zRules T) {D : Nat} {κ : Option zA → zM → Prop} {m : zM}  (hf0 : 0 ≤ m 2 3 ∧ m 2 3 ≤ 1000) (hf1 : 0 ≤ m 2 2 ∧ m 2 2 ≤ 80) 
    (k1 : ¬ (m 2 3) < (m 2 2) → κ (some (zi (-1))) m)
    (k2 : (m 2 3) < (m 2 2) → κ (some (zi (wr (m 3 ((m 2 3).toNat))))) m) :
    T D 69 (0, [(0, zr 2)], [], m) κ := by
  have hb2 : (-2147483648) ≤ wr (m 3 ((m 2 3).toNat)) ∧ wr (m 3 ((m 2 3).toNat)) ≤ 2147483647 := wrB (m 3 ((m 2 3).toNat))
  have he0 : wr (m 2 3) = (m 2 3) := wr_id (by omega) (by omega)
  have he1 : wr (m 2 2) = (m 2 2) := wr_id (by omega) (by omega)
  have key := @zb69_0r T hT D κ m 
  simp only [he0, he1, Int.toNat_natCast] at key
  exact key
    k1
    (fun x0 => by refine ⟨?_, ?_⟩ <;> omega)
    k2
end ZBlocks
end
-- 47.law.lean.txt
section
/-! THE RULE by the class: parts, one behind the other; LAW. -/
noncomputable abbrev zEnv : Type := Int × Int × Int × Int × Int
noncomputable def joinV (kd a b : Int) : Int := if kd = 42 then a * b else if kd = 43 then a + b else if kd = 45 then a - b else if kd = 47 then (if wr b = 0 then 0 else Int.tdiv (wr a) (wr b)) else if kd = 60 then (if wr a < wr b then 1 else 0) else if kd = 61 then (if wr a = wr b then 1 else 0) else if kd = 62 then (if wr b < wr a then 1 else 0) else -a
/-- an operation, not a thing -/
noncomputable def isOp (kd : Int) : Prop := ¬ kd = 48 ∧ ¬ kd = 104 ∧ ¬ kd = 105 ∧ ¬ kd = 108 ∧ ¬ kd = 112 ∧ ¬ kd = 119
/-- e: height, light, week, place, person -/
noncomputable def nodeV (kd lf rg : Int) (f : Nat → Int) (e : zEnv) : Int := if kd = 48 then lf else if kd = 104 then e.1 else if kd = 105 then e.2.2.2.2 else if kd = 108 then e.2.1 else if kd = 112 then e.2.2.2.1 else if kd = 119 then e.2.2.1 else wr (joinV kd (f lf.toNat) (f rg.toNat))
noncomputable def valsN (kd lf rg g : Nat → Int) (e : zEnv) : Nat → Nat → Int
  | 0 => g
  | n + 1 => fu (valsN kd lf rg g e n) n (nodeV (kd n) (lf n) (rg n) (valsN kd lf rg g e n) e)
/-- parts are made of parts ahead of them -/
noncomputable def WFp (kd lf rg : Nat → Int) (n : Nat) : Prop := ∀ k, k < n → isOp (kd k) → (0 ≤ lf k ∧ lf k < k) ∧ (0 ≤ rg k ∧ rg k < k)
theorem valsN_g {kd lf rg g g2 : Nat → Int} {e : zEnv} {n : Nat} (h : WFp kd lf rg n) : ∀ t, t ≤ n → ∀ k, k < t → valsN kd lf rg g e t k = valsN kd lf rg g2 e t k := by
  intro t
  induction t with
  | zero => intro _ k hk; omega
  | succ t ih =>
    intro ht k hk
    rw [valsN, valsN]
    by_cases ek : k = t
    · rw [fu_eq ek, fu_eq ek]
      unfold nodeV
      by_cases h1 : kd t = 48
      · rw [if_pos h1, if_pos h1]
      · by_cases h2 : kd t = 104
        · rw [if_neg h1, if_neg h1, if_pos h2, if_pos h2]
        · by_cases h3 : kd t = 105
          · rw [if_neg h1, if_neg h1, if_neg h2, if_neg h2, if_pos h3, if_pos h3]
          · by_cases h4 : kd t = 108
            · rw [if_neg h1, if_neg h1, if_neg h2, if_neg h2, if_neg h3, if_neg h3, if_pos h4, if_pos h4]
            · by_cases h5 : kd t = 112
              · rw [if_neg h1, if_neg h1, if_neg h2, if_neg h2, if_neg h3, if_neg h3, if_neg h4, if_neg h4, if_pos h5, if_pos h5]
              · by_cases h6 : kd t = 119
                · rw [if_neg h1, if_neg h1, if_neg h2, if_neg h2, if_neg h3, if_neg h3, if_neg h4, if_neg h4, if_neg h5, if_neg h5, if_pos h6, if_pos h6]
                · obtain ⟨q1, q2⟩ := h t (by omega) ⟨h1, h2, h3, h4, h5, h6⟩
                  rw [ih (by omega) (lf t).toNat (by omega), ih (by omega) (rg t).toNat (by omega)]
    · rw [fu_ne ek, fu_ne ek]
      exact ih (by omega) k (by omega)
noncomputable def ruleV (m : zM) (e : zEnv) : Int := if m 9 4 < 1 then Int.tdiv (e.1 * e.2.1) 10 else wr (valsN (m 10) (m 11) (m 12) (fun _ => 0) e (m 9 4).toNat ((m 9 4).toNat - 1))
noncomputable def cl99 (v : Int) : Int := if wr v < 99 then (if 0 < wr v then wr v else 0) else 99
theorem cl99B (v : Int) : 0 ≤ cl99 v ∧ cl99 v ≤ 99 := by
  unfold cl99
  split
  · split <;> omega
  · omega
/-- LIGHT at a PLACE that has one -/
noncomputable def lgt (m : zM) (p : Nat) (w : Int) : Int := m 5 ((p : Int) * 26 + Int.tmod w (m 6 p)).toNat
/-- LAW -/
noncomputable def LW (m : zM) (h i : Int) (p : Nat) (w : Int) : Int := if (p : Int) < m 4 4 then cl99 (ruleV m (h, lgt m p w, w, (p : Int), i)) else 0
theorem LWB {m : zM} {h i w : Int} {p : Nat} : 0 ≤ LW m h i p w ∧ LW m h i p w ≤ 99 := by
  unfold LW
  split
  · exact cl99B _
  · omega
/-- what must hold of ALMANACS and THE RULE -/
noncomputable def WFr (m : zM) : Prop := (∀ p : Nat, (p : Int) < m 4 4 → 1 ≤ m 6 p) ∧ WFp (m 10) (m 11) (m 12) (m 9 4).toNat
/-- such changes leave LAW as it is -/
noncomputable def lawS (S : Nat → Nat → Bool) : Prop := S 4 4 = false ∧ (∀ j, S 5 j = false) ∧ (∀ j, S 6 j = false) ∧ S 9 4 = false ∧ (∀ j, S 10 j = false) ∧ (∀ j, S 11 j = false) ∧ (∀ j, S 12 j = false)
theorem LW_fr {S : Nat → Nat → Bool} {m m1 : zM} (h : zFr S m m1) (hS : lawS S) : LW m1 = LW m ∧ (WFr m → WFr m1) := by
  obtain ⟨s1, s2, s3, s4, s5, s6, s7⟩ := hS
  have e1 := h 4 4 s1
  have e2 : m1 5 = m 5 := funext fun j => h 5 j (s2 j)
  have e3 : m1 6 = m 6 := funext fun j => h 6 j (s3 j)
  have e4 := h 9 4 s4
  have e5 : m1 10 = m 10 := funext fun j => h 10 j (s5 j)
  have e6 : m1 11 = m 11 := funext fun j => h 11 j (s6 j)
  have e7 : m1 12 = m 12 := funext fun j => h 12 j (s7 j)
  refine ⟨?_, ?_⟩
  · funext hh i p w
    unfold LW ruleV lgt
    rw [e1, e2, e3, e4, e5, e6, e7]
  · unfold WFr
    rw [e1, e3, e4, e5, e6, e7]
    exact id
/-- the sign where the reference reads; where the class does -/
noncomputable def hrR (m : zM) (q : Nat) : Int := if m 74 16 < m 74 14 ∧ m 74 16 < m 74 15 then z_and (m q (m 74 16).toNat) 255 else -1
theorem hrRB (m : zM) (q : Nat) : -1 ≤ hrR m q ∧ hrR m q ≤ 255 := by
  unfold hrR
  split
  · have h : 0 ≤ z_and (m q (m 74 16).toNat) 255 ∧ z_and (m q (m 74 16).toNat) 255 ≤ 255 := z_andC (m q (m 74 16).toNat) 255 (by decide)
    omega
  · omega
noncomputable def nxC (m : zM) : Int := if m 2 3 < m 2 2 then m 3 (m 2 3).toNat else -1
theorem nxCBo (m : zM) (h : ∀ j, zbd 3 j (m 3 j)) : -1 ≤ nxC m ∧ nxC m ≤ 65535 := by
  unfold nxC
  split
  · have : 0 ≤ m 3 (m 2 3).toNat ∧ m 3 (m 2 3).toNat ≤ 65535 := h _
    omega
  · omega
section ZLaw
variable {T : Nat → Nat → zG → (Option zA → zM → Prop) → Prop} {D : Nat} {κ : Option zA → zM → Prop} {m : zM}
set_option maxHeartbeats 4000000 in
theorem z_joined (hT : zRules T) {kd a b : Int} (hB : zB m) (hk : -1 ≤ kd ∧ kd ≤ 65535) (h : κ (some (zi (wr (joinV kd a b)))) m) : T (D + 1) 59 (0, [(0, zi kd), (1, zi a), (2, zi b)], [], m) κ := by
  refine zb59_0 hT hB hk ?_ ?_ ?_ ?_ ?_ ?_ ?_ ?_ ?_ ?_ ?_ ?_ ?_ ?_ ?_ ?_ ?_ ?_ ?_ ?_ ?_ ?_ ?_ ?_ ?_ ?_
  all_goals
    intros
    unfold joinV at h
  · rw [if_pos (by assumption)] at h; exact h
  · rw [if_neg (by assumption), if_pos (by assumption)] at h; exact h
  · simp (disch := omega) only [if_neg] at h; exact h
  · simp (disch := omega) only [if_neg, if_pos] at h; exact h
  · simp (disch := omega) only [if_neg] at h; exact h
  · simp (disch := omega) only [if_neg, if_pos] at h; exact h
  · simp (disch := omega) only [if_neg, if_pos] at h; exact h
  · simp (disch := omega) only [if_neg] at h; exact h
  · simp (disch := omega) only [if_neg] at h; exact h
  · simp (disch := omega) only [if_neg] at h; exact h
  · simp (disch := omega) only [if_neg] at h; exact h
  · simp (disch := omega) only [if_neg] at h; exact h
  · simp (disch := omega) only [if_neg] at h; exact h
  · simp (disch := omega) only [if_neg] at h; exact h
  · simp (disch := omega) only [if_neg] at h; exact h
  · simp (disch := omega) only [if_neg] at h; exact h
  · simp (disch := omega) only [if_neg] at h; exact h
  · simp (disch := omega) only [if_neg] at h; exact h
  · simp (disch := omega) only [if_neg] at h; exact h
  · simp (disch := omega) only [if_neg, if_pos] at h; exact h
  · simp (disch := omega) only [if_neg, if_pos] at h; exact h
  · simp (disch := omega) only [if_neg, if_pos] at h; exact h
  · simp (disch := omega) only [if_neg, if_pos] at h; exact h
  · simp (disch := omega) only [if_neg, if_pos] at h; exact h
  · simp (disch := omega) only [if_neg, if_pos] at h; exact h
  · simp (disch := omega) only [if_neg] at h; exact h
theorem z_valueFor (hT : zRules T) {h l w p i : Int} (hB : zB m) (hh : 0 ≤ h ∧ h ≤ 99) (hl : 0 ≤ l ∧ l ≤ 9) (hw : 0 ≤ w ∧ w ≤ 500000) (hp : 0 ≤ p ∧ p ≤ 3) (hi : 0 ≤ i ∧ i ≤ 5) (hWF : WFp (m 10) (m 11) (m 12) (m 9 4).toNat)
    (hk : ∀ m1, zB m1 → zFr (rowW 13) m m1 → κ (some (zi (ruleV m (h, l, w, p, i)))) m1) : T (D + 2) 58 (0, [(0, zr 9), (1, zi h), (2, zi l), (3, zi w), (4, zi p), (5, zi i)], [], m) κ := by
  have h94 : 0 ≤ m 9 4 ∧ m 9 4 ≤ 40 := hB 9 4
  obtain ⟨n, hn⟩ : ∃ n : Nat, m 9 4 = (n : Int) := ⟨(m 9 4).toNat, by omega⟩
  have en : (m 9 4).toNat = n := by omega
  rw [en] at hWF
  refine zb58_0 hT hB hh hl hw hp hi (fun hne => ?_) (fun he => ?_)
  · have key : ∀ (j k : Nat) (M : zM), k + j = n → zB M → (∀ c, c ≠ 13 → M c = m c) → M 13 = valsN (m 10) (m 11) (m 12) (m 13) (h, l, w, p, i) k → T (D + 2) 58 (18, [(0, zr 9), (1, zi h), (2, zi l), (3, zi w), (4, zi p), (5, zi i), (6, zi (k : Int))], [], M) κ := by
      intro j
      induction j with
      | zero =>
        intro k M hkj hBM hM h13
        have e94 : M 9 4 = m 9 4 := by rw [hM 9 (by omega)]
        refine zb58_18 hT rfl hBM hh hl hw hp hi (by omega) (fun _ => by omega) (fun _ => ?_) (fun q => by omega) (fun q => by omega) (fun q => by omega) (fun q => by omega) (fun q => by omega) (fun q => by omega) (fun q => by omega) (fun q => by omega)
        have ek : k = n := by omega
        have hf := hk M hBM (fun c j hc => by rw [hM c (Nat.ne_of_beq_eq_false hc)])
        unfold ruleV at hf
        rw [if_neg hne, en] at hf
        rw [e94, h13, ek, show (m 9 4 - 1).toNat = n - 1 by omega, valsN_g (g2 := fun _ => 0) hWF n (Nat.le_refl n) (n - 1) (by omega)]
        exact hf
      | succ j ih =>
        intro k M hkj hBM hM h13
        have e94 : M 9 4 = m 9 4 := by rw [hM 9 (by omega)]
        have e10 : M 10 k = m 10 k := by rw [hM 10 (by omega)]
        have e11 : M 11 k = m 11 k := by rw [hM 11 (by omega)]
        have e12 : M 12 k = m 12 k := by rw [hM 12 (by omega)]
        have b10 : -1 ≤ m 10 k ∧ m 10 k ≤ 65535 := hB 10 k
        have nxt : ∀ v : Int, nodeV (m 10 k) (m 11 k) (m 12 k) (valsN (m 10) (m 11) (m 12) (m 13) (h, l, w, p, i) k) (h, l, w, p, i) = v → T (D + 2) 58 (18, [(0, zr 9), (1, zi h), (2, zi l), (3, zi w), (4, zi p), (5, zi i), (6, zi ((k : Int) + 1))], [], zu M 13 k v) κ := by
          intro v hv
          refine ih (k + 1) (zu M 13 k v) (by omega) (zB_u hBM trivial) (fun c hc => ?_) ?_
          · rw [zu_dnR hc]
            exact hM c hc
          · rw [zu_row, h13, valsN, hv]
        refine zb58_18 hT rfl hBM hh hl hw hp hi (by omega) (fun q => by omega) (fun q => by omega) (fun _ q _ => ?_) (fun _ q1 q _ => ?_) (fun _ q1 q2 q _ => ?_) (fun _ q1 q2 q3 q _ => ?_) (fun _ q1 q2 q3 q4 q _ => ?_) (fun _ q1 q2 q3 q4 q5 q _ => ?_) (fun _ q1 q2 q3 q4 q5 q6 => ?_) (fun _ q1 q2 q3 q4 q5 q6 => ?_)
        · rw [e10] at q
          rw [e11]
          refine nxt _ ?_
          unfold nodeV
          rw [if_pos q]
        · rw [e10] at q q1
          refine nxt _ ?_
          unfold nodeV
          rw [if_neg q1, if_pos q]
        · rw [e10] at q q1 q2
          refine nxt _ ?_
          unfold nodeV
          rw [if_neg q1, if_neg q2, if_pos q]
        · rw [e10] at q q1 q2 q3
          refine nxt _ ?_
          unfold nodeV
          rw [if_neg q1, if_neg q2, if_neg q3, if_pos q]
        · rw [e10] at q q1 q2 q3 q4
          refine nxt _ ?_
          unfold nodeV
          rw [if_neg q1, if_neg q2, if_neg q3, if_neg q4, if_pos q]
        · rw [e10] at q q1 q2 q3 q4 q5
          refine nxt _ ?_
          unfold nodeV
          rw [if_neg q1, if_neg q2, if_neg q3, if_neg q4, if_neg q5, if_pos q]
        · rw [e10] at q1 q2 q3 q4 q5 q6
          have hw9 := hWF k (by omega) ⟨q1, q2, q3, q4, q5, q6⟩
          rw [e11]
          omega
        · rw [e10] at q1 q2 q3 q4 q5 q6
          have hw9 := hWF k (by omega) ⟨q1, q2, q3, q4, q5, q6⟩
          rw [e10, e11, e12]
          refine z_joined hT hBM b10 ?_
          refine zb58_206 hT rfl hBM hh hl hw hp hi (by omega) (fun _ => ?_)
          refine nxt _ ?_
          unfold nodeV
          rw [if_neg q1, if_neg q2, if_neg q3, if_neg q4, if_neg q5, if_neg q6, h13]
    exact key n 0 m (by omega) hB (fun c _ => rfl) rfl
  · have hf := hk m hB zFr.refl
    unfold ruleV at hf
    rw [if_pos he] at hf
    exact hf
theorem z_lawFor (hT : zRules T) {h i w : Int} {p : Nat} (hB : zB m) (hh : 0 ≤ h ∧ h ≤ 99) (hi : 0 ≤ i ∧ i ≤ 5) (hp : p ≤ 3) (hw : 0 ≤ w ∧ w ≤ 500000) (hWF : WFr m)
    (hk : ∀ m1, zB m1 → zFr (rowW 13) m m1 → κ (some (zi (LW m h i p w))) m1) : T (D + 3) 170 (0, [(0, zr 1), (1, zi h), (2, zi i), (3, zi (p : Int)), (4, zi w)], [], m) κ := by
  by_cases hpl : (p : Int) < m 4 4
  · have h6 : 0 ≤ m 6 p ∧ m 6 p ≤ 26 := hB 6 p
    have hf := hWF.1 p hpl
    have e : LW m h i p w = cl99 (ruleV m (h, lgt m p w, w, (p : Int), i)) := if_pos hpl
    refine zb170_0a hT hB hh hi hp hw ⟨hf, h6.2⟩ (fun q => absurd hpl q) (fun _ => ?_)
    refine z_valueFor hT hB hh (hB 5 _) hw (by omega) hi hWF.2 (fun m1 hB1 hF => ?_)
    rw [e] at hk
    refine zb170_34 hT rfl hB1 (fun q1 q2 => ?_) (fun q1 q2 => ?_) (fun q1 => ?_)
    · have := hk m1 hB1 hF
      unfold cl99 lgt at this
      rw [if_pos q1, if_pos q2] at this
      exact this
    · have := hk m1 hB1 hF
      unfold cl99 lgt at this
      rw [if_pos q1, if_neg q2] at this
      exact this
    · have := hk m1 hB1 hF
      unfold cl99 lgt at this
      rw [if_neg q1] at this
      exact this
  · have e : LW m h i p w = 0 := if_neg hpl
    rw [e] at hk
    exact zb170_0b hT hB hh hi hp hw (fun _ => hk m hB zFr.refl) (fun q => absurd q hpl) (fun q => absurd q hpl) (fun q => absurd q hpl)
theorem z_here80 (hT : zRules T) (hrd : m 74 13 = 80) (h16 : 0 ≤ m 74 16 ∧ m 74 16 ≤ 1000) (h14 : 0 ≤ m 74 14 ∧ m 74 14 ≤ 80) (h15 : 0 ≤ m 74 15 ∧ m 74 15 ≤ 80) (h : κ (some (zi (hrR m 80))) m) : T D 198 (0, [(0, zr 74)], [], m) κ := by
  unfold hrR at h
  refine zb198_0_80 hT hrd h16 h14 h15 (fun q1 => ?_) (fun q1 q2 => ?_) (fun q1 q2 => ?_)
  · rw [if_neg (fun q => q1 q.1)] at h; exact h
  · rw [if_neg (fun q => q2 q.2)] at h; exact h
  · rw [if_pos ⟨q1, q2⟩] at h; exact h
theorem z_here86 (hT : zRules T) (hrd : m 74 13 = 86) (h16 : 0 ≤ m 74 16 ∧ m 74 16 ≤ 1000) (h14 : 0 ≤ m 74 14 ∧ m 74 14 ≤ 80) (h15 : 0 ≤ m 74 15 ∧ m 74 15 ≤ 40) (h : κ (some (zi (hrR m 86))) m) : T D 198 (0, [(0, zr 74)], [], m) κ := by
  unfold hrR at h
  refine zb198_0_86 hT hrd h16 h14 h15 (fun q1 => ?_) (fun q1 q2 => ?_) (fun q1 q2 => ?_)
  · rw [if_neg (fun q => q1 q.1)] at h; exact h
  · rw [if_neg (fun q => q2 q.2)] at h; exact h
  · rw [if_pos ⟨q1, q2⟩] at h; exact h
theorem z_next (hT : zRules T) (hs : ∀ j, zbd 3 j (m 3 j)) (h3 : 0 ≤ m 2 3 ∧ m 2 3 ≤ 1000) (h2 : 0 ≤ m 2 2 ∧ m 2 2 ≤ 80) (h : κ (some (zi (nxC m))) m) : T D 69 (0, [(0, zr 2)], [], m) κ := by
  unfold nxC at h
  refine zb69_0 hT h3 h2 (fun q1 => ?_) (fun q1 => ?_)
  · rw [if_neg q1] at h; exact h
  · have hb : 0 ≤ m 3 (m 2 3).toNat ∧ m 3 (m 2 3).toNat ≤ 65535 := hs _
    rw [if_pos q1] at h
    rw [wr_id (by omega) (by omega)]
    exact h
end ZLaw
end
-- 48.b4.lean.txt
section
section ZBlocks
variable {T : Nat → Nat → zG → (Option zA → zM → Prop) → Prop}
theorem zb171_0r (hT : zRules T) {D : Nat} {κ : Option zA → zM → Prop} {m : zM} {p : Nat} 
    (o1 : (0 ≤ wr (p : Int) ∧ wr (p : Int) < 6))
    (o2 : (0 ≤ wr (p : Int) ∧ wr (p : Int) < 6))
    (o3 : T (D + 3) 170 (0, [(0, zr 1), (1, zi (m 18 ((wr (p : Int)).toNat))), (2, zi (p : Int)), (3, zi (m 19 ((wr (p : Int)).toNat))), (4, zi (m 17 11))], [], m) (fun r m1 => T (D + 4) 171 (30, [(0, zr 1), (1, zi (p : Int))], r.toList ++ [], m1) κ)) :
    T (D + 4) 171 (0, [(0, zr 1), (1, zi (p : Int))], [], m) κ :=
  hT.1 [] 6 (D + 4) 171 _ κ (And.intro (o1) (hT.1 [] 6 (D + 4) 171 (10, [(0, zr 1), (1, zi (p : Int))], [zi (m 18 ((wr (p : Int)).toNat)), zr 1], m) _ (And.intro (o2) (hT.1 [] 6 (D + 4) 171 (20, [(0, zr 1), (1, zi (p : Int))], [zi (m 19 ((wr (p : Int)).toNat)), zi (p : Int), zi (m 18 ((wr (p : Int)).toNat)), zr 1], m) _ (o3)))))
theorem zb171_0 (hT : zRules T) {D : Nat} {κ : Option zA → zM → Prop} {m : zM} {p : Nat}  (hB : zB m) (h_p : p ≤ 5) 
    (k1 : T (D + 3) 170 (0, [(0, zr 1), (1, zi (m 18 p)), (2, zi (p : Int)), (3, zi (m 19 p)), (4, zi (m 17 11))], [], m) (fun r m1 => T (D + 4) 171 (30, [(0, zr 1), (1, zi (p : Int))], r.toList ++ [], m1) κ)) :
    T (D + 4) 171 (0, [(0, zr 1), (1, zi (p : Int))], [], m) κ := by
  have hb1 : (-1) ≤ (m 18 p) ∧ (m 18 p) ≤ 99 := hB 18 p
  have hb2 : (-1) ≤ (m 19 p) ∧ (m 19 p) ≤ 3 := hB 19 p
  have hb3 : 0 ≤ (m 17 11) ∧ (m 17 11) ≤ 400000 := hB 17 11
  have he0 : wr (p : Int) = (p : Int) := wr_id (by omega) (by omega)
  have he1 : (p : Int).toNat = p := by omega
  have key := @zb171_0r T hT D κ m p
  simp only [he0, he1, Int.toNat_natCast] at key
  exact key
    (by refine ⟨?_, ?_⟩ <;> omega)
    (by refine ⟨?_, ?_⟩ <;> omega)
    k1
theorem zb171_30r (hT : zRules T) {D : Nat} {κ : Option zA → zM → Prop} {m : zM} {v : Int} {lo : zL} (hlo : z_keep [] lo = []) 
    (o1 : κ (some (zi (wr v))) m) :
    T (D + 4) 171 (30, lo, [zi v], m) κ :=
  zkeep hT hlo (hT.1 [] 6 (D + 4) 171 _ κ (o1))
theorem zb171_30 (hT : zRules T) {D : Nat} {κ : Option zA → zM → Prop} {m : zM} {v : Int} {lo : zL} (hlo : z_keep [] lo = [])  (h_v : 0 ≤ v ∧ v ≤ 99) 
    (k1 : κ (some (zi v)) m) :
    T (D + 4) 171 (30, lo, [zi v], m) κ := by
  have he0 : wr v = v := wr_id (by omega) (by omega)
  have key := @zb171_30r T hT D κ m v lo hlo
  simp only [he0, Int.toNat_natCast] at key
  exact key
    k1
theorem zb169_0r (hT : zRules T) {D : Nat} {κ : Option zA → zM → Prop} {m : zM} {p : Nat} {pl : Int} {w : Int} 
    (o1 : (0 ≤ wr (p : Int) ∧ wr (p : Int) < 6))
    (o2 : T (D + 3) 170 (0, [(0, zr 1), (1, zi (m 18 ((wr (p : Int)).toNat))), (2, zi (p : Int)), (3, zi pl), (4, zi w)], [], m) (fun r m1 => T (D + 4) 169 (16, [(0, zr 1), (1, zi (p : Int)), (2, zi pl), (3, zi w)], r.toList ++ [], m1) κ)) :
    T (D + 4) 169 (0, [(0, zr 1), (1, zi (p : Int)), (2, zi pl), (3, zi w)], [], m) κ :=
  hT.1 [] 6 (D + 4) 169 _ κ (And.intro (o1) (hT.1 [] 6 (D + 4) 169 (10, [(0, zr 1), (1, zi (p : Int)), (2, zi pl), (3, zi w)], [zi (m 18 ((wr (p : Int)).toNat)), zr 1], m) _ (o2)))
theorem zb169_0 (hT : zRules T) {D : Nat} {κ : Option zA → zM → Prop} {m : zM} {p : Nat} {pl : Int} {w : Int}  (hB : zB m) (h_p : p ≤ 5) 
    (k1 : T (D + 3) 170 (0, [(0, zr 1), (1, zi (m 18 p)), (2, zi (p : Int)), (3, zi pl), (4, zi w)], [], m) (fun r m1 => T (D + 4) 169 (16, [(0, zr 1), (1, zi (p : Int)), (2, zi pl), (3, zi w)], r.toList ++ [], m1) κ)) :
    T (D + 4) 169 (0, [(0, zr 1), (1, zi (p : Int)), (2, zi pl), (3, zi w)], [], m) κ := by
  have hb1 : (-1) ≤ (m 18 p) ∧ (m 18 p) ≤ 99 := hB 18 p
  have he0 : wr (p : Int) = (p : Int) := wr_id (by omega) (by omega)
  have he1 : (p : Int).toNat = p := by omega
  have key := @zb169_0r T hT D κ m p pl w
  simp only [he0, he1, Int.toNat_natCast] at key
  exact key
    (by refine ⟨?_, ?_⟩ <;> omega)
    k1
theorem zb169_16r (hT : zRules T) {D : Nat} {κ : Option zA → zM → Prop} {m : zM} {v : Int} {lo : zL} (hlo : z_keep [] lo = []) 
    (o1 : κ (some (zi (wr v))) m) :
    T (D + 4) 169 (16, lo, [zi v], m) κ :=
  zkeep hT hlo (hT.1 [] 6 (D + 4) 169 _ κ (o1))
theorem zb169_16 (hT : zRules T) {D : Nat} {κ : Option zA → zM → Prop} {m : zM} {v : Int} {lo : zL} (hlo : z_keep [] lo = [])  (h_v : 0 ≤ v ∧ v ≤ 99) 
    (k1 : κ (some (zi v)) m) :
    T (D + 4) 169 (16, lo, [zi v], m) κ := by
  have he0 : wr v = v := wr_id (by omega) (by omega)
  have key := @zb169_16r T hT D κ m v lo hlo
  simp only [he0, Int.toNat_natCast] at key
  exact key
    k1
theorem zb215_0r (hT : zRules T) {D : Nat} {κ : Option zA → zM → Prop} {m : zM} {p : Nat} {pl : Int} {w : Int} 
    (o1 : (0 ≤ wr (p : Int) ∧ wr (p : Int) < 6))
    (o2 : T (D + 2) 214 (0, [(0, zr 74), (1, zi (p : Int)), (2, zi (m 78 ((wr (p : Int)).toNat))), (3, zi pl), (4, zi w)], [], m) (fun r m1 => T (D + 3) 215 (13, [(0, zr 74), (1, zi (p : Int)), (2, zi pl), (3, zi w)], r.toList ++ [], m1) κ)) :
    T (D + 3) 215 (0, [(0, zr 74), (1, zi (p : Int)), (2, zi pl), (3, zi w)], [], m) κ :=
  hT.1 [] 6 (D + 3) 215 _ κ (And.intro (o1) (hT.1 [] 6 (D + 3) 215 (8, [(0, zr 74), (1, zi (p : Int)), (2, zi pl), (3, zi w)], [zi (m 78 ((wr (p : Int)).toNat)), zi (p : Int), zr 74], m) _ (o2)))
theorem zb215_0 (hT : zRules T) {D : Nat} {κ : Option zA → zM → Prop} {m : zM} {p : Nat} {pl : Int} {w : Int}  (hB : zB m) (h_p : p ≤ 5) 
    (k1 : T (D + 2) 214 (0, [(0, zr 74), (1, zi (p : Int)), (2, zi (m 78 p)), (3, zi pl), (4, zi w)], [], m) (fun r m1 => T (D + 3) 215 (13, [(0, zr 74), (1, zi (p : Int)), (2, zi pl), (3, zi w)], r.toList ++ [], m1) κ)) :
    T (D + 3) 215 (0, [(0, zr 74), (1, zi (p : Int)), (2, zi pl), (3, zi w)], [], m) κ := by
  have hb1 : 0 ≤ (m 78 p) ∧ (m 78 p) ≤ 99 := hB 78 p
  have he0 : wr (p : Int) = (p : Int) := wr_id (by omega) (by omega)
  have he1 : (p : Int).toNat = p := by omega
  have key := @zb215_0r T hT D κ m p pl w
  simp only [he0, he1, Int.toNat_natCast] at key
  exact key
    (by refine ⟨?_, ?_⟩ <;> omega)
    k1
theorem zb215_13r (hT : zRules T) {D : Nat} {κ : Option zA → zM → Prop} {m : zM} {v : Int} {lo : zL} (hlo : z_keep [] lo = []) 
    (o1 : κ (some (zi (wr v))) m) :
    T (D + 3) 215 (13, lo, [zi v], m) κ :=
  zkeep hT hlo (hT.1 [] 6 (D + 3) 215 _ κ (o1))
theorem zb215_13 (hT : zRules T) {D : Nat} {κ : Option zA → zM → Prop} {m : zM} {v : Int} {lo : zL} (hlo : z_keep [] lo = [])  (h_v : 0 ≤ v ∧ v ≤ 99) 
    (k1 : κ (some (zi v)) m) :
    T (D + 3) 215 (13, lo, [zi v], m) κ := by
  have he0 : wr v = v := wr_id (by omega) (by omega)
  have key := @zb215_13r T hT D κ m v lo hlo
  simp only [he0, Int.toNat_natCast] at key
  exact key
    k1
theorem zb216_0r (hT : zRules T) {D : Nat} {κ : Option zA → zM → Prop} {m : zM} {p : Nat} {d : Int} 
    (o1 : (0 ≤ wr (p : Int) ∧ wr (p : Int) < 59))
    (o2 : T (D + 3) 215 (0, [(0, zr 74), (1, zi (p : Int)), (2, zi (m 75 ((wr (p : Int)).toNat))), (3, zi ((m 75 57) + d))], [], m) (fun r m1 => T (D + 4) 216 (20, [(0, zr 74), (1, zi (p : Int)), (2, zi d)], r.toList ++ [], m1) κ)) :
    T (D + 4) 216 (0, [(0, zr 74), (1, zi (p : Int)), (2, zi d)], [], m) κ :=
  hT.1 [] 6 (D + 4) 216 _ κ (And.intro (o1) (hT.1 [] 6 (D + 4) 216 (8, [(0, zr 74), (1, zi (p : Int)), (2, zi d)], [zi (m 75 ((wr (p : Int)).toNat)), zi (p : Int), zr 74], m) _ (And.intro (z_ixL rfl) (hT.1 [] 6 (D + 4) 216 (17, [(0, zr 74), (1, zi (p : Int)), (2, zi d)], [zi ((m 75 57) + d), zi (m 75 ((wr (p : Int)).toNat)), zi (p : Int), zr 74], m) _ (o2)))))
theorem zb216_0 (hT : zRules T) {D : Nat} {κ : Option zA → zM → Prop} {m : zM} {p : Nat} {d : Int}  (hB : zB m) (h_p : p ≤ 5) (h_d : 0 ≤ d ∧ d ≤ 200) 
    (k1 : T (D + 3) 215 (0, [(0, zr 74), (1, zi (p : Int)), (2, zi (m 75 p)), (3, zi ((m 75 57) + d))], [], m) (fun r m1 => T (D + 4) 216 (20, [(0, zr 74), (1, zi (p : Int)), (2, zi d)], r.toList ++ [], m1) κ)) :
    T (D + 4) 216 (0, [(0, zr 74), (1, zi (p : Int)), (2, zi d)], [], m) κ := by
  have hb2 : 0 ≤ (m 75 p) ∧ (m 75 p) ≤ 3 := zSg hB 75 0 6 0 3 rfl p (by omega) (by omega)
  have hb3 : 0 ≤ (m 75 57) ∧ (m 75 57) ≤ 400000 := hB 75 57
  have he0 : wr (p : Int) = (p : Int) := wr_id (by omega) (by omega)
  have he1 : (p : Int).toNat = p := by omega
  have key := @zb216_0r T hT D κ m p d
  simp only [he0, he1, Int.toNat_natCast] at key
  exact key
    (by refine ⟨?_, ?_⟩ <;> omega)
    k1
theorem zb216_20r (hT : zRules T) {D : Nat} {κ : Option zA → zM → Prop} {m : zM} {v : Int} {lo : zL} (hlo : z_keep [] lo = []) 
    (o1 : κ (some (zi (wr v))) m) :
    T (D + 4) 216 (20, lo, [zi v], m) κ :=
  zkeep hT hlo (hT.1 [] 6 (D + 4) 216 _ κ (o1))
theorem zb216_20 (hT : zRules T) {D : Nat} {κ : Option zA → zM → Prop} {m : zM} {v : Int} {lo : zL} (hlo : z_keep [] lo = [])  (h_v : 0 ≤ v ∧ v ≤ 99) 
    (k1 : κ (some (zi v)) m) :
    T (D + 4) 216 (20, lo, [zi v], m) κ := by
  have he0 : wr v = v := wr_id (by omega) (by omega)
  have key := @zb216_20r T hT D κ m v lo hlo
  simp only [he0, Int.toNat_natCast] at key
  exact key
    k1
theorem zb175_0r (hT : zRules T) {D : Nat} {κ : Option zA → zM → Prop} {m : zM} {t : Nat} 
    (o1 : T (D + 5) 175 (2, [(0, zr 1), (1, zi (t : Int)), (2, zi 0)], [], m) κ) :
    T (D + 5) 175 (0, [(0, zr 1), (1, zi (t : Int))], [], m) κ :=
  hT.1 [(2, [0, 1, 2]), (9, [0, 1, 2, 3])] 6 (D + 5) 175 _ κ (o1)
theorem zb175_0 (hT : zRules T) {D : Nat} {κ : Option zA → zM → Prop} {m : zM} {t : Nat}  (h_t : t ≤ 60) 
    (k1 : T (D + 5) 175 (2, [(0, zr 1), (1, zi (t : Int)), (2, zi 0)], [], m) κ) :
    T (D + 5) 175 (0, [(0, zr 1), (1, zi (t : Int))], [], m) κ := by
  exact zb175_0r hT
    k1
theorem zb175_2r (hT : zRules T) {D : Nat} {κ : Option zA → zM → Prop} {m : zM} {t : Nat} {k : Nat} {lo : zL} (hlo : z_keep [0, 1, 2] lo = [(0, zr 1), (1, zi (t : Int)), (2, zi (k : Int))]) 
    (o1 : ¬ wr (k : Int) < wr (t : Int) → κ (none) m)
    (o2 : wr (k : Int) < wr (t : Int) → T (D + 5) 175 (9, [(0, zr 1), (1, zi (t : Int)), (2, zi (k : Int)), (3, zi 0)], [], m) κ) :
    T (D + 5) 175 (2, lo, [], m) κ :=
  zkeep hT hlo (hT.1 [(2, [0, 1, 2]), (9, [0, 1, 2, 3])] 6 (D + 5) 175 _ κ (And.intro (fun a1 => (o1 a1)) (fun a2 => (o2 (Classical.byContradiction a2)))))
theorem zb175_2 (hT : zRules T) {D : Nat} {κ : Option zA → zM → Prop} {m : zM} {t : Nat} {k : Nat} {lo : zL} (hlo : z_keep [0, 1, 2] lo = [(0, zr 1), (1, zi (t : Int)), (2, zi (k : Int))])  (h_t : t ≤ 60) (h_k : k ≤ 60) 
    (k1 : ¬ (k : Int) < (t : Int) → κ (none) m)
    (k2 : (k : Int) < (t : Int) → T (D + 5) 175 (9, [(0, zr 1), (1, zi (t : Int)), (2, zi (k : Int)), (3, zi 0)], [], m) κ) :
    T (D + 5) 175 (2, lo, [], m) κ := by
  have he0 : wr (k : Int) = (k : Int) := wr_id (by omega) (by omega)
  have he1 : wr (t : Int) = (t : Int) := wr_id (by omega) (by omega)
  have key := @zb175_2r T hT D κ m t k lo hlo
  simp only [he0, he1, Int.toNat_natCast] at key
  exact key
    k1
    k2
theorem zb175_9r (hT : zRules T) {D : Nat} {κ : Option zA → zM → Prop} {m : zM} {t : Nat} {k : Nat} {p : Nat} {lo : zL} (hlo : z_keep [0, 1, 2, 3] lo = [(0, zr 1), (1, zi (t : Int)), (2, zi (k : Int)), (3, zi (p : Int))]) 
    (o1 : ¬ wr (p : Int) < wr (m 17 0) → T (D + 5) 175 (2, [(0, zr 1), (1, zi (t : Int)), (2, zi ((k : Int) + 1))], [], (zu m 17 11 ((m 17 11) + 1))) κ)
    (o2 : wr (p : Int) < wr (m 17 0) → (0 ≤ wr (p : Int) ∧ wr (p : Int) < 6))
    (o3 : wr (p : Int) < wr (m 17 0) → wr (m 20 ((wr (p : Int)).toNat)) < 0 → T (D + 5) 175 (9, [(0, zr 1), (1, zi (t : Int)), (2, zi (k : Int)), (3, zi ((p : Int) + 1))], [], m) κ)
    (o4 : wr (p : Int) < wr (m 17 0) → ¬ wr (m 20 ((wr (p : Int)).toNat)) < 0 → ¬ wr (m 20 ((wr (p : Int)).toNat)) < wr (m 17 1) → T (D + 5) 175 (9, [(0, zr 1), (1, zi (t : Int)), (2, zi (k : Int)), (3, zi ((p : Int) + 1))], [], m) κ)
    (o5 : wr (p : Int) < wr (m 17 0) → ¬ wr (m 20 ((wr (p : Int)).toNat)) < 0 → wr (m 20 ((wr (p : Int)).toNat)) < wr (m 17 1) → (0 ≤ wr (p : Int) ∧ wr (p : Int) < 6))
    (o6 : wr (p : Int) < wr (m 17 0) → ¬ wr (m 20 ((wr (p : Int)).toNat)) < 0 → wr (m 20 ((wr (p : Int)).toNat)) < wr (m 17 1) → T (D + 4) 171 (0, [(0, zr 1), (1, zi (p : Int))], [], m) (fun r m1 => T (D + 5) 175 (57, [(0, zr 1), (1, zi (t : Int)), (2, zi (k : Int)), (3, zi (p : Int))], r.toList ++ [zi (m 20 ((wr (p : Int)).toNat)), zr 17], m1) κ)) :
    T (D + 5) 175 (9, lo, [], m) κ :=
  zkeep hT hlo (hT.1 [(2, [0, 1, 2]), (9, [0, 1, 2, 3])] 6 (D + 5) 175 _ κ (And.intro (fun a1 => (hT.1 [(2, [0, 1, 2]), (9, [0, 1, 2, 3])] 6 (D + 5) 175 (67, [(0, zr 1), (1, zi (t : Int)), (2, zi (k : Int)), (3, zi (p : Int))], [zr 1], m) _ (And.intro trivial (hT.1 [(2, [0, 1, 2]), (9, [0, 1, 2, 3])] 6 (D + 5) 175 (79, [(0, zr 1), (1, zi (t : Int)), (2, zi (k : Int)), (3, zi (p : Int))], [], (zu m 17 11 ((m 17 11) + 1))) _ (o1 a1))))) (fun a2 => (hT.1 [(2, [0, 1, 2]), (9, [0, 1, 2, 3])] 6 (D + 5) 175 (21, [(0, zr 1), (1, zi (t : Int)), (2, zi (k : Int)), (3, zi (p : Int))], [zr 1], m) _ (And.intro (o2 (Classical.byContradiction a2)) (hT.1 [(2, [0, 1, 2]), (9, [0, 1, 2, 3])] 6 (D + 5) 175 (33, [(0, zr 1), (1, zi (t : Int)), (2, zi (k : Int)), (3, zi (p : Int))], [zi (m 20 ((wr (p : Int)).toNat)), zr 17], m) _ (hT.1 [] 6 (D + 4) 26 _ _ (And.intro (fun a3 => (And.intro (z_b01L rfl) (hT.1 [(2, [0, 1, 2]), (9, [0, 1, 2, 3])] 6 (D + 5) 175 _ _ (And.intro (fun _ => (o3 (Classical.byContradiction a2) a3)) (fun a5 => (a5 (z_litT rfl)).elim))))) (fun a4 => (And.intro (fun a6 => (hT.1 [] 6 (D + 4) 26 (16, [(0, zr 17), (1, zi (m 20 ((wr (p : Int)).toNat)))], [], m) _ (And.intro (z_b01L rfl) (hT.1 [(2, [0, 1, 2]), (9, [0, 1, 2, 3])] 6 (D + 5) 175 _ _ (And.intro (fun _ => (o4 (Classical.byContradiction a2) a4 a6)) (fun a8 => (a8 (z_litT rfl)).elim)))))) (fun a7 => (hT.1 [] 6 (D + 4) 26 (12, [(0, zr 17), (1, zi (m 20 ((wr (p : Int)).toNat)))], [], m) _ (And.intro (z_b01L rfl) (hT.1 [(2, [0, 1, 2]), (9, [0, 1, 2, 3])] 6 (D + 5) 175 _ _ (And.intro (fun a9 => (z_litF a9 rfl).elim) (fun _ => (hT.1 [(2, [0, 1, 2]), (9, [0, 1, 2, 3])] 6 (D + 5) 175 (50, [(0, zr 1), (1, zi (t : Int)), (2, zi (k : Int)), (3, zi (p : Int))], [zr 20, zr 17], m) _ (And.intro (o5 (Classical.byContradiction a2) a4 (Classical.byContradiction a7)) (o6 (Classical.byContradiction a2) a4 (Classical.byContradiction a7))))))))))))))))))))
theorem zb175_9 (hT : zRules T) {D : Nat} {κ : Option zA → zM → Prop} {m : zM} {t : Nat} {k : Nat} {p : Nat} {lo : zL} (hlo : z_keep [0, 1, 2, 3] lo = [(0, zr 1), (1, zi (t : Int)), (2, zi (k : Int)), (3, zi (p : Int))])  (hB : zB m) (h_t : t ≤ 60) (h_k : k ≤ 60) (h_p : p ≤ 6) 
    (k1 : ¬ (p : Int) < (m 17 0) → T (D + 5) 175 (2, [(0, zr 1), (1, zi (t : Int)), (2, zi ((k : Int) + 1))], [], (zu m 17 11 ((m 17 11) + 1))) κ)
    (k2 : (p : Int) < (m 17 0) → (m 20 p) < 0 → T (D + 5) 175 (9, [(0, zr 1), (1, zi (t : Int)), (2, zi (k : Int)), (3, zi ((p : Int) + 1))], [], m) κ)
    (k3 : (p : Int) < (m 17 0) → ¬ (m 20 p) < 0 → ¬ (m 20 p) < (m 17 1) → T (D + 5) 175 (9, [(0, zr 1), (1, zi (t : Int)), (2, zi (k : Int)), (3, zi ((p : Int) + 1))], [], m) κ)
    (k4 : (p : Int) < (m 17 0) → ¬ (m 20 p) < 0 → (m 20 p) < (m 17 1) → T (D + 4) 171 (0, [(0, zr 1), (1, zi (p : Int))], [], m) (fun r m1 => T (D + 5) 175 (57, [(0, zr 1), (1, zi (t : Int)), (2, zi (k : Int)), (3, zi (p : Int))], r.toList ++ [zi (m 20 p), zr 17], m1) κ)) :
    T (D + 5) 175 (9, lo, [], m) κ := by
  have hb3 : 0 ≤ (m 17 0) ∧ (m 17 0) ≤ 6 := hB 17 0
  have hb4 : (-1) ≤ (m 20 p) ∧ (m 20 p) ≤ 7 := hB 20 p
  have hb5 : 0 ≤ (m 17 1) ∧ (m 17 1) ≤ 8 := hB 17 1
  have hb6 : 0 ≤ (m 17 11) ∧ (m 17 11) ≤ 400000 := hB 17 11
  have he0 : wr (p : Int) = (p : Int) := wr_id (by omega) (by omega)
  have he1 : wr (m 17 0) = (m 17 0) := wr_id (by omega) (by omega)
  have he2 : (p : Int).toNat = p := by omega
  have he3 : wr (m 20 p) = (m 20 p) := wr_id (by omega) (by omega)
  have he4 : wr (m 17 1) = (m 17 1) := wr_id (by omega) (by omega)
  have key := @zb175_9r T hT D κ m t k p lo hlo
  simp only [he0, he1, he2, he3, he4, Int.toNat_natCast] at key
  exact key
    k1
    (fun x0 => by refine ⟨?_, ?_⟩ <;> omega)
    k2
    k3
    (fun x0 x1 x2 => by refine ⟨?_, ?_⟩ <;> omega)
    k4
theorem zb175_57r (hT : zRules T) {D : Nat} {κ : Option zA → zM → Prop} {m : zM} {t : Nat} {k : Nat} {p : Nat} {v : Int} {c : Nat} {lo : zL} (hlo : z_keep [0, 1, 2, 3] lo = [(0, zr 1), (1, zi (t : Int)), (2, zi (k : Int)), (3, zi (p : Int))]) 
    (o1 : T (D + 4) 38 (0, [(0, zr 17), (1, zi (c : Int)), (2, zi v)], [], m) (fun r m1 => T (D + 5) 175 (60, [(0, zr 1), (1, zi (t : Int)), (2, zi (k : Int)), (3, zi (p : Int))], r.toList ++ [], m1) κ)) :
    T (D + 5) 175 (57, lo, [zi v, zi (c : Int), zr 17], m) κ :=
  zkeep hT hlo (hT.1 [(2, [0, 1, 2]), (9, [0, 1, 2, 3])] 6 (D + 5) 175 _ κ (o1))
theorem zb175_57 (hT : zRules T) {D : Nat} {κ : Option zA → zM → Prop} {m : zM} {t : Nat} {k : Nat} {p : Nat} {v : Int} {c : Nat} {lo : zL} (hlo : z_keep [0, 1, 2, 3] lo = [(0, zr 1), (1, zi (t : Int)), (2, zi (k : Int)), (3, zi (p : Int))])  (h_t : t ≤ 60) (h_k : k ≤ 60) (h_p : p ≤ 5) (h_v : 0 ≤ v ∧ v ≤ 99) (h_c : c ≤ 7) 
    (k1 : T (D + 4) 38 (0, [(0, zr 17), (1, zi (c : Int)), (2, zi v)], [], m) (fun r m1 => T (D + 5) 175 (60, [(0, zr 1), (1, zi (t : Int)), (2, zi (k : Int)), (3, zi (p : Int))], r.toList ++ [], m1) κ)) :
    T (D + 5) 175 (57, lo, [zi v, zi (c : Int), zr 17], m) κ := by
  exact zb175_57r hT hlo
    k1
theorem zb175_60r (hT : zRules T) {D : Nat} {κ : Option zA → zM → Prop} {m : zM} {t : Nat} {k : Nat} {p : Nat} {lo : zL} (hlo : z_keep [0, 1, 2, 3] lo = [(0, zr 1), (1, zi (t : Int)), (2, zi (k : Int)), (3, zi (p : Int))]) 
    (o1 : T (D + 5) 175 (9, [(0, zr 1), (1, zi (t : Int)), (2, zi (k : Int)), (3, zi ((p : Int) + 1))], [], m) κ) :
    T (D + 5) 175 (60, lo, [], m) κ :=
  zkeep hT hlo (hT.1 [(2, [0, 1, 2]), (9, [0, 1, 2, 3])] 6 (D + 5) 175 _ κ (o1))
theorem zb175_60 (hT : zRules T) {D : Nat} {κ : Option zA → zM → Prop} {m : zM} {t : Nat} {k : Nat} {p : Nat} {lo : zL} (hlo : z_keep [0, 1, 2, 3] lo = [(0, zr 1), (1, zi (t : Int)), (2, zi (k : Int)), (3, zi (p : Int))])  (h_t : t ≤ 60) (h_k : k ≤ 60) (h_p : p ≤ 5) 
    (k1 : T (D + 5) 175 (9, [(0, zr 1), (1, zi (t : Int)), (2, zi (k : Int)), (3, zi ((p : Int) + 1))], [], m) κ) :
    T (D + 5) 175 (60, lo, [], m) κ := by
  exact zb175_60r hT hlo
    k1
theorem zb235_0_75r (hT : zRules T) {D : Nat} {κ : Option zA → zM → Prop} {m : zM} 
    (o1 : T (D + 4) 235 (2, [(0, zr 74), (1, zr 75), (2, zi 0)], [], m) κ) :
    T (D + 4) 235 (0, [(0, zr 74), (1, zr 75)], [], m) κ :=
  hT.1 [(2, [0, 1, 2])] 6 (D + 4) 235 _ κ (o1)
theorem zb235_0_75 (hT : zRules T) {D : Nat} {κ : Option zA → zM → Prop} {m : zM}  
    (k1 : T (D + 4) 235 (2, [(0, zr 74), (1, zr 75), (2, zi 0)], [], m) κ) :
    T (D + 4) 235 (0, [(0, zr 74), (1, zr 75)], [], m) κ := by
  exact zb235_0_75r hT
    k1
theorem zb235_2_75r (hT : zRules T) {D : Nat} {κ : Option zA → zM → Prop} {m : zM} {p : Nat} {lo : zL} (hlo : z_keep [0, 1, 2] lo = [(0, zr 74), (1, zr 75), (2, zi (p : Int))]) 
    (o1 : ¬ wr (p : Int) < wr (m 74 4) → κ (none) (zu m 75 57 ((m 75 57) + 1)))
    (o2 : wr (p : Int) < wr (m 74 4) → (0 ≤ wr (6 + (p : Int)) ∧ wr (6 + (p : Int)) < 59))
    (o3 : wr (p : Int) < wr (m 74 4) → wr (m 75 ((wr (6 + (p : Int))).toNat)) = (-1) → T (D + 4) 235 (2, [(0, zr 74), (1, zr 75), (2, zi ((p : Int) + 1))], [], m) κ)
    (o4 : wr (p : Int) < wr (m 74 4) → ¬ wr (m 75 ((wr (6 + (p : Int))).toNat)) = (-1) → (0 ≤ wr (6 + (p : Int)) ∧ wr (6 + (p : Int)) < 59))
    (o5 : wr (p : Int) < wr (m 74 4) → ¬ wr (m 75 ((wr (6 + (p : Int))).toNat)) = (-1) → (0 ≤ wr (p : Int) ∧ wr (p : Int) < 59))
    (o6 : wr (p : Int) < wr (m 74 4) → ¬ wr (m 75 ((wr (6 + (p : Int))).toNat)) = (-1) → T (D + 3) 215 (0, [(0, zr 74), (1, zi (p : Int)), (2, zi (m 75 ((wr (p : Int)).toNat))), (3, zi (m 75 57))], [], m) (fun r m1 => T (D + 4) 235 (40, [(0, zr 74), (1, zr 75), (2, zi (p : Int))], r.toList ++ [zi (m 75 ((wr (6 + (p : Int))).toNat)), zr 75, zr 74], m1) κ)) :
    T (D + 4) 235 (2, lo, [], m) κ :=
  zkeep hT hlo (hT.1 [(2, [0, 1, 2])] 6 (D + 4) 235 _ κ (And.intro (fun a1 => (hT.1 [(2, [0, 1, 2])] 6 (D + 4) 235 (52, [(0, zr 74), (1, zr 75), (2, zi (p : Int))], [zi 57, zr 75], m) _ (And.intro (z_ixL rfl) (And.intro (And.intro (z_ixL rfl) trivial) (o1 a1))))) (fun a2 => (hT.1 [(2, [0, 1, 2])] 6 (D + 4) 235 (13, [(0, zr 74), (1, zr 75), (2, zi (p : Int))], [zi 6, zr 75], m) _ (And.intro (o2 (Classical.byContradiction a2)) (And.intro (fun a3 => (hT.1 [(2, [0, 1, 2])] 6 (D + 4) 235 (46, [(0, zr 74), (1, zr 75), (2, zi ((p : Int) + 1))], [], m) _ (o3 (Classical.byContradiction a2) a3))) (fun a4 => (hT.1 [(2, [0, 1, 2])] 6 (D + 4) 235 (21, [(0, zr 74), (1, zr 75), (2, zi (p : Int))], [zr 74], m) _ (And.intro (o4 (Classical.byContradiction a2) a4) (hT.1 [(2, [0, 1, 2])] 6 (D + 4) 235 (28, [(0, zr 74), (1, zr 75), (2, zi (p : Int))], [zi (m 75 ((wr (6 + (p : Int))).toNat)), zr 75, zr 74], m) _ (And.intro (o5 (Classical.byContradiction a2) a4) (hT.1 [(2, [0, 1, 2])] 6 (D + 4) 235 (34, [(0, zr 74), (1, zr 75), (2, zi (p : Int))], [zr 75, zi (m 75 ((wr (p : Int)).toNat)), zi (p : Int), zr 74, zi (m 75 ((wr (6 + (p : Int))).toNat)), zr 75, zr 74], m) _ (And.intro (z_ixL rfl) (o6 (Classical.byContradiction a2) a4))))))))))))))
theorem zb235_2_75 (hT : zRules T) {D : Nat} {κ : Option zA → zM → Prop} {m : zM} {p : Nat} {lo : zL} (hlo : z_keep [0, 1, 2] lo = [(0, zr 74), (1, zr 75), (2, zi (p : Int))])  (hB : zB m) (h_p : p ≤ 6) 
    (k1 : ¬ (p : Int) < (m 74 4) → κ (none) (zu m 75 57 ((m 75 57) + 1)))
    (k2 : (p : Int) < (m 74 4) → (m 75 (p + 6)) = (-1) → T (D + 4) 235 (2, [(0, zr 74), (1, zr 75), (2, zi ((p : Int) + 1))], [], m) κ)
    (k3 : (p : Int) < (m 74 4) → ¬ (m 75 (p + 6)) = (-1) → T (D + 3) 215 (0, [(0, zr 74), (1, zi (p : Int)), (2, zi (m 75 p)), (3, zi (m 75 57))], [], m) (fun r m1 => T (D + 4) 235 (40, [(0, zr 74), (1, zr 75), (2, zi (p : Int))], r.toList ++ [zi (m 75 (p + 6)), zr 75, zr 74], m1) κ)) :
    T (D + 4) 235 (2, lo, [], m) κ := by
  have hb1 : 0 ≤ (m 74 4) ∧ (m 74 4) ≤ 6 := hB 74 4
  have hb2 : (-1) ≤ (m 75 (p + 6)) ∧ (m 75 (p + 6)) ≤ 99 := zSg hB 75 6 20 (-1) 99 rfl (p + 6) (by omega) (by omega)
  have hb3 : (-1) ≤ (m 75 p) ∧ (m 75 p) ≤ 7 := zSg hB 75 0 12 (-1) 7 rfl p (by omega) (by omega)
  have hb4 : 0 ≤ (m 75 57) ∧ (m 75 57) ≤ 400000 := hB 75 57
  have he0 : wr (p : Int) = (p : Int) := wr_id (by omega) (by omega)
  have he1 : wr (m 74 4) = (m 74 4) := wr_id (by omega) (by omega)
  have he2 : wr (6 + (p : Int)) = (6 + (p : Int)) := wr_id (by omega) (by omega)
  have he3 : (6 + (p : Int)).toNat = p + 6 := by omega
  have he4 : wr (m 75 (p + 6)) = (m 75 (p + 6)) := wr_id (by omega) (by omega)
  have he5 : (p : Int).toNat = p := by omega
  have key := @zb235_2_75r T hT D κ m p lo hlo
  simp only [he0, he1, he2, he3, he4, he5, Int.toNat_natCast] at key
  exact key
    k1
    (fun x0 => by refine ⟨?_, ?_⟩ <;> omega)
    k2
    (fun x0 x1 => by refine ⟨?_, ?_⟩ <;> omega)
    (fun x0 x1 => by refine ⟨?_, ?_⟩ <;> omega)
    k3
theorem zb235_40_75r (hT : zRules T) {D : Nat} {κ : Option zA → zM → Prop} {m : zM} {p : Nat} {v : Int} {c : Nat} {lo : zL} (hlo : z_keep [0, 1, 2] lo = [(0, zr 74), (1, zr 75), (2, zi (p : Int))]) 
    (o1 : T (D + 3) 226 (0, [(0, zr 74), (1, zr 75), (2, zi (c : Int)), (3, zi v)], [], m) (fun r m1 => T (D + 4) 235 (43, [(0, zr 74), (1, zr 75), (2, zi (p : Int))], r.toList ++ [], m1) κ)) :
    T (D + 4) 235 (40, lo, [zi v, zi (c : Int), zr 75, zr 74], m) κ :=
  zkeep hT hlo (hT.1 [(2, [0, 1, 2])] 6 (D + 4) 235 _ κ (o1))
theorem zb235_40_75 (hT : zRules T) {D : Nat} {κ : Option zA → zM → Prop} {m : zM} {p : Nat} {v : Int} {c : Nat} {lo : zL} (hlo : z_keep [0, 1, 2] lo = [(0, zr 74), (1, zr 75), (2, zi (p : Int))])  (h_p : p ≤ 5) (h_v : 0 ≤ v ∧ v ≤ 99) (h_c : c ≤ 7) 
    (k1 : T (D + 3) 226 (0, [(0, zr 74), (1, zr 75), (2, zi (c : Int)), (3, zi v)], [], m) (fun r m1 => T (D + 4) 235 (43, [(0, zr 74), (1, zr 75), (2, zi (p : Int))], r.toList ++ [], m1) κ)) :
    T (D + 4) 235 (40, lo, [zi v, zi (c : Int), zr 75, zr 74], m) κ := by
  exact zb235_40_75r hT hlo
    k1
theorem zb235_43_75r (hT : zRules T) {D : Nat} {κ : Option zA → zM → Prop} {m : zM} {p : Nat} {lo : zL} (hlo : z_keep [0, 1, 2] lo = [(0, zr 74), (1, zr 75), (2, zi (p : Int))]) 
    (o1 : T (D + 4) 235 (2, [(0, zr 74), (1, zr 75), (2, zi ((p : Int) + 1))], [], m) κ) :
    T (D + 4) 235 (43, lo, [], m) κ :=
  zkeep hT hlo (hT.1 [(2, [0, 1, 2])] 6 (D + 4) 235 _ κ (o1))
theorem zb235_43_75 (hT : zRules T) {D : Nat} {κ : Option zA → zM → Prop} {m : zM} {p : Nat} {lo : zL} (hlo : z_keep [0, 1, 2] lo = [(0, zr 74), (1, zr 75), (2, zi (p : Int))])  (h_p : p ≤ 5) 
    (k1 : T (D + 4) 235 (2, [(0, zr 74), (1, zr 75), (2, zi ((p : Int) + 1))], [], m) κ) :
    T (D + 4) 235 (43, lo, [], m) κ := by
  exact zb235_43_75r hT hlo
    k1
theorem zb235_0_91r (hT : zRules T) {D : Nat} {κ : Option zA → zM → Prop} {m : zM} 
    (o1 : T (D + 4) 235 (2, [(0, zr 74), (1, zr 91), (2, zi 0)], [], m) κ) :
    T (D + 4) 235 (0, [(0, zr 74), (1, zr 91)], [], m) κ :=
  hT.1 [(2, [0, 1, 2])] 6 (D + 4) 235 _ κ (o1)
theorem zb235_0_91 (hT : zRules T) {D : Nat} {κ : Option zA → zM → Prop} {m : zM}  
    (k1 : T (D + 4) 235 (2, [(0, zr 74), (1, zr 91), (2, zi 0)], [], m) κ) :
    T (D + 4) 235 (0, [(0, zr 74), (1, zr 91)], [], m) κ := by
  exact zb235_0_91r hT
    k1
theorem zb235_2_91r (hT : zRules T) {D : Nat} {κ : Option zA → zM → Prop} {m : zM} {p : Nat} {lo : zL} (hlo : z_keep [0, 1, 2] lo = [(0, zr 74), (1, zr 91), (2, zi (p : Int))]) 
    (o1 : ¬ wr (p : Int) < wr (m 74 4) → κ (none) (zu m 91 57 ((m 91 57) + 1)))
    (o2 : wr (p : Int) < wr (m 74 4) → (0 ≤ wr (6 + (p : Int)) ∧ wr (6 + (p : Int)) < 59))
    (o3 : wr (p : Int) < wr (m 74 4) → wr (m 91 ((wr (6 + (p : Int))).toNat)) = (-1) → T (D + 4) 235 (2, [(0, zr 74), (1, zr 91), (2, zi ((p : Int) + 1))], [], m) κ)
    (o4 : wr (p : Int) < wr (m 74 4) → ¬ wr (m 91 ((wr (6 + (p : Int))).toNat)) = (-1) → (0 ≤ wr (6 + (p : Int)) ∧ wr (6 + (p : Int)) < 59))
    (o5 : wr (p : Int) < wr (m 74 4) → ¬ wr (m 91 ((wr (6 + (p : Int))).toNat)) = (-1) → (0 ≤ wr (p : Int) ∧ wr (p : Int) < 59))
    (o6 : wr (p : Int) < wr (m 74 4) → ¬ wr (m 91 ((wr (6 + (p : Int))).toNat)) = (-1) → T (D + 3) 215 (0, [(0, zr 74), (1, zi (p : Int)), (2, zi (m 91 ((wr (p : Int)).toNat))), (3, zi (m 91 57))], [], m) (fun r m1 => T (D + 4) 235 (40, [(0, zr 74), (1, zr 91), (2, zi (p : Int))], r.toList ++ [zi (m 91 ((wr (6 + (p : Int))).toNat)), zr 91, zr 74], m1) κ)) :
    T (D + 4) 235 (2, lo, [], m) κ :=
  zkeep hT hlo (hT.1 [(2, [0, 1, 2])] 6 (D + 4) 235 _ κ (And.intro (fun a1 => (hT.1 [(2, [0, 1, 2])] 6 (D + 4) 235 (52, [(0, zr 74), (1, zr 91), (2, zi (p : Int))], [zi 57, zr 91], m) _ (And.intro (z_ixL rfl) (And.intro (And.intro (z_ixL rfl) trivial) (o1 a1))))) (fun a2 => (hT.1 [(2, [0, 1, 2])] 6 (D + 4) 235 (13, [(0, zr 74), (1, zr 91), (2, zi (p : Int))], [zi 6, zr 91], m) _ (And.intro (o2 (Classical.byContradiction a2)) (And.intro (fun a3 => (hT.1 [(2, [0, 1, 2])] 6 (D + 4) 235 (46, [(0, zr 74), (1, zr 91), (2, zi ((p : Int) + 1))], [], m) _ (o3 (Classical.byContradiction a2) a3))) (fun a4 => (hT.1 [(2, [0, 1, 2])] 6 (D + 4) 235 (21, [(0, zr 74), (1, zr 91), (2, zi (p : Int))], [zr 74], m) _ (And.intro (o4 (Classical.byContradiction a2) a4) (hT.1 [(2, [0, 1, 2])] 6 (D + 4) 235 (28, [(0, zr 74), (1, zr 91), (2, zi (p : Int))], [zi (m 91 ((wr (6 + (p : Int))).toNat)), zr 91, zr 74], m) _ (And.intro (o5 (Classical.byContradiction a2) a4) (hT.1 [(2, [0, 1, 2])] 6 (D + 4) 235 (34, [(0, zr 74), (1, zr 91), (2, zi (p : Int))], [zr 91, zi (m 91 ((wr (p : Int)).toNat)), zi (p : Int), zr 74, zi (m 91 ((wr (6 + (p : Int))).toNat)), zr 91, zr 74], m) _ (And.intro (z_ixL rfl) (o6 (Classical.byContradiction a2) a4))))))))))))))
theorem zb235_2_91 (hT : zRules T) {D : Nat} {κ : Option zA → zM → Prop} {m : zM} {p : Nat} {lo : zL} (hlo : z_keep [0, 1, 2] lo = [(0, zr 74), (1, zr 91), (2, zi (p : Int))])  (hB : zB m) (h_p : p ≤ 6) 
    (k1 : ¬ (p : Int) < (m 74 4) → κ (none) (zu m 91 57 ((m 91 57) + 1)))
    (k2 : (p : Int) < (m 74 4) → (m 91 (p + 6)) = (-1) → T (D + 4) 235 (2, [(0, zr 74), (1, zr 91), (2, zi ((p : Int) + 1))], [], m) κ)
    (k3 : (p : Int) < (m 74 4) → ¬ (m 91 (p + 6)) = (-1) → T (D + 3) 215 (0, [(0, zr 74), (1, zi (p : Int)), (2, zi (m 91 p)), (3, zi (m 91 57))], [], m) (fun r m1 => T (D + 4) 235 (40, [(0, zr 74), (1, zr 91), (2, zi (p : Int))], r.toList ++ [zi (m 91 (p + 6)), zr 91, zr 74], m1) κ)) :
    T (D + 4) 235 (2, lo, [], m) κ := by
  have hb1 : 0 ≤ (m 74 4) ∧ (m 74 4) ≤ 6 := hB 74 4
  have hb2 : (-1) ≤ (m 91 (p + 6)) ∧ (m 91 (p + 6)) ≤ 99 := zSg hB 91 6 20 (-1) 99 rfl (p + 6) (by omega) (by omega)
  have hb3 : (-1) ≤ (m 91 p) ∧ (m 91 p) ≤ 7 := zSg hB 91 0 12 (-1) 7 rfl p (by omega) (by omega)
  have hb4 : 0 ≤ (m 91 57) ∧ (m 91 57) ≤ 400000 := hB 91 57
  have he0 : wr (p : Int) = (p : Int) := wr_id (by omega) (by omega)
  have he1 : wr (m 74 4) = (m 74 4) := wr_id (by omega) (by omega)
  have he2 : wr (6 + (p : Int)) = (6 + (p : Int)) := wr_id (by omega) (by omega)
  have he3 : (6 + (p : Int)).toNat = p + 6 := by omega
  have he4 : wr (m 91 (p + 6)) = (m 91 (p + 6)) := wr_id (by omega) (by omega)
  have he5 : (p : Int).toNat = p := by omega
  have key := @zb235_2_91r T hT D κ m p lo hlo
  simp only [he0, he1, he2, he3, he4, he5, Int.toNat_natCast] at key
  exact key
    k1
    (fun x0 => by refine ⟨?_, ?_⟩ <;> omega)
    k2
    (fun x0 x1 => by refine ⟨?_, ?_⟩ <;> omega)
    (fun x0 x1 => by refine ⟨?_, ?_⟩ <;> omega)
    k3
theorem zb235_40_91r (hT : zRules T) {D : Nat} {κ : Option zA → zM → Prop} {m : zM} {p : Nat} {v : Int} {c : Nat} {lo : zL} (hlo : z_keep [0, 1, 2] lo = [(0, zr 74), (1, zr 91), (2, zi (p : Int))]) 
    (o1 : T (D + 3) 226 (0, [(0, zr 74), (1, zr 91), (2, zi (c : Int)), (3, zi v)], [], m) (fun r m1 => T (D + 4) 235 (43, [(0, zr 74), (1, zr 91), (2, zi (p : Int))], r.toList ++ [], m1) κ)) :
    T (D + 4) 235 (40, lo, [zi v, zi (c : Int), zr 91, zr 74], m) κ :=
  zkeep hT hlo (hT.1 [(2, [0, 1, 2])] 6 (D + 4) 235 _ κ (o1))
theorem zb235_40_91 (hT : zRules T) {D : Nat} {κ : Option zA → zM → Prop} {m : zM} {p : Nat} {v : Int} {c : Nat} {lo : zL} (hlo : z_keep [0, 1, 2] lo = [(0, zr 74), (1, zr 91), (2, zi (p : Int))])  (h_p : p ≤ 5) (h_v : 0 ≤ v ∧ v ≤ 99) (h_c : c ≤ 7) 
    (k1 : T (D + 3) 226 (0, [(0, zr 74), (1, zr 91), (2, zi (c : Int)), (3, zi v)], [], m) (fun r m1 => T (D + 4) 235 (43, [(0, zr 74), (1, zr 91), (2, zi (p : Int))], r.toList ++ [], m1) κ)) :
    T (D + 4) 235 (40, lo, [zi v, zi (c : Int), zr 91, zr 74], m) κ := by
  exact zb235_40_91r hT hlo
    k1
theorem zb235_43_91r (hT : zRules T) {D : Nat} {κ : Option zA → zM → Prop} {m : zM} {p : Nat} {lo : zL} (hlo : z_keep [0, 1, 2] lo = [(0, zr 74), (1, zr 91), (2, zi (p : Int))]) 
    (o1 : T (D + 4) 235 (2, [(0, zr 74), (1, zr 91), (2, zi ((p : Int) + 1))], [], m) κ) :
    T (D + 4) 235 (43, lo, [], m) κ :=
  zkeep hT hlo (hT.1 [(2, [0, 1, 2])] 6 (D + 4) 235 _ κ (o1))
theorem zb235_43_91 (hT : zRules T) {D : Nat} {κ : Option zA → zM → Prop} {m : zM} {p : Nat} {lo : zL} (hlo : z_keep [0, 1, 2] lo = [(0, zr 74), (1, zr 91), (2, zi (p : Int))])  (h_p : p ≤ 5) 
    (k1 : T (D + 4) 235 (2, [(0, zr 74), (1, zr 91), (2, zi ((p : Int) + 1))], [], m) κ) :
    T (D + 4) 235 (43, lo, [], m) κ := by
  exact zb235_43_91r hT hlo
    k1
end ZBlocks
end
-- 49.weeks.lean.txt
section
/-! WEEKS go by: the class's cells, the reference's rows. -/
noncomputable def wkP (L : Nat → Int → Int → Int) (h : Int) : zS → Nat → Nat → zS
  | a, _, 0 => a
  | a, p, j + 1 => wkP L h (if a.1 (p + 6) = -1 then a else mkA h a (a.1 (p + 6)).toNat (L p (a.1 p) (a.1 57))) (p + 1) j
noncomputable def wkA (L : Nat → Int → Int → Int) (h : Int) (n : Nat) (a : zS) : zS := (fu (wkP L h a 0 n).1 57 ((wkP L h a 0 n).1 57 + 1), (wkP L h a 0 n).2)
noncomputable def wksA (L : Nat → Int → Int → Int) (h : Int) (n : Nat) : zS → Nat → zS
  | a, 0 => a
  | a, t + 1 => wksA L h n (wkA L h n a) t
/-- LAW by the cells of m: of one, at a PLACE, in a WEEK -/
noncomputable def lawM (m : zM) (p : Nat) (pl w : Int) : Int := LW m (m 18 p) (p : Int) pl.toNat w
/-- what a row must be like -/
noncomputable def okRow (n k : Nat) (g : Nat → Int) : Prop := (∀ p, p < n → (0 ≤ g p ∧ g p ≤ 3) ∧ (g (p + 6) = -1 ∨ (0 ≤ g (p + 6) ∧ g (p + 6) < k))) ∧ (0 ≤ g 56 ∧ g 56 ≤ 20) ∧ (0 ≤ g 57 ∧ ∀ c, c < k → 0 ≤ g (c + 20))
theorem mkA_keep {h : Int} {a : zS} {c : Nat} {v : Int} (hc : c ≤ 7) (h56 : 0 ≤ a.1 56 ∧ a.1 56 ≤ 20) {j : Nat} (hj : j < 12 ∨ j = 57 ∨ j = 58) : (mkA h a c v).1 j = a.1 j := by
  unfold mkA
  split
  · rfl
  · split
    · simp (disch := omega) only [fu_ne]
    · split
      · split
        · simp (disch := omega) only [fu_ne]
        · simp (disch := omega) only [fu_ne]
      · simp (disch := omega) only [fu_ne]
theorem mkA_56 {h : Int} {a : zS} {c : Nat} {v : Int} (hc : c ≤ 7) (h56 : 0 ≤ a.1 56 ∧ a.1 56 ≤ 20) : 0 ≤ (mkA h a c v).1 56 ∧ (mkA h a c v).1 56 ≤ 20 := by
  unfold mkA
  split
  · exact h56
  · split
    · simp (disch := omega) only [fu_ne]
      exact h56
    · split
      · split
        · simp (disch := omega) only [fu_ne]
          exact h56
        · simp (disch := omega) only [fu_eq]
          omega
      · simp (disch := omega) only [fu_ne]
        exact h56
theorem mkA_hem {h : Int} {a : zS} {c : Nat} {v : Int} (hc : c ≤ 7) (hh : 0 ≤ h) (h56 : 0 ≤ a.1 56 ∧ a.1 56 ≤ 20) {q : Nat} (hq : q ≤ 7) (h0 : 0 ≤ a.1 (q + 20)) : 0 ≤ (mkA h a c v).1 (q + 20) := by
  unfold mkA
  split
  · exact h0
  · by_cases e : q = c
    · subst e
      split
      · simp (disch := omega) only [fu_ne, fu_eq]
        omega
      · split
        · split
          · simp (disch := omega) only [fu_ne, fu_eq]
            exact hh
          · simp (disch := omega) only [fu_ne, fu_eq]
            exact hh
        · simp (disch := omega) only [fu_ne, fu_eq]
          omega
    · split
      · simp (disch := omega) only [fu_ne]
        exact h0
      · split
        · split
          · simp (disch := omega) only [fu_ne]
            exact h0
          · simp (disch := omega) only [fu_ne]
            exact h0
        · simp (disch := omega) only [fu_ne]
          exact h0
theorem okRow.mk {n k : Nat} {h : Int} {a : zS} {c : Nat} {v : Int} (hn : n ≤ 6) (hk : k ≤ 8) (hh : 0 ≤ h) (hc : c ≤ 7) (ho : okRow n k a.1) : okRow n k (mkA h a c v).1 := by
  obtain ⟨o1, o2, o3, o4⟩ := ho
  refine ⟨fun p hp => ?_, mkA_56 hc o2, ?_, fun q hq => mkA_hem hc hh o2 (by omega) (o4 q hq)⟩
  · rw [mkA_keep hc o2 (by omega), mkA_keep hc o2 (by omega)]
    exact o1 p hp
  · rw [mkA_keep hc o2 (by omega)]
    exact o3
noncomputable def pwW (c j : Nat) : Bool := tlW c j || (Nat.beq c 13 || (Nat.beq c 17 && Nat.beq j 11))
theorem pwL : lawS pwW := ⟨rfl, fun _ => rfl, fun _ => rfl, rfl, fun _ => rfl, fun _ => rfl, fun _ => rfl⟩
section ZWeeks
variable {T : Nat → Nat → zG → (Option zA → zM → Prop) → Prop} {D : Nat} {κ : Option zA → zM → Prop} {m : zM}
theorem z_lawNow (hT : zRules T) {p : Nat} {pl : Nat} (hB : zB m) (hp : p ≤ 5) (hh : 0 ≤ m 18 p) (hpl : m 19 p = (pl : Int)) (hpl3 : pl ≤ 3) (hWF : WFr m)
    (hk : ∀ m1, zB m1 → zFr (rowW 13) m m1 → κ (some (zi (LW m (m 18 p) (p : Int) pl (m 17 11)))) m1) : T (D + 4) 171 (0, [(0, zr 1), (1, zi (p : Int))], [], m) κ := by
  have h18 : -1 ≤ m 18 p ∧ m 18 p ≤ 99 := hB 18 p
  have h17 : 0 ≤ m 17 11 ∧ m 17 11 ≤ 400000 := hB 17 11
  refine zb171_0 hT hB hp ?_
  rw [hpl]
  exact z_lawFor hT hB ⟨hh, h18.2⟩ (by omega) hpl3 (by omega) hWF (fun m1 h1 h2 => zb171_30 hT rfl LWB (hk m1 h1 h2))
theorem z_lawAt (hT : zRules T) {p : Nat} {pl : Nat} {w : Int} (hB : zB m) (hp : p ≤ 5) (hh : 0 ≤ m 18 p) (hpl3 : pl ≤ 3) (hw : 0 ≤ w ∧ w ≤ 500000) (hWF : WFr m)
    (hk : ∀ m1, zB m1 → zFr (rowW 13) m m1 → κ (some (zi (LW m (m 18 p) (p : Int) pl w))) m1) : T (D + 4) 169 (0, [(0, zr 1), (1, zi (p : Int)), (2, zi (pl : Int)), (3, zi w)], [], m) κ := by
  have h18 : -1 ≤ m 18 p ∧ m 18 p ≤ 99 := hB 18 p
  refine zb169_0 hT hB hp ?_
  exact z_lawFor hT hB ⟨hh, h18.2⟩ (by omega) hpl3 hw hWF (fun m1 h1 h2 => zb169_16 hT rfl LWB (hk m1 h1 h2))
theorem z_passWeeks (hT : zRules T) {t n k : Nat} {a : zS} (hB : zB m) (ht : t ≤ 60) (hn : m 17 0 = (n : Int)) (hk8 : m 17 1 = (k : Int)) (hh : ∀ p, p < n → 0 ≤ m 18 p) (hWF : WFr m) (hR : RelA n k m a) (ho : okRow n k a.1) (hnow : m 17 11 + t ≤ 400000)
    (hk : ∀ m1, zB m1 → zFr pwW m m1 → RelA n k m1 (wksA (lawM m) (m 24 0) n a t) → okRow n k (wksA (lawM m) (m 24 0) n a t).1 → (wksA (lawM m) (m 24 0) n a t).1 57 = a.1 57 + t → κ none m1) : T (D + 5) 175 (0, [(0, zr 1), (1, zi (t : Int))], [], m) κ := by
  have h170 : 0 ≤ m 17 0 ∧ m 17 0 ≤ 6 := hB 17 0
  have h171 : 0 ≤ m 17 1 ∧ m 17 1 ≤ 8 := hB 17 1
  have wkL : ∀ (j p : Nat) (b : zS), okRow n k b.1 → p + j = n → okRow n k (wkP (lawM m) (m 24 0) b p j).1 ∧ (wkP (lawM m) (m 24 0) b p j).1 57 = b.1 57 := by
    intro j
    induction j with
    | zero => intro p b hb _; exact ⟨hb, rfl⟩
    | succ j ih =>
      intro p b hb hp
      rw [wkP]
      split
      · exact ih (p + 1) b hb (by omega)
      · rename_i hne
        have hw := (hb.1 p (by omega)).2
        have h1 := ih (p + 1) _ (hb.mk (h := m 24 0) (c := (b.1 (p + 6)).toNat) (v := lawM m p (b.1 p) (b.1 57)) (by omega) (by omega) (hB 24 0).1 (by omega)) (by omega)
        exact ⟨h1.1, h1.2.trans (mkA_keep (by omega) hb.2.1 (by omega))⟩
  -- one WEEK: the people from p on
  have inner : ∀ (j p q : Nat) (M : zM) (b : zS), p + j = n → q ≤ 60 → zB M → zFr pwW m M → RelA n k M b → okRow n k b.1 → M 17 11 + 1 ≤ 400000 →
      (∀ M2, zB M2 → zFr pwW m M2 → RelA n k M2 (fu (wkP (lawM m) (m 24 0) b p j).1 57 ((wkP (lawM m) (m 24 0) b p j).1 57 + 1), (wkP (lawM m) (m 24 0) b p j).2) → T (D + 5) 175 (2, [(0, zr 1), (1, zi (t : Int)), (2, zi ((q : Int) + 1))], [], M2) κ) →
      T (D + 5) 175 (9, [(0, zr 1), (1, zi (t : Int)), (2, zi (q : Int)), (3, zi (p : Int))], [], M) κ := by
    intro j
    induction j with
    | zero =>
      intro p q M b hp hq hBM hF hRM hb hnw hnx
      have e0 : M 17 0 = m 17 0 := hF 17 0 rfl
      have h11 : 0 ≤ M 17 11 ∧ M 17 11 ≤ 400000 := hBM 17 11
      refine zb175_9 hT rfl hBM ht hq (by omega) (fun _ => ?_) (fun q1 => by omega) (fun q1 => by omega) (fun q1 => by omega)
      refine hnx _ (zB_u hBM (show 0 ≤ M 17 11 + 1 ∧ M 17 11 + 1 ≤ 400000 by omega)) (hF.set rfl) ?_
      obtain ⟨⟨r1, r2, r3, r4, r5, r6⟩, b1, b2, b3⟩ := hRM
      refine ⟨⟨fun p hp => ?_, fun d hd => ?_, ?_, fun i hi => ?_, ?_, ?_⟩, ?_, ?_, ?_⟩
      · simp (disch := omega) only [zu_dn, fu_ne, wkP]
        exact r1 p hp
      · simp (disch := omega) only [zu_dn, fu_ne, wkP]
        exact r2 d hd
      · simp (disch := omega) only [zu_dn, fu_ne, wkP]
        exact r3
      · have h56 := hb.2.1
        simp (disch := omega) only [zu_dn, fu_ne, wkP] at hi
        simp (disch := omega) only [zu_dn, fu_ne, wkP]
        exact r4 i hi
      · simp (disch := omega) only [zu_sm, fu_eq, wkP]
        omega
      · simp (disch := omega) only [zu_off, fu_ne, wkP]
        exact r6
      · simp (disch := omega) only [zu_off, wkP]
        exact b1
      · simp (disch := omega) only [zu_off, wkP]
        exact b2
      · simp (disch := omega) only [zu_off, wkP]
        exact b3
    | succ j ih =>
      intro p q M b hp hq hBM hF hRM hb hnw hnx
      have e0 : M 17 0 = m 17 0 := hF 17 0 rfl
      have e1 : M 17 1 = m 17 1 := hF 17 1 rfl
      have e18 : M 18 p = m 18 p := hF 18 p rfl
      have e24 : M 24 0 = m 24 0 := hF 24 0 rfl
      obtain ⟨w1, w2⟩ := hb.1 p (by omega)
      obtain ⟨g1, g2⟩ := hRM.1.1 p (by omega)
      rw [wkP] at hnx
      refine zb175_9 hT rfl hBM ht hq (by omega) (fun q1 => by omega) (fun q1 q2 => ?_) (fun q1 q2 q3 => ?_) (fun q1 q2 q3 => ?_)
      · rw [if_pos (by omega)] at hnx
        exact ih (p + 1) q M b (by omega) hq hBM hF hRM hb hnw hnx
      · omega
      · rw [if_neg (by omega)] at hnx
        obtain ⟨pl, hpl⟩ : ∃ pl : Nat, M 19 p = (pl : Int) := ⟨(M 19 p).toNat, by omega⟩
        obtain ⟨c, hc⟩ : ∃ c : Nat, M 20 p = (c : Int) := ⟨(M 20 p).toNat, by omega⟩
        have hLW := LW_fr hF pwL
        refine z_lawNow hT hBM (by omega) (by rw [e18]; exact hh p (by omega)) hpl (by omega) (hLW.2 hWF) (fun m1 hB1 hF1 => ?_)
        rw [hc]
        have f1 : ∀ c j, c ≠ 13 → m1 c j = M c j := fun c j hc => hF1 c j (q_beqF hc)
        have hF2 : zFr pwW m m1 := hF.trans (hF1.mono (fun c j hc => by
          simp only [pwW, Bool.or_eq_false_iff] at hc
          exact hc.2.1))
        refine zb175_57 hT rfl ht hq (by omega) LWB (by omega) ?_
        have hR1 : RelA n k m1 b := by
          obtain ⟨⟨r1, r2, r3, r4, r5, r6⟩, b1, b2, b3⟩ := hRM
          refine ⟨⟨fun p hp => ?_, fun d hd => ?_, ?_, fun i hi => ?_, ?_, ?_⟩, ?_, ?_, ?_⟩
          · rw [f1 19 p (by omega), f1 20 p (by omega)]
            exact r1 p hp
          · rw [f1 21 d (by omega), f1 22 d (by omega), f1 23 d (by omega)]
            exact r2 d hd
          · rw [f1 25 2 (by omega)]
            exact r3
          · rw [f1 26 i (by omega)]
            exact r4 i hi
          · rw [f1 17 11 (by omega)]
            exact r5
          · rw [f1 17 10 (by omega)]
            exact r6
          · rw [f1 17 12 (by omega)]
            exact b1
          · rw [f1 17 13 (by omega)]
            exact b2
          · rw [f1 17 14 (by omega)]
            exact b3
        refine z_tailor hT hB1 (by omega) (by omega) (by omega) LWB hR1 (fun m2 hB2 hFt hR2 => ?_)
        refine zb175_60 hT rfl ht hq (by omega) ?_
        have e57 : b.1 57 = M 17 11 := hRM.1.2.2.2.2.1.symm
        have eL : LW M (M 18 p) (p : Int) pl (M 17 11) = lawM m p (b.1 p) (b.1 57) := by
          unfold lawM
          rw [hLW.1, e18, e57, ← g1, hpl]
          rfl
        have ec : (b.1 (p + 6)).toNat = c := by omega
        rw [eL, f1 24 0 (by omega), e24] at hR2
        rw [ec] at hnx
        have hFr2 : zFr pwW m m2 := hF2.trans (hFt.mono (fun c j hc => by
          simp only [pwW, Bool.or_eq_false_iff] at hc
          exact hc.1))
        have en2 : m2 17 11 = M 17 11 := by rw [hFt 17 11 rfl, f1 17 11 (by omega)]
        exact ih (p + 1) q m2 _ (by omega) hq hB2 hFr2 hR2 (hb.mk (by omega) (by omega) (hB 24 0).1 (by omega)) (by omega) hnx
  have outer : ∀ (j q : Nat) (M : zM) (b : zS), q + j = t → zB M → zFr pwW m M → RelA n k M b → okRow n k b.1 → b.1 57 + j = a.1 57 + t → wksA (lawM m) (m 24 0) n b j = wksA (lawM m) (m 24 0) n a t → T (D + 5) 175 (2, [(0, zr 1), (1, zi (t : Int)), (2, zi (q : Int))], [], M) κ := by
    intro j
    induction j with
    | zero =>
      intro q M b hq hBM hF hRM hb h57 hw
      rw [wksA] at hw
      refine zb175_2 hT rfl ht (by omega) (fun _ => ?_) (fun q1 => by omega)
      refine hk M hBM hF (by rw [← hw]; exact hRM) (by rw [← hw]; exact hb) (by rw [← hw]; omega)
    | succ j ih =>
      intro q M b hq hBM hF hRM hb h57 hw
      have e57 : M 17 11 = b.1 57 := hRM.1.2.2.2.2.1
      have a57 : m 17 11 = a.1 57 := hR.1.2.2.2.2.1
      refine zb175_2 hT rfl ht (by omega) (fun q1 => by omega) (fun _ => ?_)
      refine inner n 0 q M b (by omega) (by omega) hBM hF hRM hb (by omega) (fun M2 h2 hF2 hR2 => ?_)
      obtain ⟨ok2, e2⟩ := wkL n 0 b hb (by omega)
      rw [wksA] at hw
      refine ih (q + 1) M2 (wkA (lawM m) (m 24 0) n b) (by omega) h2 hF2 hR2 ?_ ?_ hw
      · obtain ⟨o1, o2, o3, o4⟩ := ok2
        refine ⟨fun p hp => ?_, ?_, ?_, fun c hc => ?_⟩
        · unfold wkA
          simp (disch := omega) only [fu_ne]
          exact o1 p hp
        · unfold wkA
          simp (disch := omega) only [fu_ne]
          exact o2
        · unfold wkA
          simp (disch := omega) only [fu_eq]
          omega
        · unfold wkA
          simp (disch := omega) only [fu_ne]
          exact o4 c hc
      · unfold wkA
        simp (disch := omega) only [fu_eq]
        omega
  exact zb175_0 hT ht (outer t 0 m a (by omega) hB zFr.refl hR ho rfl rfl)
end ZWeeks
end
