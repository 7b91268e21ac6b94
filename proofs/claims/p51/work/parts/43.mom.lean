/-! Moments: what the class keeps of its cells; rows laid into rows. -/
theorem z_cp_dn {m : zM} {q0 q1 sp dp n c j : Nat} (h : c ≠ q1) : z_cp m q0 q1 sp dp n c j = m c j := z_cp_df (q_beqF h)
theorem z_cp_in {m : zM} {q0 q1 sp dp n j : Nat} (h : dp ≤ j ∧ j < dp + n) : z_cp m q0 q1 sp dp n q1 j = m q0 (sp + (j - dp)) := by rw [z_cp_at, if_pos h]
theorem z_cp_of {m : zM} {q0 q1 sp dp n j : Nat} (h : ¬ (dp ≤ j ∧ j < dp + n)) : z_cp m q0 q1 sp dp n q1 j = m q1 j := by rw [z_cp_at, if_neg h]
noncomputable def cmom (m : zM) (j : Nat) : Int := if j < 6 then m 19 j else if j < 12 then m 20 (j - 6) else if j < 20 then m 21 (j - 12) else if j < 28 then m 22 (j - 20) else if j < 36 then m 23 (j - 28) else if j < 56 then m 26 (j - 36) else if j = 56 then m 25 2 else if j = 57 then m 17 10 else m 17 11
noncomputable def rowW (q c _j : Nat) : Bool := Nat.beq c q
noncomputable def rtW (c j : Nat) : Bool := (Nat.beq c 19 || (Nat.beq c 20 || (Nat.beq c 21 || (Nat.beq c 22 || (Nat.beq c 23 || Nat.beq c 26))))) || ((Nat.beq c 25 && Nat.beq j 2) || (Nat.beq c 17 && (Nat.beq j 10 || Nat.beq j 11)))
/-- a kept moment says what the row says -/
noncomputable def RelM (n k : Nat) (r g : Nat → Int) : Prop :=
  (∀ p, p < n → r p = g p ∧ r (p + 6) = g (p + 6)) ∧ (∀ c, c < k → r (c + 12) = g (c + 12) ∧ r (c + 20) = g (c + 20) ∧ r (c + 28) = g (c + 28)) ∧ r 56 = g 56 ∧ (∀ i : Nat, (i : Int) < g 56 → r (i + 36) = g (i + 36)) ∧ r 58 = g 57 ∧ r 57 = g 58
theorem RelM.of {n k : Nat} {m : zM} {r g : Nat → Int} (hn : n ≤ 6) (hk : k ≤ 8) (h20 : g 56 ≤ 20) (h : Rel n k m g) (hr : ∀ j, j < 59 → r j = cmom m j) : RelM n k r g := by
  obtain ⟨r1, r2, r3, r4, r5, r6⟩ := h
  refine ⟨fun p hp => ?_, fun c hc => ?_, ?_, fun i hi => ?_, ?_, ?_⟩
  · rw [hr p (by omega), hr (p + 6) (by omega)]
    unfold cmom
    rw [if_pos (by omega), if_neg (by omega), if_pos (by omega), Nat.add_sub_cancel]
    exact r1 p hp
  · rw [hr (c + 12) (by omega), hr (c + 20) (by omega), hr (c + 28) (by omega)]
    unfold cmom
    rw [if_neg (by omega), if_neg (by omega), if_pos (by omega), if_neg (by omega), if_neg (by omega), if_neg (by omega), if_pos (by omega), if_neg (by omega), if_neg (by omega), if_neg (by omega), if_neg (by omega), if_pos (by omega), Nat.add_sub_cancel, Nat.add_sub_cancel, Nat.add_sub_cancel]
    exact r2 c hc
  · rw [hr 56 (by omega)]
    exact r3
  · rw [hr (i + 36) (by omega)]
    unfold cmom
    rw [if_neg (by omega), if_neg (by omega), if_neg (by omega), if_neg (by omega), if_neg (by omega), if_pos (by omega), Nat.add_sub_cancel]
    exact r4 i hi
  · rw [hr 58 (by omega)]
    exact r5
  · rw [hr 57 (by omega)]
    exact r6
/-- what is brought back -/
noncomputable def Brought (m1 : zM) (r : Nat → Int) : Prop := (∀ j, j < 6 → m1 19 j = r j ∧ m1 20 j = r (j + 6)) ∧ (∀ j, j < 8 → m1 21 j = r (j + 12) ∧ m1 22 j = r (j + 20) ∧ m1 23 j = r (j + 28)) ∧ m1 25 2 = r 56 ∧ (∀ j, j < 20 → m1 26 j = r (j + 36)) ∧ m1 17 11 = r 58 ∧ m1 17 10 = r 57
theorem Brought.rel {n k : Nat} {m1 : zM} {r g : Nat → Int} (hn : n ≤ 6) (hk : k ≤ 8) (h20 : g 56 ≤ 20) (hb : Brought m1 r) (h : RelM n k r g) : Rel n k m1 g := by
  obtain ⟨b1, b2, b3, b4, b5, b6⟩ := hb
  obtain ⟨r1, r2, r3, r4, r5, r6⟩ := h
  refine ⟨fun p hp => ?_, fun c hc => ?_, b3.trans r3, fun i hi => ?_, b5.trans r5, b6.trans r6⟩
  · rw [(b1 p (by omega)).1, (b1 p (by omega)).2]
    exact r1 p hp
  · rw [(b2 c (by omega)).1, (b2 c (by omega)).2.1, (b2 c (by omega)).2.2]
    exact r2 c hc
  · rw [b4 i (by omega)]
    exact r4 i hi
theorem zFr.cp {S : Nat → Nat → Bool} {m m1 : zM} {q0 q1 sp dp n : Nat} (h : zFr S m m1) (hs : ∀ j, S q1 j = true) : zFr S m (z_cp m1 q0 q1 sp dp n) := by
  intro c j hc
  by_cases e : c = q1
  · subst e
    rw [hs j] at hc
    cases hc
  · rw [z_cp_dn e]
    exact h c j hc
section ZMom
variable {T : Nat → Nat → zG → (Option zA → zM → Prop) → Prop} {D : Nat} {κ : Option zA → zM → Prop} {m : zM}
theorem z_wt30 (hT : zRules T) (hB : zB m) (h : ∀ m1, zB m1 → zFr (rowW 30) m m1 → (∀ j, j < 59 → m1 30 j = cmom m j) → κ none m1) : T (D + 1) 42 (0, [(0, zr 17), (1, zr 30)], [], m) κ := by
  refine zb42_0_30 hT hB (fun hz => h _ hz ?_ ?_)
  · intro c j hc
    have e : c ≠ 30 := Nat.ne_of_beq_eq_false hc
    simp (disch := assumption) only [zu_dn, z_cp_dn]
  · intro j hj
    unfold cmom
    split
    · simp (disch := omega) only [zu_off, zu_dn, z_cp_of, z_cp_in, z_cp_dn, Nat.zero_add, Nat.sub_zero]
    · split
      · simp (disch := omega) only [zu_off, zu_dn, z_cp_of, z_cp_in, z_cp_dn, Nat.zero_add, Nat.sub_zero]
      · split
        · simp (disch := omega) only [zu_off, zu_dn, z_cp_of, z_cp_in, z_cp_dn, Nat.zero_add, Nat.sub_zero]
        · split
          · simp (disch := omega) only [zu_off, zu_dn, z_cp_of, z_cp_in, z_cp_dn, Nat.zero_add, Nat.sub_zero]
          · split
            · simp (disch := omega) only [zu_off, zu_dn, z_cp_of, z_cp_in, z_cp_dn, Nat.zero_add, Nat.sub_zero]
            · split
              · simp (disch := omega) only [zu_off, zu_dn, z_cp_of, z_cp_in, z_cp_dn, Nat.zero_add, Nat.sub_zero]
              · split
                · simp (disch := omega) only [zu_off, zu_sm]
                · split
                  · simp (disch := omega) only [zu_off, zu_sm]
                  · simp (disch := omega) only [zu_off, zu_sm]
theorem z_rt30 (hT : zRules T) (hB : zB m) (h : ∀ m1, zB m1 → zFr rtW m m1 → Brought m1 (m 30) → κ none m1) : T (D + 1) 43 (0, [(0, zr 17), (1, zr 30)], [], m) κ := by
  refine zb43_0_30 hT hB (fun hz => h _ hz ?_ ?_)
  · refine ((zFr.cp (zFr.cp (zFr.cp (zFr.cp (zFr.cp (zFr.cp zFr.refl (fun _ => rfl)) (fun _ => rfl)) (fun _ => rfl)) (fun _ => rfl)) (fun _ => rfl)) (fun _ => rfl)).set rfl).set rfl |>.set rfl
  · refine ⟨fun j hj => ?_, fun j hj => ?_, ?_, fun j hj => ?_, ?_, ?_⟩
    · simp (disch := omega) only [zu_off, zu_dn, z_cp_in, z_cp_dn, Nat.zero_add, Nat.sub_zero]
      exact ⟨trivial, by rw [Nat.add_comm]⟩
    · simp (disch := omega) only [zu_off, zu_dn, z_cp_in, z_cp_dn, Nat.zero_add, Nat.sub_zero]
      exact ⟨by rw [Nat.add_comm], by rw [Nat.add_comm], by rw [Nat.add_comm]⟩
    · simp (disch := omega) only [zu_sm, zu_dn]
    · simp (disch := omega) only [zu_off, zu_dn, z_cp_in, z_cp_dn, Nat.zero_add, Nat.sub_zero]
      rw [Nat.add_comm]
    · simp (disch := omega) only [zu_sm]
    · simp (disch := omega) only [zu_off, zu_sm]
theorem z_wt31 (hT : zRules T) (hB : zB m) (h : ∀ m1, zB m1 → zFr (rowW 31) m m1 → (∀ j, j < 59 → m1 31 j = cmom m j) → κ none m1) : T (D + 1) 42 (0, [(0, zr 17), (1, zr 31)], [], m) κ := by
  refine zb42_0_31 hT hB (fun hz => h _ hz ?_ ?_)
  · intro c j hc
    have e : c ≠ 31 := Nat.ne_of_beq_eq_false hc
    simp (disch := assumption) only [zu_dn, z_cp_dn]
  · intro j hj
    unfold cmom
    split
    · simp (disch := omega) only [zu_off, zu_dn, z_cp_of, z_cp_in, z_cp_dn, Nat.zero_add, Nat.sub_zero]
    · split
      · simp (disch := omega) only [zu_off, zu_dn, z_cp_of, z_cp_in, z_cp_dn, Nat.zero_add, Nat.sub_zero]
      · split
        · simp (disch := omega) only [zu_off, zu_dn, z_cp_of, z_cp_in, z_cp_dn, Nat.zero_add, Nat.sub_zero]
        · split
          · simp (disch := omega) only [zu_off, zu_dn, z_cp_of, z_cp_in, z_cp_dn, Nat.zero_add, Nat.sub_zero]
          · split
            · simp (disch := omega) only [zu_off, zu_dn, z_cp_of, z_cp_in, z_cp_dn, Nat.zero_add, Nat.sub_zero]
            · split
              · simp (disch := omega) only [zu_off, zu_dn, z_cp_of, z_cp_in, z_cp_dn, Nat.zero_add, Nat.sub_zero]
              · split
                · simp (disch := omega) only [zu_off, zu_sm]
                · split
                  · simp (disch := omega) only [zu_off, zu_sm]
                  · simp (disch := omega) only [zu_off, zu_sm]
theorem z_rt31 (hT : zRules T) (hB : zB m) (h : ∀ m1, zB m1 → zFr rtW m m1 → Brought m1 (m 31) → κ none m1) : T (D + 1) 43 (0, [(0, zr 17), (1, zr 31)], [], m) κ := by
  refine zb43_0_31 hT hB (fun hz => h _ hz ?_ ?_)
  · refine ((zFr.cp (zFr.cp (zFr.cp (zFr.cp (zFr.cp (zFr.cp zFr.refl (fun _ => rfl)) (fun _ => rfl)) (fun _ => rfl)) (fun _ => rfl)) (fun _ => rfl)) (fun _ => rfl)).set rfl).set rfl |>.set rfl
  · refine ⟨fun j hj => ?_, fun j hj => ?_, ?_, fun j hj => ?_, ?_, ?_⟩
    · simp (disch := omega) only [zu_off, zu_dn, z_cp_in, z_cp_dn, Nat.zero_add, Nat.sub_zero]
      exact ⟨trivial, by rw [Nat.add_comm]⟩
    · simp (disch := omega) only [zu_off, zu_dn, z_cp_in, z_cp_dn, Nat.zero_add, Nat.sub_zero]
      exact ⟨by rw [Nat.add_comm], by rw [Nat.add_comm], by rw [Nat.add_comm]⟩
    · simp (disch := omega) only [zu_sm, zu_dn]
    · simp (disch := omega) only [zu_off, zu_dn, z_cp_in, z_cp_dn, Nat.zero_add, Nat.sub_zero]
      rw [Nat.add_comm]
    · simp (disch := omega) only [zu_sm]
    · simp (disch := omega) only [zu_off, zu_sm]
theorem z_wt32 (hT : zRules T) (hB : zB m) (h : ∀ m1, zB m1 → zFr (rowW 32) m m1 → (∀ j, j < 59 → m1 32 j = cmom m j) → κ none m1) : T (D + 1) 42 (0, [(0, zr 17), (1, zr 32)], [], m) κ := by
  refine zb42_0_32 hT hB (fun hz => h _ hz ?_ ?_)
  · intro c j hc
    have e : c ≠ 32 := Nat.ne_of_beq_eq_false hc
    simp (disch := assumption) only [zu_dn, z_cp_dn]
  · intro j hj
    unfold cmom
    split
    · simp (disch := omega) only [zu_off, zu_dn, z_cp_of, z_cp_in, z_cp_dn, Nat.zero_add, Nat.sub_zero]
    · split
      · simp (disch := omega) only [zu_off, zu_dn, z_cp_of, z_cp_in, z_cp_dn, Nat.zero_add, Nat.sub_zero]
      · split
        · simp (disch := omega) only [zu_off, zu_dn, z_cp_of, z_cp_in, z_cp_dn, Nat.zero_add, Nat.sub_zero]
        · split
          · simp (disch := omega) only [zu_off, zu_dn, z_cp_of, z_cp_in, z_cp_dn, Nat.zero_add, Nat.sub_zero]
          · split
            · simp (disch := omega) only [zu_off, zu_dn, z_cp_of, z_cp_in, z_cp_dn, Nat.zero_add, Nat.sub_zero]
            · split
              · simp (disch := omega) only [zu_off, zu_dn, z_cp_of, z_cp_in, z_cp_dn, Nat.zero_add, Nat.sub_zero]
              · split
                · simp (disch := omega) only [zu_off, zu_sm]
                · split
                  · simp (disch := omega) only [zu_off, zu_sm]
                  · simp (disch := omega) only [zu_off, zu_sm]
theorem z_rt32 (hT : zRules T) (hB : zB m) (h : ∀ m1, zB m1 → zFr rtW m m1 → Brought m1 (m 32) → κ none m1) : T (D + 1) 43 (0, [(0, zr 17), (1, zr 32)], [], m) κ := by
  refine zb43_0_32 hT hB (fun hz => h _ hz ?_ ?_)
  · refine ((zFr.cp (zFr.cp (zFr.cp (zFr.cp (zFr.cp (zFr.cp zFr.refl (fun _ => rfl)) (fun _ => rfl)) (fun _ => rfl)) (fun _ => rfl)) (fun _ => rfl)) (fun _ => rfl)).set rfl).set rfl |>.set rfl
  · refine ⟨fun j hj => ?_, fun j hj => ?_, ?_, fun j hj => ?_, ?_, ?_⟩
    · simp (disch := omega) only [zu_off, zu_dn, z_cp_in, z_cp_dn, Nat.zero_add, Nat.sub_zero]
      exact ⟨trivial, by rw [Nat.add_comm]⟩
    · simp (disch := omega) only [zu_off, zu_dn, z_cp_in, z_cp_dn, Nat.zero_add, Nat.sub_zero]
      exact ⟨by rw [Nat.add_comm], by rw [Nat.add_comm], by rw [Nat.add_comm]⟩
    · simp (disch := omega) only [zu_sm, zu_dn]
    · simp (disch := omega) only [zu_off, zu_dn, z_cp_in, z_cp_dn, Nat.zero_add, Nat.sub_zero]
      rw [Nat.add_comm]
    · simp (disch := omega) only [zu_sm]
    · simp (disch := omega) only [zu_off, zu_sm]
theorem z_wt33 (hT : zRules T) (hB : zB m) (h : ∀ m1, zB m1 → zFr (rowW 33) m m1 → (∀ j, j < 59 → m1 33 j = cmom m j) → κ none m1) : T (D + 1) 42 (0, [(0, zr 17), (1, zr 33)], [], m) κ := by
  refine zb42_0_33 hT hB (fun hz => h _ hz ?_ ?_)
  · intro c j hc
    have e : c ≠ 33 := Nat.ne_of_beq_eq_false hc
    simp (disch := assumption) only [zu_dn, z_cp_dn]
  · intro j hj
    unfold cmom
    split
    · simp (disch := omega) only [zu_off, zu_dn, z_cp_of, z_cp_in, z_cp_dn, Nat.zero_add, Nat.sub_zero]
    · split
      · simp (disch := omega) only [zu_off, zu_dn, z_cp_of, z_cp_in, z_cp_dn, Nat.zero_add, Nat.sub_zero]
      · split
        · simp (disch := omega) only [zu_off, zu_dn, z_cp_of, z_cp_in, z_cp_dn, Nat.zero_add, Nat.sub_zero]
        · split
          · simp (disch := omega) only [zu_off, zu_dn, z_cp_of, z_cp_in, z_cp_dn, Nat.zero_add, Nat.sub_zero]
          · split
            · simp (disch := omega) only [zu_off, zu_dn, z_cp_of, z_cp_in, z_cp_dn, Nat.zero_add, Nat.sub_zero]
            · split
              · simp (disch := omega) only [zu_off, zu_dn, z_cp_of, z_cp_in, z_cp_dn, Nat.zero_add, Nat.sub_zero]
              · split
                · simp (disch := omega) only [zu_off, zu_sm]
                · split
                  · simp (disch := omega) only [zu_off, zu_sm]
                  · simp (disch := omega) only [zu_off, zu_sm]
theorem z_rt33 (hT : zRules T) (hB : zB m) (h : ∀ m1, zB m1 → zFr rtW m m1 → Brought m1 (m 33) → κ none m1) : T (D + 1) 43 (0, [(0, zr 17), (1, zr 33)], [], m) κ := by
  refine zb43_0_33 hT hB (fun hz => h _ hz ?_ ?_)
  · refine ((zFr.cp (zFr.cp (zFr.cp (zFr.cp (zFr.cp (zFr.cp zFr.refl (fun _ => rfl)) (fun _ => rfl)) (fun _ => rfl)) (fun _ => rfl)) (fun _ => rfl)) (fun _ => rfl)).set rfl).set rfl |>.set rfl
  · refine ⟨fun j hj => ?_, fun j hj => ?_, ?_, fun j hj => ?_, ?_, ?_⟩
    · simp (disch := omega) only [zu_off, zu_dn, z_cp_in, z_cp_dn, Nat.zero_add, Nat.sub_zero]
      exact ⟨trivial, by rw [Nat.add_comm]⟩
    · simp (disch := omega) only [zu_off, zu_dn, z_cp_in, z_cp_dn, Nat.zero_add, Nat.sub_zero]
      exact ⟨by rw [Nat.add_comm], by rw [Nat.add_comm], by rw [Nat.add_comm]⟩
    · simp (disch := omega) only [zu_sm, zu_dn]
    · simp (disch := omega) only [zu_off, zu_dn, z_cp_in, z_cp_dn, Nat.zero_add, Nat.sub_zero]
      rw [Nat.add_comm]
    · simp (disch := omega) only [zu_sm]
    · simp (disch := omega) only [zu_off, zu_sm]
theorem z_wt34 (hT : zRules T) (hB : zB m) (h : ∀ m1, zB m1 → zFr (rowW 34) m m1 → (∀ j, j < 59 → m1 34 j = cmom m j) → κ none m1) : T (D + 1) 42 (0, [(0, zr 17), (1, zr 34)], [], m) κ := by
  refine zb42_0_34 hT hB (fun hz => h _ hz ?_ ?_)
  · intro c j hc
    have e : c ≠ 34 := Nat.ne_of_beq_eq_false hc
    simp (disch := assumption) only [zu_dn, z_cp_dn]
  · intro j hj
    unfold cmom
    split
    · simp (disch := omega) only [zu_off, zu_dn, z_cp_of, z_cp_in, z_cp_dn, Nat.zero_add, Nat.sub_zero]
    · split
      · simp (disch := omega) only [zu_off, zu_dn, z_cp_of, z_cp_in, z_cp_dn, Nat.zero_add, Nat.sub_zero]
      · split
        · simp (disch := omega) only [zu_off, zu_dn, z_cp_of, z_cp_in, z_cp_dn, Nat.zero_add, Nat.sub_zero]
        · split
          · simp (disch := omega) only [zu_off, zu_dn, z_cp_of, z_cp_in, z_cp_dn, Nat.zero_add, Nat.sub_zero]
          · split
            · simp (disch := omega) only [zu_off, zu_dn, z_cp_of, z_cp_in, z_cp_dn, Nat.zero_add, Nat.sub_zero]
            · split
              · simp (disch := omega) only [zu_off, zu_dn, z_cp_of, z_cp_in, z_cp_dn, Nat.zero_add, Nat.sub_zero]
              · split
                · simp (disch := omega) only [zu_off, zu_sm]
                · split
                  · simp (disch := omega) only [zu_off, zu_sm]
                  · simp (disch := omega) only [zu_off, zu_sm]
theorem z_rt34 (hT : zRules T) (hB : zB m) (h : ∀ m1, zB m1 → zFr rtW m m1 → Brought m1 (m 34) → κ none m1) : T (D + 1) 43 (0, [(0, zr 17), (1, zr 34)], [], m) κ := by
  refine zb43_0_34 hT hB (fun hz => h _ hz ?_ ?_)
  · refine ((zFr.cp (zFr.cp (zFr.cp (zFr.cp (zFr.cp (zFr.cp zFr.refl (fun _ => rfl)) (fun _ => rfl)) (fun _ => rfl)) (fun _ => rfl)) (fun _ => rfl)) (fun _ => rfl)).set rfl).set rfl |>.set rfl
  · refine ⟨fun j hj => ?_, fun j hj => ?_, ?_, fun j hj => ?_, ?_, ?_⟩
    · simp (disch := omega) only [zu_off, zu_dn, z_cp_in, z_cp_dn, Nat.zero_add, Nat.sub_zero]
      exact ⟨trivial, by rw [Nat.add_comm]⟩
    · simp (disch := omega) only [zu_off, zu_dn, z_cp_in, z_cp_dn, Nat.zero_add, Nat.sub_zero]
      exact ⟨by rw [Nat.add_comm], by rw [Nat.add_comm], by rw [Nat.add_comm]⟩
    · simp (disch := omega) only [zu_sm, zu_dn]
    · simp (disch := omega) only [zu_off, zu_dn, z_cp_in, z_cp_dn, Nat.zero_add, Nat.sub_zero]
      rw [Nat.add_comm]
    · simp (disch := omega) only [zu_sm]
    · simp (disch := omega) only [zu_off, zu_sm]
theorem z_wt35 (hT : zRules T) (hB : zB m) (h : ∀ m1, zB m1 → zFr (rowW 35) m m1 → (∀ j, j < 59 → m1 35 j = cmom m j) → κ none m1) : T (D + 1) 42 (0, [(0, zr 17), (1, zr 35)], [], m) κ := by
  refine zb42_0_35 hT hB (fun hz => h _ hz ?_ ?_)
  · intro c j hc
    have e : c ≠ 35 := Nat.ne_of_beq_eq_false hc
    simp (disch := assumption) only [zu_dn, z_cp_dn]
  · intro j hj
    unfold cmom
    split
    · simp (disch := omega) only [zu_off, zu_dn, z_cp_of, z_cp_in, z_cp_dn, Nat.zero_add, Nat.sub_zero]
    · split
      · simp (disch := omega) only [zu_off, zu_dn, z_cp_of, z_cp_in, z_cp_dn, Nat.zero_add, Nat.sub_zero]
      · split
        · simp (disch := omega) only [zu_off, zu_dn, z_cp_of, z_cp_in, z_cp_dn, Nat.zero_add, Nat.sub_zero]
        · split
          · simp (disch := omega) only [zu_off, zu_dn, z_cp_of, z_cp_in, z_cp_dn, Nat.zero_add, Nat.sub_zero]
          · split
            · simp (disch := omega) only [zu_off, zu_dn, z_cp_of, z_cp_in, z_cp_dn, Nat.zero_add, Nat.sub_zero]
            · split
              · simp (disch := omega) only [zu_off, zu_dn, z_cp_of, z_cp_in, z_cp_dn, Nat.zero_add, Nat.sub_zero]
              · split
                · simp (disch := omega) only [zu_off, zu_sm]
                · split
                  · simp (disch := omega) only [zu_off, zu_sm]
                  · simp (disch := omega) only [zu_off, zu_sm]
theorem z_rt35 (hT : zRules T) (hB : zB m) (h : ∀ m1, zB m1 → zFr rtW m m1 → Brought m1 (m 35) → κ none m1) : T (D + 1) 43 (0, [(0, zr 17), (1, zr 35)], [], m) κ := by
  refine zb43_0_35 hT hB (fun hz => h _ hz ?_ ?_)
  · refine ((zFr.cp (zFr.cp (zFr.cp (zFr.cp (zFr.cp (zFr.cp zFr.refl (fun _ => rfl)) (fun _ => rfl)) (fun _ => rfl)) (fun _ => rfl)) (fun _ => rfl)) (fun _ => rfl)).set rfl).set rfl |>.set rfl
  · refine ⟨fun j hj => ?_, fun j hj => ?_, ?_, fun j hj => ?_, ?_, ?_⟩
    · simp (disch := omega) only [zu_off, zu_dn, z_cp_in, z_cp_dn, Nat.zero_add, Nat.sub_zero]
      exact ⟨trivial, by rw [Nat.add_comm]⟩
    · simp (disch := omega) only [zu_off, zu_dn, z_cp_in, z_cp_dn, Nat.zero_add, Nat.sub_zero]
      exact ⟨by rw [Nat.add_comm], by rw [Nat.add_comm], by rw [Nat.add_comm]⟩
    · simp (disch := omega) only [zu_sm, zu_dn]
    · simp (disch := omega) only [zu_off, zu_dn, z_cp_in, z_cp_dn, Nat.zero_add, Nat.sub_zero]
      rw [Nat.add_comm]
    · simp (disch := omega) only [zu_sm]
    · simp (disch := omega) only [zu_off, zu_sm]
theorem z_wt36 (hT : zRules T) (hB : zB m) (h : ∀ m1, zB m1 → zFr (rowW 36) m m1 → (∀ j, j < 59 → m1 36 j = cmom m j) → κ none m1) : T (D + 1) 42 (0, [(0, zr 17), (1, zr 36)], [], m) κ := by
  refine zb42_0_36 hT hB (fun hz => h _ hz ?_ ?_)
  · intro c j hc
    have e : c ≠ 36 := Nat.ne_of_beq_eq_false hc
    simp (disch := assumption) only [zu_dn, z_cp_dn]
  · intro j hj
    unfold cmom
    split
    · simp (disch := omega) only [zu_off, zu_dn, z_cp_of, z_cp_in, z_cp_dn, Nat.zero_add, Nat.sub_zero]
    · split
      · simp (disch := omega) only [zu_off, zu_dn, z_cp_of, z_cp_in, z_cp_dn, Nat.zero_add, Nat.sub_zero]
      · split
        · simp (disch := omega) only [zu_off, zu_dn, z_cp_of, z_cp_in, z_cp_dn, Nat.zero_add, Nat.sub_zero]
        · split
          · simp (disch := omega) only [zu_off, zu_dn, z_cp_of, z_cp_in, z_cp_dn, Nat.zero_add, Nat.sub_zero]
          · split
            · simp (disch := omega) only [zu_off, zu_dn, z_cp_of, z_cp_in, z_cp_dn, Nat.zero_add, Nat.sub_zero]
            · split
              · simp (disch := omega) only [zu_off, zu_dn, z_cp_of, z_cp_in, z_cp_dn, Nat.zero_add, Nat.sub_zero]
              · split
                · simp (disch := omega) only [zu_off, zu_sm]
                · split
                  · simp (disch := omega) only [zu_off, zu_sm]
                  · simp (disch := omega) only [zu_off, zu_sm]
theorem z_rt36 (hT : zRules T) (hB : zB m) (h : ∀ m1, zB m1 → zFr rtW m m1 → Brought m1 (m 36) → κ none m1) : T (D + 1) 43 (0, [(0, zr 17), (1, zr 36)], [], m) κ := by
  refine zb43_0_36 hT hB (fun hz => h _ hz ?_ ?_)
  · refine ((zFr.cp (zFr.cp (zFr.cp (zFr.cp (zFr.cp (zFr.cp zFr.refl (fun _ => rfl)) (fun _ => rfl)) (fun _ => rfl)) (fun _ => rfl)) (fun _ => rfl)) (fun _ => rfl)).set rfl).set rfl |>.set rfl
  · refine ⟨fun j hj => ?_, fun j hj => ?_, ?_, fun j hj => ?_, ?_, ?_⟩
    · simp (disch := omega) only [zu_off, zu_dn, z_cp_in, z_cp_dn, Nat.zero_add, Nat.sub_zero]
      exact ⟨trivial, by rw [Nat.add_comm]⟩
    · simp (disch := omega) only [zu_off, zu_dn, z_cp_in, z_cp_dn, Nat.zero_add, Nat.sub_zero]
      exact ⟨by rw [Nat.add_comm], by rw [Nat.add_comm], by rw [Nat.add_comm]⟩
    · simp (disch := omega) only [zu_sm, zu_dn]
    · simp (disch := omega) only [zu_off, zu_dn, z_cp_in, z_cp_dn, Nat.zero_add, Nat.sub_zero]
      rw [Nat.add_comm]
    · simp (disch := omega) only [zu_sm]
    · simp (disch := omega) only [zu_off, zu_sm]
theorem z_wt37 (hT : zRules T) (hB : zB m) (h : ∀ m1, zB m1 → zFr (rowW 37) m m1 → (∀ j, j < 59 → m1 37 j = cmom m j) → κ none m1) : T (D + 1) 42 (0, [(0, zr 17), (1, zr 37)], [], m) κ := by
  refine zb42_0_37 hT hB (fun hz => h _ hz ?_ ?_)
  · intro c j hc
    have e : c ≠ 37 := Nat.ne_of_beq_eq_false hc
    simp (disch := assumption) only [zu_dn, z_cp_dn]
  · intro j hj
    unfold cmom
    split
    · simp (disch := omega) only [zu_off, zu_dn, z_cp_of, z_cp_in, z_cp_dn, Nat.zero_add, Nat.sub_zero]
    · split
      · simp (disch := omega) only [zu_off, zu_dn, z_cp_of, z_cp_in, z_cp_dn, Nat.zero_add, Nat.sub_zero]
      · split
        · simp (disch := omega) only [zu_off, zu_dn, z_cp_of, z_cp_in, z_cp_dn, Nat.zero_add, Nat.sub_zero]
        · split
          · simp (disch := omega) only [zu_off, zu_dn, z_cp_of, z_cp_in, z_cp_dn, Nat.zero_add, Nat.sub_zero]
          · split
            · simp (disch := omega) only [zu_off, zu_dn, z_cp_of, z_cp_in, z_cp_dn, Nat.zero_add, Nat.sub_zero]
            · split
              · simp (disch := omega) only [zu_off, zu_dn, z_cp_of, z_cp_in, z_cp_dn, Nat.zero_add, Nat.sub_zero]
              · split
                · simp (disch := omega) only [zu_off, zu_sm]
                · split
                  · simp (disch := omega) only [zu_off, zu_sm]
                  · simp (disch := omega) only [zu_off, zu_sm]
theorem z_rt37 (hT : zRules T) (hB : zB m) (h : ∀ m1, zB m1 → zFr rtW m m1 → Brought m1 (m 37) → κ none m1) : T (D + 1) 43 (0, [(0, zr 17), (1, zr 37)], [], m) κ := by
  refine zb43_0_37 hT hB (fun hz => h _ hz ?_ ?_)
  · refine ((zFr.cp (zFr.cp (zFr.cp (zFr.cp (zFr.cp (zFr.cp zFr.refl (fun _ => rfl)) (fun _ => rfl)) (fun _ => rfl)) (fun _ => rfl)) (fun _ => rfl)) (fun _ => rfl)).set rfl).set rfl |>.set rfl
  · refine ⟨fun j hj => ?_, fun j hj => ?_, ?_, fun j hj => ?_, ?_, ?_⟩
    · simp (disch := omega) only [zu_off, zu_dn, z_cp_in, z_cp_dn, Nat.zero_add, Nat.sub_zero]
      exact ⟨trivial, by rw [Nat.add_comm]⟩
    · simp (disch := omega) only [zu_off, zu_dn, z_cp_in, z_cp_dn, Nat.zero_add, Nat.sub_zero]
      exact ⟨by rw [Nat.add_comm], by rw [Nat.add_comm], by rw [Nat.add_comm]⟩
    · simp (disch := omega) only [zu_sm, zu_dn]
    · simp (disch := omega) only [zu_off, zu_dn, z_cp_in, z_cp_dn, Nat.zero_add, Nat.sub_zero]
      rw [Nat.add_comm]
    · simp (disch := omega) only [zu_sm]
    · simp (disch := omega) only [zu_off, zu_sm]
theorem z_wt38 (hT : zRules T) (hB : zB m) (h : ∀ m1, zB m1 → zFr (rowW 38) m m1 → (∀ j, j < 59 → m1 38 j = cmom m j) → κ none m1) : T (D + 1) 42 (0, [(0, zr 17), (1, zr 38)], [], m) κ := by
  refine zb42_0_38 hT hB (fun hz => h _ hz ?_ ?_)
  · intro c j hc
    have e : c ≠ 38 := Nat.ne_of_beq_eq_false hc
    simp (disch := assumption) only [zu_dn, z_cp_dn]
  · intro j hj
    unfold cmom
    split
    · simp (disch := omega) only [zu_off, zu_dn, z_cp_of, z_cp_in, z_cp_dn, Nat.zero_add, Nat.sub_zero]
    · split
      · simp (disch := omega) only [zu_off, zu_dn, z_cp_of, z_cp_in, z_cp_dn, Nat.zero_add, Nat.sub_zero]
      · split
        · simp (disch := omega) only [zu_off, zu_dn, z_cp_of, z_cp_in, z_cp_dn, Nat.zero_add, Nat.sub_zero]
        · split
          · simp (disch := omega) only [zu_off, zu_dn, z_cp_of, z_cp_in, z_cp_dn, Nat.zero_add, Nat.sub_zero]
          · split
            · simp (disch := omega) only [zu_off, zu_dn, z_cp_of, z_cp_in, z_cp_dn, Nat.zero_add, Nat.sub_zero]
            · split
              · simp (disch := omega) only [zu_off, zu_dn, z_cp_of, z_cp_in, z_cp_dn, Nat.zero_add, Nat.sub_zero]
              · split
                · simp (disch := omega) only [zu_off, zu_sm]
                · split
                  · simp (disch := omega) only [zu_off, zu_sm]
                  · simp (disch := omega) only [zu_off, zu_sm]
theorem z_rt38 (hT : zRules T) (hB : zB m) (h : ∀ m1, zB m1 → zFr rtW m m1 → Brought m1 (m 38) → κ none m1) : T (D + 1) 43 (0, [(0, zr 17), (1, zr 38)], [], m) κ := by
  refine zb43_0_38 hT hB (fun hz => h _ hz ?_ ?_)
  · refine ((zFr.cp (zFr.cp (zFr.cp (zFr.cp (zFr.cp (zFr.cp zFr.refl (fun _ => rfl)) (fun _ => rfl)) (fun _ => rfl)) (fun _ => rfl)) (fun _ => rfl)) (fun _ => rfl)).set rfl).set rfl |>.set rfl
  · refine ⟨fun j hj => ?_, fun j hj => ?_, ?_, fun j hj => ?_, ?_, ?_⟩
    · simp (disch := omega) only [zu_off, zu_dn, z_cp_in, z_cp_dn, Nat.zero_add, Nat.sub_zero]
      exact ⟨trivial, by rw [Nat.add_comm]⟩
    · simp (disch := omega) only [zu_off, zu_dn, z_cp_in, z_cp_dn, Nat.zero_add, Nat.sub_zero]
      exact ⟨by rw [Nat.add_comm], by rw [Nat.add_comm], by rw [Nat.add_comm]⟩
    · simp (disch := omega) only [zu_sm, zu_dn]
    · simp (disch := omega) only [zu_off, zu_dn, z_cp_in, z_cp_dn, Nat.zero_add, Nat.sub_zero]
      rw [Nat.add_comm]
    · simp (disch := omega) only [zu_sm]
    · simp (disch := omega) only [zu_off, zu_sm]
theorem z_wt39 (hT : zRules T) (hB : zB m) (h : ∀ m1, zB m1 → zFr (rowW 39) m m1 → (∀ j, j < 59 → m1 39 j = cmom m j) → κ none m1) : T (D + 1) 42 (0, [(0, zr 17), (1, zr 39)], [], m) κ := by
  refine zb42_0_39 hT hB (fun hz => h _ hz ?_ ?_)
  · intro c j hc
    have e : c ≠ 39 := Nat.ne_of_beq_eq_false hc
    simp (disch := assumption) only [zu_dn, z_cp_dn]
  · intro j hj
    unfold cmom
    split
    · simp (disch := omega) only [zu_off, zu_dn, z_cp_of, z_cp_in, z_cp_dn, Nat.zero_add, Nat.sub_zero]
    · split
      · simp (disch := omega) only [zu_off, zu_dn, z_cp_of, z_cp_in, z_cp_dn, Nat.zero_add, Nat.sub_zero]
      · split
        · simp (disch := omega) only [zu_off, zu_dn, z_cp_of, z_cp_in, z_cp_dn, Nat.zero_add, Nat.sub_zero]
        · split
          · simp (disch := omega) only [zu_off, zu_dn, z_cp_of, z_cp_in, z_cp_dn, Nat.zero_add, Nat.sub_zero]
          · split
            · simp (disch := omega) only [zu_off, zu_dn, z_cp_of, z_cp_in, z_cp_dn, Nat.zero_add, Nat.sub_zero]
            · split
              · simp (disch := omega) only [zu_off, zu_dn, z_cp_of, z_cp_in, z_cp_dn, Nat.zero_add, Nat.sub_zero]
              · split
                · simp (disch := omega) only [zu_off, zu_sm]
                · split
                  · simp (disch := omega) only [zu_off, zu_sm]
                  · simp (disch := omega) only [zu_off, zu_sm]
theorem z_rt39 (hT : zRules T) (hB : zB m) (h : ∀ m1, zB m1 → zFr rtW m m1 → Brought m1 (m 39) → κ none m1) : T (D + 1) 43 (0, [(0, zr 17), (1, zr 39)], [], m) κ := by
  refine zb43_0_39 hT hB (fun hz => h _ hz ?_ ?_)
  · refine ((zFr.cp (zFr.cp (zFr.cp (zFr.cp (zFr.cp (zFr.cp zFr.refl (fun _ => rfl)) (fun _ => rfl)) (fun _ => rfl)) (fun _ => rfl)) (fun _ => rfl)) (fun _ => rfl)).set rfl).set rfl |>.set rfl
  · refine ⟨fun j hj => ?_, fun j hj => ?_, ?_, fun j hj => ?_, ?_, ?_⟩
    · simp (disch := omega) only [zu_off, zu_dn, z_cp_in, z_cp_dn, Nat.zero_add, Nat.sub_zero]
      exact ⟨trivial, by rw [Nat.add_comm]⟩
    · simp (disch := omega) only [zu_off, zu_dn, z_cp_in, z_cp_dn, Nat.zero_add, Nat.sub_zero]
      exact ⟨by rw [Nat.add_comm], by rw [Nat.add_comm], by rw [Nat.add_comm]⟩
    · simp (disch := omega) only [zu_sm, zu_dn]
    · simp (disch := omega) only [zu_off, zu_dn, z_cp_in, z_cp_dn, Nat.zero_add, Nat.sub_zero]
      rw [Nat.add_comm]
    · simp (disch := omega) only [zu_sm]
    · simp (disch := omega) only [zu_off, zu_sm]
theorem z_wt40 (hT : zRules T) (hB : zB m) (h : ∀ m1, zB m1 → zFr (rowW 40) m m1 → (∀ j, j < 59 → m1 40 j = cmom m j) → κ none m1) : T (D + 1) 42 (0, [(0, zr 17), (1, zr 40)], [], m) κ := by
  refine zb42_0_40 hT hB (fun hz => h _ hz ?_ ?_)
  · intro c j hc
    have e : c ≠ 40 := Nat.ne_of_beq_eq_false hc
    simp (disch := assumption) only [zu_dn, z_cp_dn]
  · intro j hj
    unfold cmom
    split
    · simp (disch := omega) only [zu_off, zu_dn, z_cp_of, z_cp_in, z_cp_dn, Nat.zero_add, Nat.sub_zero]
    · split
      · simp (disch := omega) only [zu_off, zu_dn, z_cp_of, z_cp_in, z_cp_dn, Nat.zero_add, Nat.sub_zero]
      · split
        · simp (disch := omega) only [zu_off, zu_dn, z_cp_of, z_cp_in, z_cp_dn, Nat.zero_add, Nat.sub_zero]
        · split
          · simp (disch := omega) only [zu_off, zu_dn, z_cp_of, z_cp_in, z_cp_dn, Nat.zero_add, Nat.sub_zero]
          · split
            · simp (disch := omega) only [zu_off, zu_dn, z_cp_of, z_cp_in, z_cp_dn, Nat.zero_add, Nat.sub_zero]
            · split
              · simp (disch := omega) only [zu_off, zu_dn, z_cp_of, z_cp_in, z_cp_dn, Nat.zero_add, Nat.sub_zero]
              · split
                · simp (disch := omega) only [zu_off, zu_sm]
                · split
                  · simp (disch := omega) only [zu_off, zu_sm]
                  · simp (disch := omega) only [zu_off, zu_sm]
theorem z_rt40 (hT : zRules T) (hB : zB m) (h : ∀ m1, zB m1 → zFr rtW m m1 → Brought m1 (m 40) → κ none m1) : T (D + 1) 43 (0, [(0, zr 17), (1, zr 40)], [], m) κ := by
  refine zb43_0_40 hT hB (fun hz => h _ hz ?_ ?_)
  · refine ((zFr.cp (zFr.cp (zFr.cp (zFr.cp (zFr.cp (zFr.cp zFr.refl (fun _ => rfl)) (fun _ => rfl)) (fun _ => rfl)) (fun _ => rfl)) (fun _ => rfl)) (fun _ => rfl)).set rfl).set rfl |>.set rfl
  · refine ⟨fun j hj => ?_, fun j hj => ?_, ?_, fun j hj => ?_, ?_, ?_⟩
    · simp (disch := omega) only [zu_off, zu_dn, z_cp_in, z_cp_dn, Nat.zero_add, Nat.sub_zero]
      exact ⟨trivial, by rw [Nat.add_comm]⟩
    · simp (disch := omega) only [zu_off, zu_dn, z_cp_in, z_cp_dn, Nat.zero_add, Nat.sub_zero]
      exact ⟨by rw [Nat.add_comm], by rw [Nat.add_comm], by rw [Nat.add_comm]⟩
    · simp (disch := omega) only [zu_sm, zu_dn]
    · simp (disch := omega) only [zu_off, zu_dn, z_cp_in, z_cp_dn, Nat.zero_add, Nat.sub_zero]
      rw [Nat.add_comm]
    · simp (disch := omega) only [zu_sm]
    · simp (disch := omega) only [zu_off, zu_sm]
theorem z_wt41 (hT : zRules T) (hB : zB m) (h : ∀ m1, zB m1 → zFr (rowW 41) m m1 → (∀ j, j < 59 → m1 41 j = cmom m j) → κ none m1) : T (D + 1) 42 (0, [(0, zr 17), (1, zr 41)], [], m) κ := by
  refine zb42_0_41 hT hB (fun hz => h _ hz ?_ ?_)
  · intro c j hc
    have e : c ≠ 41 := Nat.ne_of_beq_eq_false hc
    simp (disch := assumption) only [zu_dn, z_cp_dn]
  · intro j hj
    unfold cmom
    split
    · simp (disch := omega) only [zu_off, zu_dn, z_cp_of, z_cp_in, z_cp_dn, Nat.zero_add, Nat.sub_zero]
    · split
      · simp (disch := omega) only [zu_off, zu_dn, z_cp_of, z_cp_in, z_cp_dn, Nat.zero_add, Nat.sub_zero]
      · split
        · simp (disch := omega) only [zu_off, zu_dn, z_cp_of, z_cp_in, z_cp_dn, Nat.zero_add, Nat.sub_zero]
        · split
          · simp (disch := omega) only [zu_off, zu_dn, z_cp_of, z_cp_in, z_cp_dn, Nat.zero_add, Nat.sub_zero]
          · split
            · simp (disch := omega) only [zu_off, zu_dn, z_cp_of, z_cp_in, z_cp_dn, Nat.zero_add, Nat.sub_zero]
            · split
              · simp (disch := omega) only [zu_off, zu_dn, z_cp_of, z_cp_in, z_cp_dn, Nat.zero_add, Nat.sub_zero]
              · split
                · simp (disch := omega) only [zu_off, zu_sm]
                · split
                  · simp (disch := omega) only [zu_off, zu_sm]
                  · simp (disch := omega) only [zu_off, zu_sm]
theorem z_rt41 (hT : zRules T) (hB : zB m) (h : ∀ m1, zB m1 → zFr rtW m m1 → Brought m1 (m 41) → κ none m1) : T (D + 1) 43 (0, [(0, zr 17), (1, zr 41)], [], m) κ := by
  refine zb43_0_41 hT hB (fun hz => h _ hz ?_ ?_)
  · refine ((zFr.cp (zFr.cp (zFr.cp (zFr.cp (zFr.cp (zFr.cp zFr.refl (fun _ => rfl)) (fun _ => rfl)) (fun _ => rfl)) (fun _ => rfl)) (fun _ => rfl)) (fun _ => rfl)).set rfl).set rfl |>.set rfl
  · refine ⟨fun j hj => ?_, fun j hj => ?_, ?_, fun j hj => ?_, ?_, ?_⟩
    · simp (disch := omega) only [zu_off, zu_dn, z_cp_in, z_cp_dn, Nat.zero_add, Nat.sub_zero]
      exact ⟨trivial, by rw [Nat.add_comm]⟩
    · simp (disch := omega) only [zu_off, zu_dn, z_cp_in, z_cp_dn, Nat.zero_add, Nat.sub_zero]
      exact ⟨by rw [Nat.add_comm], by rw [Nat.add_comm], by rw [Nat.add_comm]⟩
    · simp (disch := omega) only [zu_sm, zu_dn]
    · simp (disch := omega) only [zu_off, zu_dn, z_cp_in, z_cp_dn, Nat.zero_add, Nat.sub_zero]
      rw [Nat.add_comm]
    · simp (disch := omega) only [zu_sm]
    · simp (disch := omega) only [zu_off, zu_sm]
theorem z_wt42 (hT : zRules T) (hB : zB m) (h : ∀ m1, zB m1 → zFr (rowW 42) m m1 → (∀ j, j < 59 → m1 42 j = cmom m j) → κ none m1) : T (D + 1) 42 (0, [(0, zr 17), (1, zr 42)], [], m) κ := by
  refine zb42_0_42 hT hB (fun hz => h _ hz ?_ ?_)
  · intro c j hc
    have e : c ≠ 42 := Nat.ne_of_beq_eq_false hc
    simp (disch := assumption) only [zu_dn, z_cp_dn]
  · intro j hj
    unfold cmom
    split
    · simp (disch := omega) only [zu_off, zu_dn, z_cp_of, z_cp_in, z_cp_dn, Nat.zero_add, Nat.sub_zero]
    · split
      · simp (disch := omega) only [zu_off, zu_dn, z_cp_of, z_cp_in, z_cp_dn, Nat.zero_add, Nat.sub_zero]
      · split
        · simp (disch := omega) only [zu_off, zu_dn, z_cp_of, z_cp_in, z_cp_dn, Nat.zero_add, Nat.sub_zero]
        · split
          · simp (disch := omega) only [zu_off, zu_dn, z_cp_of, z_cp_in, z_cp_dn, Nat.zero_add, Nat.sub_zero]
          · split
            · simp (disch := omega) only [zu_off, zu_dn, z_cp_of, z_cp_in, z_cp_dn, Nat.zero_add, Nat.sub_zero]
            · split
              · simp (disch := omega) only [zu_off, zu_dn, z_cp_of, z_cp_in, z_cp_dn, Nat.zero_add, Nat.sub_zero]
              · split
                · simp (disch := omega) only [zu_off, zu_sm]
                · split
                  · simp (disch := omega) only [zu_off, zu_sm]
                  · simp (disch := omega) only [zu_off, zu_sm]
theorem z_rt42 (hT : zRules T) (hB : zB m) (h : ∀ m1, zB m1 → zFr rtW m m1 → Brought m1 (m 42) → κ none m1) : T (D + 1) 43 (0, [(0, zr 17), (1, zr 42)], [], m) κ := by
  refine zb43_0_42 hT hB (fun hz => h _ hz ?_ ?_)
  · refine ((zFr.cp (zFr.cp (zFr.cp (zFr.cp (zFr.cp (zFr.cp zFr.refl (fun _ => rfl)) (fun _ => rfl)) (fun _ => rfl)) (fun _ => rfl)) (fun _ => rfl)) (fun _ => rfl)).set rfl).set rfl |>.set rfl
  · refine ⟨fun j hj => ?_, fun j hj => ?_, ?_, fun j hj => ?_, ?_, ?_⟩
    · simp (disch := omega) only [zu_off, zu_dn, z_cp_in, z_cp_dn, Nat.zero_add, Nat.sub_zero]
      exact ⟨trivial, by rw [Nat.add_comm]⟩
    · simp (disch := omega) only [zu_off, zu_dn, z_cp_in, z_cp_dn, Nat.zero_add, Nat.sub_zero]
      exact ⟨by rw [Nat.add_comm], by rw [Nat.add_comm], by rw [Nat.add_comm]⟩
    · simp (disch := omega) only [zu_sm, zu_dn]
    · simp (disch := omega) only [zu_off, zu_dn, z_cp_in, z_cp_dn, Nat.zero_add, Nat.sub_zero]
      rw [Nat.add_comm]
    · simp (disch := omega) only [zu_sm]
    · simp (disch := omega) only [zu_off, zu_sm]
theorem z_wt44 (hT : zRules T) (hB : zB m) (h : ∀ m1, zB m1 → zFr (rowW 44) m m1 → (∀ j, j < 59 → m1 44 j = cmom m j) → κ none m1) : T (D + 1) 42 (0, [(0, zr 17), (1, zr 44)], [], m) κ := by
  refine zb42_0_44 hT hB (fun hz => h _ hz ?_ ?_)
  · intro c j hc
    have e : c ≠ 44 := Nat.ne_of_beq_eq_false hc
    simp (disch := assumption) only [zu_dn, z_cp_dn]
  · intro j hj
    unfold cmom
    split
    · simp (disch := omega) only [zu_off, zu_dn, z_cp_of, z_cp_in, z_cp_dn, Nat.zero_add, Nat.sub_zero]
    · split
      · simp (disch := omega) only [zu_off, zu_dn, z_cp_of, z_cp_in, z_cp_dn, Nat.zero_add, Nat.sub_zero]
      · split
        · simp (disch := omega) only [zu_off, zu_dn, z_cp_of, z_cp_in, z_cp_dn, Nat.zero_add, Nat.sub_zero]
        · split
          · simp (disch := omega) only [zu_off, zu_dn, z_cp_of, z_cp_in, z_cp_dn, Nat.zero_add, Nat.sub_zero]
          · split
            · simp (disch := omega) only [zu_off, zu_dn, z_cp_of, z_cp_in, z_cp_dn, Nat.zero_add, Nat.sub_zero]
            · split
              · simp (disch := omega) only [zu_off, zu_dn, z_cp_of, z_cp_in, z_cp_dn, Nat.zero_add, Nat.sub_zero]
              · split
                · simp (disch := omega) only [zu_off, zu_sm]
                · split
                  · simp (disch := omega) only [zu_off, zu_sm]
                  · simp (disch := omega) only [zu_off, zu_sm]
theorem z_rt44 (hT : zRules T) (hB : zB m) (h : ∀ m1, zB m1 → zFr rtW m m1 → Brought m1 (m 44) → κ none m1) : T (D + 1) 43 (0, [(0, zr 17), (1, zr 44)], [], m) κ := by
  refine zb43_0_44 hT hB (fun hz => h _ hz ?_ ?_)
  · refine ((zFr.cp (zFr.cp (zFr.cp (zFr.cp (zFr.cp (zFr.cp zFr.refl (fun _ => rfl)) (fun _ => rfl)) (fun _ => rfl)) (fun _ => rfl)) (fun _ => rfl)) (fun _ => rfl)).set rfl).set rfl |>.set rfl
  · refine ⟨fun j hj => ?_, fun j hj => ?_, ?_, fun j hj => ?_, ?_, ?_⟩
    · simp (disch := omega) only [zu_off, zu_dn, z_cp_in, z_cp_dn, Nat.zero_add, Nat.sub_zero]
      exact ⟨trivial, by rw [Nat.add_comm]⟩
    · simp (disch := omega) only [zu_off, zu_dn, z_cp_in, z_cp_dn, Nat.zero_add, Nat.sub_zero]
      exact ⟨by rw [Nat.add_comm], by rw [Nat.add_comm], by rw [Nat.add_comm]⟩
    · simp (disch := omega) only [zu_sm, zu_dn]
    · simp (disch := omega) only [zu_off, zu_dn, z_cp_in, z_cp_dn, Nat.zero_add, Nat.sub_zero]
      rw [Nat.add_comm]
    · simp (disch := omega) only [zu_sm]
    · simp (disch := omega) only [zu_off, zu_sm]
theorem z_wt45 (hT : zRules T) (hB : zB m) (h : ∀ m1, zB m1 → zFr (rowW 45) m m1 → (∀ j, j < 59 → m1 45 j = cmom m j) → κ none m1) : T (D + 1) 42 (0, [(0, zr 17), (1, zr 45)], [], m) κ := by
  refine zb42_0_45 hT hB (fun hz => h _ hz ?_ ?_)
  · intro c j hc
    have e : c ≠ 45 := Nat.ne_of_beq_eq_false hc
    simp (disch := assumption) only [zu_dn, z_cp_dn]
  · intro j hj
    unfold cmom
    split
    · simp (disch := omega) only [zu_off, zu_dn, z_cp_of, z_cp_in, z_cp_dn, Nat.zero_add, Nat.sub_zero]
    · split
      · simp (disch := omega) only [zu_off, zu_dn, z_cp_of, z_cp_in, z_cp_dn, Nat.zero_add, Nat.sub_zero]
      · split
        · simp (disch := omega) only [zu_off, zu_dn, z_cp_of, z_cp_in, z_cp_dn, Nat.zero_add, Nat.sub_zero]
        · split
          · simp (disch := omega) only [zu_off, zu_dn, z_cp_of, z_cp_in, z_cp_dn, Nat.zero_add, Nat.sub_zero]
          · split
            · simp (disch := omega) only [zu_off, zu_dn, z_cp_of, z_cp_in, z_cp_dn, Nat.zero_add, Nat.sub_zero]
            · split
              · simp (disch := omega) only [zu_off, zu_dn, z_cp_of, z_cp_in, z_cp_dn, Nat.zero_add, Nat.sub_zero]
              · split
                · simp (disch := omega) only [zu_off, zu_sm]
                · split
                  · simp (disch := omega) only [zu_off, zu_sm]
                  · simp (disch := omega) only [zu_off, zu_sm]
theorem z_rt45 (hT : zRules T) (hB : zB m) (h : ∀ m1, zB m1 → zFr rtW m m1 → Brought m1 (m 45) → κ none m1) : T (D + 1) 43 (0, [(0, zr 17), (1, zr 45)], [], m) κ := by
  refine zb43_0_45 hT hB (fun hz => h _ hz ?_ ?_)
  · refine ((zFr.cp (zFr.cp (zFr.cp (zFr.cp (zFr.cp (zFr.cp zFr.refl (fun _ => rfl)) (fun _ => rfl)) (fun _ => rfl)) (fun _ => rfl)) (fun _ => rfl)) (fun _ => rfl)).set rfl).set rfl |>.set rfl
  · refine ⟨fun j hj => ?_, fun j hj => ?_, ?_, fun j hj => ?_, ?_, ?_⟩
    · simp (disch := omega) only [zu_off, zu_dn, z_cp_in, z_cp_dn, Nat.zero_add, Nat.sub_zero]
      exact ⟨trivial, by rw [Nat.add_comm]⟩
    · simp (disch := omega) only [zu_off, zu_dn, z_cp_in, z_cp_dn, Nat.zero_add, Nat.sub_zero]
      exact ⟨by rw [Nat.add_comm], by rw [Nat.add_comm], by rw [Nat.add_comm]⟩
    · simp (disch := omega) only [zu_sm, zu_dn]
    · simp (disch := omega) only [zu_off, zu_dn, z_cp_in, z_cp_dn, Nat.zero_add, Nat.sub_zero]
      rw [Nat.add_comm]
    · simp (disch := omega) only [zu_sm]
    · simp (disch := omega) only [zu_off, zu_sm]
/-- the free slot -/
noncomputable def frs (m : zM) : Nat := (Int.tmod (m 28 4 + m 28 5) 13).toNat
theorem frsB {m : zM} (hB : zB m) : 0 ≤ Int.tmod (m 28 4 + m 28 5) 13 ∧ Int.tmod (m 28 4 + m 28 5) 13 ≤ 12 := by
  have h1 : 0 ≤ m 28 4 ∧ m 28 4 ≤ 12 := hB 28 4
  have h2 : 0 ≤ m 28 5 ∧ m 28 5 ≤ 12 := hB 28 5
  exact z_tmodB _ _ _ (by omega) (by omega) (by omega)
theorem z_mark (hT : zRules T) (hB : zB m) (h : ∀ m1, zB m1 → zFr (rowW (30 + frs m)) m m1 → (∀ j, j < 59 → m1 (30 + frs m) j = cmom m j) → κ none m1) : T (D + 2) 16 (0, [(0, zr 28), (1, zr 17)], [], m) κ := by
  have fin : ∀ (s : Nat), Int.tmod (m 28 4 + m 28 5) 13 = (s : Int) → ∀ m1, zB m1 → zFr (rowW (30 + s)) m m1 → (∀ j, j < 59 → m1 (30 + s) j = cmom m j) → T (D + 2) 16 (13, [(0, zr 28), (1, zr 17)], [], m1) κ := by
    intro s hs m1 h1 h2 h3
    have e : frs m = s := by unfold frs; omega
    exact zb16_13 hT rfl (h m1 h1 (by rw [e]; exact h2) (by rw [e]; exact h3))
  refine zb16_0 hT hB ?_ ?_ ?_ ?_ ?_ ?_ ?_ ?_ ?_ ?_ ?_ ?_ ?_
  · exact fun e => z_wt30 hT hB (fin 0 e)
  · exact fun e => z_wt31 hT hB (fin 1 e)
  · exact fun e => z_wt32 hT hB (fin 2 e)
  · exact fun e => z_wt33 hT hB (fin 3 e)
  · exact fun e => z_wt34 hT hB (fin 4 e)
  · exact fun e => z_wt35 hT hB (fin 5 e)
  · exact fun e => z_wt36 hT hB (fin 6 e)
  · exact fun e => z_wt37 hT hB (fin 7 e)
  · exact fun e => z_wt38 hT hB (fin 8 e)
  · exact fun e => z_wt39 hT hB (fin 9 e)
  · exact fun e => z_wt40 hT hB (fin 10 e)
  · exact fun e => z_wt41 hT hB (fin 11 e)
  · exact fun e => z_wt42 hT hB (fin 12 e)
theorem z_back (hT : zRules T) (hB : zB m) (h : ∀ m1, zB m1 → zFr rtW m m1 → Brought m1 (m (30 + frs m)) → κ none m1) : T (D + 2) 19 (0, [(0, zr 28), (1, zr 17)], [], m) κ := by
  have fin : ∀ (s : Nat), Int.tmod (m 28 4 + m 28 5) 13 = (s : Int) → ∀ m1, zB m1 → zFr rtW m m1 → Brought m1 (m (30 + s)) → T (D + 2) 19 (13, [(0, zr 28), (1, zr 17)], [], m1) κ := by
    intro s hs m1 h1 h2 h3
    have e : frs m = s := by unfold frs; omega
    exact zb19_13 hT rfl (h m1 h1 h2 (by rw [e]; exact h3))
  refine zb19_0 hT hB ?_ ?_ ?_ ?_ ?_ ?_ ?_ ?_ ?_ ?_ ?_ ?_ ?_
  · exact fun e => z_rt30 hT hB (fin 0 e)
  · exact fun e => z_rt31 hT hB (fin 1 e)
  · exact fun e => z_rt32 hT hB (fin 2 e)
  · exact fun e => z_rt33 hT hB (fin 3 e)
  · exact fun e => z_rt34 hT hB (fin 4 e)
  · exact fun e => z_rt35 hT hB (fin 5 e)
  · exact fun e => z_rt36 hT hB (fin 6 e)
  · exact fun e => z_rt37 hT hB (fin 7 e)
  · exact fun e => z_rt38 hT hB (fin 8 e)
  · exact fun e => z_rt39 hT hB (fin 9 e)
  · exact fun e => z_rt40 hT hB (fin 10 e)
  · exact fun e => z_rt41 hT hB (fin 11 e)
  · exact fun e => z_rt42 hT hB (fin 12 e)
end ZMom
