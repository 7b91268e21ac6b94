/-! house(): the lines read by the reference. -/
section ZLinesR
variable {T : Nat → Nat → zG → (Option zA → zM → Prop) → Prop} {D : Nat} {κ : Option zA → zM → Prop} {m : zM} {s : Nat → Int} {L : Nat}
noncomputable def yrhL : zLs := [(74, some 16), (74, some 17), (74, some 22), (74, some 23), (84, none), (85, none)]
theorem hr_h {M : zM} {a : Nat} (hsd : s = sgR m 80) (hF : zFr (inL yrhL) m M) (h16 : M 74 16 = (a : Int)) : hrR M 80 = s a := by
  have e14 : M 74 14 = m 74 14 := hF 74 14 rfl
  have e15 : M 74 15 = m 74 15 := hF 74 15 rfl
  have eq : M 80 a = m 80 a := hF 80 a rfl
  rw [hsd]
  unfold hrR sgR
  rw [h16, e14, e15, Int.toNat_natCast, eq]
theorem sR_h {M : zM} (hsd : s = sgR m 80) (hF : zFr (inL yrhL) m M) : s = sgR M 80 := by
  rw [hsd]
  funext x
  unfold sgR
  rw [hF 74 14 rfl, hF 74 15 rfl, hF 80 x rfl]
theorem dg_h {M : zM} {a : Nat} (hsd : s = sgR m 80) (hB : zB m) (hF : zFr (inL yrhL) m M) (h : 48 ≤ s a ∧ s a ≤ 57) : M 80 a = s a := by
  have b80 : -128 ≤ m 80 a ∧ m 80 a ≤ 127 := hB 80 a
  rw [hF 80 a rfl]
  rw [hsd] at h ⊢
  unfold sgR at h ⊢
  split at h
  · rename_i q
    rw [if_pos q]
    rw [z_and255] at h ⊢
    omega
  · omega
set_option maxHeartbeats 4000000 in
theorem z_lineR (hT : zRules T) (hB : zB m) (hrd : m 74 13 = 80) (hsd : s = sgR m 80) {n k pp cc a : Nat} (n4 : m 74 4 = (n : Int)) (k6 : m 74 6 = (k : Int)) {N : zM} (hBN : zB N) (hF : zFr (inL yrhL) m N) (h16 : N 74 16 = (a : Int)) (h17 : N 74 17 = -1) (ha : a ≤ 76) (h22 : N 74 22 = (pp : Int)) (h23 : N 74 23 = (cc : Int)) (hs : ∀ b, 76 ≤ b → s b = -1)
    (h0 : ∀ M, lnS s (n + pp) (k + cc) a = none → zB M → zFr (inL yrhL) m M → (0 ≤ M 74 17 ∧ M 74 17 ≤ 100) → (0 ≤ M 74 16 ∧ M 74 16 ≤ 100) → κ none M)
    (h1 : ∀ x y b M, lnS s (n + pp) (k + cc) a = some (true, x, y, b) → zB M → zFr (inL yrhL) m M → M 74 16 = (b : Int) → M 74 17 = -1 → M 74 22 = ((pp + 1 : Nat) : Int) → M 74 23 = (cc : Int) → M 84 (2 * pp) = x → M 84 (2 * pp + 1) = y → (∀ j, j < 2 * pp → M 84 j = N 84 j) → (∀ j, M 85 j = N 85 j) → κ none M)
    (h2 : ∀ x y b M, lnS s (n + pp) (k + cc) a = some (false, x, y, b) → zB M → zFr (inL yrhL) m M → M 74 16 = (b : Int) → M 74 17 = -1 → M 74 22 = (pp : Int) → M 74 23 = ((cc + 1 : Nat) : Int) → M 85 (2 * cc) = x → M 85 (2 * cc + 1) = y → (∀ j, j < 2 * cc → M 85 j = N 85 j) → (∀ j, M 84 j = N 84 j) → κ none M) : T (D + 6) 207 (0, [(0, zr 74)], [], N) κ := by
  have r0 : hrR N 80 = s a := hr_h hsd hF h16
  have c4 : N 74 4 = (n : Int) := (hF 74 4 rfl).trans n4
  have c6 : N 74 6 = (k : Int) := (hF 74 6 rfl).trans k6
  have b22 : 0 ≤ N 74 22 ∧ N 74 22 ≤ 6 := hBN 74 22
  have b23 : 0 ≤ N 74 23 ∧ N 74 23 ≤ 8 := hBN 74 23
  have f1 : ((2 : Int) * (pp : Int)).toNat = 2 * pp := by omega
  have f2 : ((2 : Int) * (pp : Int) + 1).toNat = 2 * pp + 1 := by omega
  have f3 : ((2 : Int) * (cc : Int)).toNat = 2 * cc := by omega
  have f4 : ((2 : Int) * (cc : Int) + 1).toNat = 2 * cc + 1 := by omega
  have hFa : zFr (inL yrhL) m (zu N 74 16 (N 74 16 + 1)) := hF.set rfl
  have g16 : (zu N 74 16 (N 74 16 + 1)) 74 16 = ((a + 1 : Nat) : Int) := by rw [zu_sm rfl, h16]; omega
  have g17 : (zu N 74 16 (N 74 16 + 1)) 74 17 = -1 := by rw [zu_off (by omega)]; exact h17
  have g22 : (zu N 74 16 (N 74 16 + 1)) 74 22 = (pp : Int) := by rw [zu_off (by omega)]; exact h22
  have g23 : (zu N 74 16 (N 74 16 + 1)) 74 23 = (cc : Int) := by rw [zu_off (by omega)]; exact h23
  have g84 : ∀ j, (zu N 74 16 (N 74 16 + 1)) 84 j = N 84 j := fun j => zu_dn (by omega)
  have g85 : ∀ j, (zu N 74 16 (N 74 16 + 1)) 85 j = N 85 j := fun j => zu_dn (by omega)
  have bad : lnS s (n + pp) (k + cc) a = none → zB (zu N 74 17 (N 74 16)) → κ none (zu N 74 17 (N 74 16)) := fun e hz => h0 _ e hz (hF.set rfl) (by rw [zu_sm rfl]; omega) (by rw [zu_off (by omega)]; omega)
  have a75 : ¬ s a = -1 → a ≤ 75 := fun h => by
    rcases Nat.lt_or_ge a 76 with x | x
    · omega
    · exact absurd (hs a x) h
  refine zb207_0 (D := D) hT hBN ((hF 74 13 rfl).trans hrd) (by omega) (by omega) ?_ ?_ ?_ ?_ ?_ <;> rw [r0]
  · exact fun q1 q2 hz => bad (by unfold lnS; rw [if_neg (fun x => q1 x.1), if_neg (fun x => q2 x.1)]) hz
  · exact fun q1 q2 q3 hz => bad (by unfold lnS; rw [if_neg (fun x => q1 x.1), if_neg (by omega)]) hz
  · intro q1 q2 q3 hz
    have el : lnS s (n + pp) (k + cc) a = (match clS s (a + 1) with
      | none => none
      | some q => some (false, q)) := by
      unfold lnS
      rw [if_neg (fun x => q1 x.1), if_pos ⟨q2, by omega⟩]
      all_goals (cases clS s (a + 1) <;> rfl)
    have hq : (2 : Int) * N 74 23 = ((2 * cc : Nat) : Int) := by rw [h23]; omega
    rw [hq]
    have ha75 := a75 (by omega)
    generalize zu N 74 16 (N 74 16 + 1) = N1 at hz hFa g16 g17 g22 g23 g84 g85 ⊢
    refine z_twoR (D := D + 2) hT hz ((hFa 74 13 rfl).trans hrd) g16 g17 (by omega) (sR_h hsd hFa) (fun ht hz2 => ?_) (fun v e M ht hv hBM hFM f16 => ?_)
    · have e9 : lnS s (n + pp) (k + cc) a = none := by
        rw [el]
        unfold clS
        rw [ht]
      have hFz : zFr (inL yrhL) m (zu N1 74 17 ((a + 1 : Nat) : Int)) := hFa.set rfl
      refine zb207_156f (D := D) (q := 2 * cc) (v := 0) hT rfl hz2 ((hFz 74 13 rfl).trans hrd) (by omega) (by omega) (by rw [zu_sm rfl]; omega) (by rw [zu_off (by omega)]; omega) (by rw [zu_off (by omega)]; omega) (fun hz3 => ?_)
      exact h0 _ e9 hz3 (((hFz.set rfl).set rfl).set rfl) (by rw [zu_off (by omega), zu_dn (by omega), zu_dn (by omega), zu_sm rfl]; omega) (by rw [zu_off (by omega), zu_dn (by omega), zu_dn (by omega), zu_off (by omega)]; omega)
    · obtain ⟨t1, t2, t3, t4⟩ := (twoS_b hs (a := a + 1) (by omega)).2 v e ht
      have hFM2 : zFr (inL yrhL) m M := hFa.trans (hFM.sub (inL_sub (by decide)))
      have m17 : M 74 17 = -1 := (hFM 74 17 rfl).trans g17
      have m22 : M 74 22 = (pp : Int) := (hFM 74 22 rfl).trans g22
      have m23 : M 74 23 = (cc : Int) := (hFM 74 23 rfl).trans g23
      have m84 : ∀ j, M 84 j = N 84 j := fun j => (hFM 84 j rfl).trans (g84 j)
      have m85 : ∀ j, M 85 j = N 85 j := fun j => (hFM 85 j rfl).trans (g85 j)
      have s1 : hrR (zu M 85 (2 * cc) v) 80 = s e := hr_h hsd (hFM2.set rfl) (by rw [zu_dn (by omega)]; exact f16)
      have s2 : hrR (zu (zu M 85 (2 * cc) v) 74 16 ((e : Int) + 1)) 80 = s (e + 1) := hr_h hsd ((hFM2.set rfl).set rfl) (by rw [zu_sm rfl]; omega)
      have e1 : ((e : Int) + 1 + 1 - 1).toNat = e + 1 := by omega
      have key := zb207_156 (D := D) (q := 2 * cc) (v := v) (κ := κ) (m := M) hT (lo := [(0, zr 74)]) rfl hBM ((hFM2 74 13 rfl).trans hrd) hv (by omega) (by omega) (by omega) (by omega)
      simp only [f16, s1, s2, m23, f4, e1] at key
      have fault : s e = 43 → ¬ (48 ≤ s (e + 1) ∧ s (e + 1) ≤ 57) → lnS s (n + pp) (k + cc) a = none := fun y1 y2 => by
        rw [el]
        unfold clS
        rw [ht]
        dsimp only
        rw [if_pos y1, if_neg y2]
      refine key (fun y1 y2 hz3 => ?_) (fun y1 y2 y3 hz3 => ?_) (fun y1 y2 y3 => ?_) (fun y1 hz3 => ?_)
      · exact h0 _ (fault y1 (by omega)) hz3 (((((hFM2.set rfl).set rfl).set rfl).set rfl).set rfl) (by simp (disch := omega) only [zu_sm, zu_off, zu_dn]; omega) (by simp (disch := omega) only [zu_sm, zu_off, zu_dn]; omega)
      · exact h0 _ (fault y1 (by omega)) hz3 (((((hFM2.set rfl).set rfl).set rfl).set rfl).set rfl) (by simp (disch := omega) only [zu_sm, zu_off, zu_dn]; omega) (by simp (disch := omega) only [zu_sm, zu_off, zu_dn]; omega)
      · have dgt : M 80 (e + 1) = s (e + 1) := dg_h hsd hB hFM2 (by omega)
        rw [dgt]
        have hz3 : zB (zu (zu (zu (zu (zu M 85 (2 * cc) v) 74 16 ((e : Int) + 1)) 74 16 ((e : Int) + 1 + 1)) 85 (2 * cc + 1) (s (e + 1) - 48)) 74 23 ((cc : Int) + 1)) := zB_u (zB_u (zB_u (zB_u (zB_u hBM (show 0 ≤ v ∧ v ≤ 99 from hv)) (show 0 ≤ (e : Int) + 1 ∧ (e : Int) + 1 ≤ 100 by omega)) (show 0 ≤ (e : Int) + 1 + 1 ∧ (e : Int) + 1 + 1 ≤ 100 by omega)) (show 0 ≤ s (e + 1) - 48 ∧ s (e + 1) - 48 ≤ 99 by omega)) (show 0 ≤ (cc : Int) + 1 ∧ (cc : Int) + 1 ≤ 8 by omega)
        refine h2 v (s (e + 1) - 48) (e + 2) _ ?_ hz3 (((((hFM2.set rfl).set rfl).set rfl).set rfl).set rfl) ?_ ?_ ?_ ?_ ?_ ?_ (fun j hj => ?_) (fun j => ?_)
        · rw [el]
          unfold clS
          rw [ht]
          dsimp only
          rw [if_pos y1, if_pos (by omega)]
        · simp (disch := omega) only [zu_sm, zu_off, zu_dn]
          omega
        · simp (disch := omega) only [zu_off, zu_dn]
          exact m17
        · simp (disch := omega) only [zu_off, zu_dn]
          exact m22
        · rw [zu_sm rfl]
          omega
        · simp (disch := omega) only [zu_sm, zu_off, zu_dn]
        · simp (disch := omega) only [zu_sm, zu_off, zu_dn]
        · simp (disch := omega) only [zu_off, zu_dn]
          exact m85 j
        · simp (disch := omega) only [zu_dn]
          exact m84 j
      · refine h2 v 0 e _ ?_ hz3 (((hFM2.set rfl).set rfl).set rfl) ?_ ?_ ?_ ?_ ?_ ?_ (fun j hj => ?_) (fun j => ?_)
        · rw [el]
          unfold clS
          rw [ht]
          dsimp only
          rw [if_neg y1]
        · simp (disch := omega) only [zu_off, zu_dn]
          exact f16
        · simp (disch := omega) only [zu_off, zu_dn]
          exact m17
        · simp (disch := omega) only [zu_off, zu_dn]
          exact m22
        · rw [zu_sm rfl]
          omega
        · simp (disch := omega) only [zu_sm, zu_off, zu_dn]
        · simp (disch := omega) only [zu_sm, zu_off, zu_dn]
        · simp (disch := omega) only [zu_off, zu_dn]
          exact m85 j
        · simp (disch := omega) only [zu_dn]
          exact m84 j
  · exact fun q1 q2 hz => bad (by unfold lnS; rw [if_neg (by omega), if_neg (by omega)]) hz
  · intro q1 q2 hz
    have el : lnS s (n + pp) (k + cc) a = (match prS s (a + 1) with
      | none => none
      | some q => some (true, q)) := by
      unfold lnS
      rw [if_pos ⟨q1, by omega⟩]
      all_goals (cases prS s (a + 1) <;> rfl)
    have ha75 := a75 (by omega)
    generalize zu N 74 16 (N 74 16 + 1) = N1 at hz hFa g16 g17 g22 g23 g84 g85 ⊢
    refine z_twoR (D := D + 2) hT hz ((hFa 74 13 rfl).trans hrd) g16 g17 (by omega) (sR_h hsd hFa) (fun ht hz2 => ?_) (fun v e M ht hv hBM hFM f16 => ?_)
    · have e9 : lnS s (n + pp) (k + cc) a = none := by
        rw [el]
        unfold prS
        rw [ht]
      have hFz : zFr (inL yrhL) m (zu N1 74 17 ((a + 1 : Nat) : Int)) := hFa.set rfl
      refine zb207_37f (D := D) (v := 0) hT rfl hz2 ((hFz 74 13 rfl).trans hrd) (by omega) (by rw [zu_sm rfl]; omega) (by rw [zu_off (by omega)]; omega) (by rw [zu_off (by omega)]; omega) (fun hz3 => ?_)
      exact h0 _ e9 hz3 (((hFz.set rfl).set rfl).set rfl) (by rw [zu_off (by omega), zu_dn (by omega), zu_dn (by omega), zu_sm rfl]; omega) (by rw [zu_off (by omega), zu_dn (by omega), zu_dn (by omega), zu_off (by omega)]; omega)
    · obtain ⟨t1, t2, t3, t4⟩ := (twoS_b hs (a := a + 1) (by omega)).2 v e ht
      have hFM2 : zFr (inL yrhL) m M := hFa.trans (hFM.sub (inL_sub (by decide)))
      have m17 : M 74 17 = -1 := (hFM 74 17 rfl).trans g17
      have m22 : M 74 22 = (pp : Int) := (hFM 74 22 rfl).trans g22
      have m23 : M 74 23 = (cc : Int) := (hFM 74 23 rfl).trans g23
      have m84 : ∀ j, M 84 j = N 84 j := fun j => (hFM 84 j rfl).trans (g84 j)
      have m85 : ∀ j, M 85 j = N 85 j := fun j => (hFM 85 j rfl).trans (g85 j)
      have s1 : hrR M 80 = s e := hr_h hsd hFM2 f16
      have s2 : hrR (zu (zu M 74 16 ((e : Int) + 1)) 84 (2 * pp) v) 80 = s (e + 1) := hr_h hsd ((hFM2.set rfl).set rfl) (by rw [zu_dn (by omega), zu_sm rfl]; omega)
      have e1 : ((e : Int) + 1 + 1 - 1).toNat = e + 1 := by omega
      have key := zb207_37 (D := D) (v := v) (κ := κ) (m := M) hT (lo := [(0, zr 74)]) rfl hBM ((hFM2 74 13 rfl).trans hrd) hv (by omega) (by omega) (by omega)
      simp only [f16, s1, m22, f1, s2, f2, e1] at key
      have fault : ¬ (¬ v = 0 ∧ s e = 64 ∧ 48 ≤ s (e + 1) ∧ s (e + 1) ≤ 51) → lnS s (n + pp) (k + cc) a = none := fun y => by
        rw [el]
        unfold prS
        rw [ht]
        dsimp only
        by_cases y0 : v = 0
        · rw [if_pos y0]
        · rw [if_neg y0, if_neg (fun x => y ⟨y0, x⟩)]
      refine key (fun y0 y1 y2 hz3 => ?_) (fun y0 y1 y2 y3 hz3 => ?_) (fun y0 y1 y2 y3 => ?_) (fun y0 y1 hz3 => ?_) (fun y0 y1 hz3 => ?_) (fun y0 y1 => by omega) (fun y0 y1 => by omega) (fun y0 y1 => by omega) (fun y0 y1 => by omega)
      · exact h0 _ (fault (by omega)) hz3 (((((hFM2.set rfl).set rfl).set rfl).set rfl).set rfl) (by simp (disch := omega) only [zu_sm, zu_off, zu_dn]; omega) (by simp (disch := omega) only [zu_sm, zu_off, zu_dn]; omega)
      · exact h0 _ (fault (by omega)) hz3 (((((hFM2.set rfl).set rfl).set rfl).set rfl).set rfl) (by simp (disch := omega) only [zu_sm, zu_off, zu_dn]; omega) (by simp (disch := omega) only [zu_sm, zu_off, zu_dn]; omega)
      · have dgt : M 80 (e + 1) = s (e + 1) := dg_h hsd hB hFM2 (by omega)
        rw [dgt]
        have hz3 : zB (zu (zu (zu (zu (zu M 74 16 ((e : Int) + 1)) 84 (2 * pp) v) 74 16 ((e : Int) + 1 + 1)) 84 (2 * pp + 1) (s (e + 1) - 48)) 74 22 ((pp : Int) + 1)) := zB_u (zB_u (zB_u (zB_u (zB_u hBM (show 0 ≤ (e : Int) + 1 ∧ (e : Int) + 1 ≤ 100 by omega)) (show 0 ≤ v ∧ v ≤ 99 from hv)) (show 0 ≤ (e : Int) + 1 + 1 ∧ (e : Int) + 1 + 1 ≤ 100 by omega)) (show 0 ≤ s (e + 1) - 48 ∧ s (e + 1) - 48 ≤ 99 by omega)) (show 0 ≤ (pp : Int) + 1 ∧ (pp : Int) + 1 ≤ 6 by omega)
        refine h1 v (s (e + 1) - 48) (e + 2) _ ?_ hz3 (((((hFM2.set rfl).set rfl).set rfl).set rfl).set rfl) ?_ ?_ ?_ ?_ ?_ ?_ (fun j hj => ?_) (fun j => ?_)
        · rw [el]
          unfold prS
          rw [ht]
          dsimp only
          rw [if_neg y0, if_pos (by omega)]
        · simp (disch := omega) only [zu_sm, zu_off, zu_dn]
          omega
        · simp (disch := omega) only [zu_off, zu_dn]
          exact m17
        · rw [zu_sm rfl]
          omega
        · simp (disch := omega) only [zu_off, zu_dn]
          exact m23
        · simp (disch := omega) only [zu_sm, zu_off, zu_dn]
        · simp (disch := omega) only [zu_sm, zu_off, zu_dn]
        · simp (disch := omega) only [zu_off, zu_dn]
          exact m84 j
        · simp (disch := omega) only [zu_dn]
          exact m85 j
      · exact h0 _ (fault (by omega)) hz3 ((((hFM2.set rfl).set rfl).set rfl).set rfl) (by simp (disch := omega) only [zu_sm, zu_off, zu_dn]; omega) (by simp (disch := omega) only [zu_sm, zu_off, zu_dn]; omega)
      · exact h0 _ (fault (by omega)) hz3 ((((hFM2.set rfl).set rfl).set rfl).set rfl) (by simp (disch := omega) only [zu_sm, zu_off, zu_dn]; omega) (by simp (disch := omega) only [zu_sm, zu_off, zu_dn]; omega)
/-- what a reading of lines says of the cells of the reference -/
noncomputable def HouR (n k : Nat) (M : zM) (w : hTy) : Prop := (n ≤ w.1 ∧ w.1 ≤ 6) ∧ (k ≤ w.2.1 ∧ w.2.1 ≤ 8) ∧ M 74 22 = ((w.1 - n : Nat) : Int) ∧ M 74 23 = ((w.2.1 - k : Nat) : Int) ∧ (∀ q, n ≤ q → q < w.1 → M 84 (2 * (q - n)) = w.2.2.1 q ∧ M 84 (2 * (q - n) + 1) = w.2.2.2.1 q) ∧ (∀ q, k ≤ q → q < w.2.1 → M 85 (2 * (q - k)) = w.2.2.2.2.1 q ∧ M 85 (2 * (q - k) + 1) = w.2.2.2.2.2 q)
set_option maxHeartbeats 4000000 in
theorem z_linesR (hT : zRules T) (hB : zB m) (hrd : m 74 13 = 80) (hsd : s = sgR m 80) {n k L76 : Nat} {fx fy gx gy : Nat → Int} (n4 : m 74 4 = (n : Int)) (k6 : m 74 6 = (k : Int)) (hL : m 74 14 = (L : Int)) (hL80 : L ≤ 80) (h76 : L76 ≤ 76) (hle : L76 ≤ L) (hs : ∀ a, L76 ≤ a → s a = -1) (h16 : m 74 16 = 0) (h17 : m 74 17 = -1) (h22 : m 74 22 = 0) (h23 : m 74 23 = 0)
    (h0 : ∀ r M, hsR s L 14 n k 0 fx fy gx gy = none → zB M → zFr (inL yrhL) m M → κ (some (zi r)) M)
    (h1 : ∀ w M, hsR s L 14 n k 0 fx fy gx gy = some w → zB M → zFr (inL yrhL) m M → HouR n k M w → T (D + 7) 206 (105, [(0, zr 74), (2, zi 0)], [], M) κ) : T (D + 7) 206 (45, [(0, zr 74), (1, zi 1)], [], m) κ := by
  have b4 : 0 ≤ m 74 4 ∧ m 74 4 ≤ 6 := hB 74 4
  have b6 : 0 ≤ m 74 6 ∧ m 74 6 ≤ 8 := hB 74 6
  have hs76 : ∀ b, 76 ≤ b → s b = -1 := fun b hb => hs b (by omega)
  have bad : ∀ N : zM, hsR s L 14 n k 0 fx fy gx gy = none → zB N → zFr (inL yrhL) m N → (0 ≤ N 74 17 ∧ N 74 17 ≤ 100) → (0 ≤ N 74 16 ∧ N 74 16 ≤ 100) → T (D + 7) 206 (60, [(0, zr 74), (1, zi 1)], [], N) κ := by
    intro N he hBN hFN g17 g16
    have h74 : N 74 13 = 80 := (hFN 74 13 rfl).trans hrd
    refine zb206_60f (D := D) hT rfl hBN h74 g17 g16 ?_
    have fin := fun r => h0 r N he hBN hFN
    exact zb206_45f (D := D) (mo := 0) hT rfl hBN h74 (by omega) g17 g16 (fun _ _ => fin _) (fun _ _ => fin _) (fun _ _ => fin _) (fun _ _ => fin _)
  have key : ∀ (j a : Nat) (w : hTy) (M : zM), n + k + 14 = w.1 + w.2.1 + j → a ≤ L76 → hsR s L j w.1 w.2.1 a w.2.2.1 w.2.2.2.1 w.2.2.2.2.1 w.2.2.2.2.2 = hsR s L 14 n k 0 fx fy gx gy → zB M → zFr (inL yrhL) m M → M 74 16 = (a : Int) → M 74 17 = -1 → HouR n k M w → T (D + 7) 206 (45, [(0, zr 74), (1, zi 1)], [], M) κ := by
    intro j
    induction j with
    | zero =>
      intro a w M hcnt ha hrun hBM hF g16 g17 hH
      rw [hsR] at hrun
      obtain ⟨⟨w1, w2⟩, ⟨w3, w4⟩, w5, w6, -, -⟩ := hH
      refine zb206_45b (D := D) hT rfl hBM ((hF 74 13 rfl).trans hrd) (by omega) (by omega) ?_
      have en : lnS s (n + (w.1 - n)) (k + (w.2.1 - k)) a = none := by
        unfold lnS
        rw [if_neg (by omega), if_neg (by omega)]
      exact z_lineR (D := D) (pp := w.1 - n) (cc := w.2.1 - k) (a := a) hT hB hrd hsd n4 k6 hBM hF g16 g17 (by omega) w5 w6 hs76 (fun M2 _ hB2 hF2 t17 t16 => bad M2 hrun.symm hB2 hF2 t17 t16) (fun x y b M2 e => by rw [en] at e; cases e) (fun x y b M2 e => by rw [en] at e; cases e)
    | succ j ih =>
      intro a w M hcnt ha hrun hBM hF g16 g17 hH
      obtain ⟨p, c, hx, hy, lx, ly⟩ := w
      dsimp only at hcnt hrun
      obtain ⟨⟨w1, w2⟩, ⟨w3, w4⟩, w5, w6, w7, w8⟩ := hH
      dsimp only at w1 w2 w3 w4 w5 w6 w7 w8
      rw [hsR] at hrun
      have ep : n + (p - n) = p := by omega
      have ec : k + (c - k) = c := by omega
      refine zb206_45b (D := D) hT rfl hBM ((hF 74 13 rfl).trans hrd) (by omega) (by omega) ?_
      -- behind a line: to the next, to the end, or at fault
      have next : ∀ (b : Nat) (w2 : hTy) (M2 : zM), a + 2 ≤ b → b ≤ L76 → n + k + 14 = w2.1 + w2.2.1 + j → (if b = L then some w2 else if s b = 59 then hsR s L j w2.1 w2.2.1 (b + 1) w2.2.2.1 w2.2.2.2.1 w2.2.2.2.2.1 w2.2.2.2.2.2 else none) = hsR s L 14 n k 0 fx fy gx gy → zB M2 → zFr (inL yrhL) m M2 → M2 74 16 = (b : Int) → M2 74 17 = -1 → HouR n k M2 w2 → T (D + 7) 206 (60, [(0, zr 74), (1, zi 1)], [], M2) κ := by
        intro b w2 M2 hab hb hcnt2 hrun2 hB2 hF2 t16 t17 hH2
        have h74 : M2 74 13 = 80 := (hF2 74 13 rfl).trans hrd
        have e14 : M2 74 14 = (L : Int) := (hF2 74 14 rfl).trans hL
        have hn : hrR M2 80 = s b := hr_h hsd hF2 t16
        refine zb206_60 (D := D) hT rfl hB2 h74 (by omega) (by omega) (fun q hz => ?_) (fun q => ?_)
        · rw [hn] at q
          have hlt : b < L76 := by
            rcases Nat.lt_or_ge b L76 with x | x
            · exact x
            · have := hs b x
              omega
          rw [if_neg (by omega), if_pos q] at hrun2
          obtain ⟨v1, v2, v5, v6, v7, v8⟩ := hH2
          refine ih (b + 1) w2 _ hcnt2 (by omega) hrun2 hz (hF2.set rfl) (by rw [zu_sm rfl, t16]; omega) (by rw [zu_off (by omega)]; exact t17) ⟨v1, v2, by rw [zu_off (by omega)]; exact v5, by rw [zu_off (by omega)]; exact v6, fun q h1 h2 => ?_, fun q h1 h2 => ?_⟩
          · rw [zu_dn (by omega), zu_dn (by omega)]
            exact v7 q h1 h2
          · rw [zu_dn (by omega), zu_dn (by omega)]
            exact v8 q h1 h2
        · rw [hn] at q
          refine zb206_45a (D := D) hT rfl hB2 h74 (by omega) (by omega) (fun x => ?_) (fun x hz => ?_)
          · rw [if_pos (by omega)] at hrun2
            exact h1 w2 M2 hrun2.symm hB2 hF2 hH2
          · rw [if_neg (by omega), if_neg q] at hrun2
            exact h0 _ _ hrun2.symm hz (hF2.set rfl)
      refine z_lineR (D := D) (pp := p - n) (cc := c - k) (a := a) hT hB hrd hsd n4 k6 hBM hF g16 g17 (by omega) w5 w6 hs76 (fun M2 e hB2 hF2 t17 t16 => ?_) (fun x y b M2 e hB2 hF2 t16 t17 t22 t23 tx ty t84 t85 => ?_) (fun x y b M2 e hB2 hF2 t16 t17 t22 t23 tx ty t85 t84 => ?_)
      · rw [ep, ec] at e
        rw [e] at hrun
        exact bad M2 hrun.symm hB2 hF2 t17 t16
      · rw [ep, ec] at e
        obtain ⟨l1, l2, l3, l4⟩ := lnS_b hs ha e
        obtain ⟨l5, l6, l7⟩ := l3 rfl
        rw [e] at hrun
        dsimp only at hrun
        refine next b (p + 1, c, fu hx p x, fu hy p y, lx, ly) M2 l1 l2 (by dsimp only; omega) hrun hB2 hF2 t16 t17 ⟨⟨by dsimp only; omega, by dsimp only; omega⟩, ⟨w3, w4⟩, by rw [t22]; dsimp only; omega, t23, fun q q1 q2 => ?_, fun q q1 q2 => ?_⟩
        · dsimp only at q2 ⊢
          by_cases eq : q = p
          · rw [eq, fu_eq rfl, fu_eq rfl]
            exact ⟨tx, ty⟩
          · rw [fu_ne eq, fu_ne eq, t84 _ (by omega), t84 _ (by omega)]
            exact w7 q q1 (by omega)
        · rw [t85, t85]
          exact w8 q q1 q2
      · rw [ep, ec] at e
        obtain ⟨l1, l2, l3, l4⟩ := lnS_b hs ha e
        obtain ⟨l5, l6, l7⟩ := l4 rfl
        rw [e] at hrun
        dsimp only at hrun
        refine next b (p, c + 1, hx, hy, fu lx c x, fu ly c y) M2 l1 l2 (by dsimp only; omega) hrun hB2 hF2 t16 t17 ⟨⟨w1, w2⟩, ⟨by dsimp only; omega, by dsimp only; omega⟩, t22, by rw [t23]; dsimp only; omega, fun q q1 q2 => ?_, fun q q1 q2 => ?_⟩
        · rw [t84, t84]
          exact w7 q q1 q2
        · dsimp only at q2 ⊢
          by_cases eq : q = c
          · rw [eq, fu_eq rfl, fu_eq rfl]
            exact ⟨tx, ty⟩
          · rw [fu_ne eq, fu_ne eq, t85 _ (by omega), t85 _ (by omega)]
            exact w8 q q1 (by omega)
  refine key 14 0 (n, k, fx, fy, gx, gy) m (by dsimp only) (by omega) rfl hB zFr.refl (by rw [h16]; rfl) h17 ⟨⟨Nat.le_refl n, by dsimp only; omega⟩, ⟨Nat.le_refl k, by dsimp only; omega⟩, by rw [h22]; dsimp only; omega, by rw [h23]; dsimp only; omega, fun q q1 q2 => absurd q2 (by dsimp only; omega), fun q q1 q2 => absurd q2 (by dsimp only; omega)⟩
end ZLinesR
