/-! LAW by the reference is LAW by the class. -/
noncomputable def okE (e : zEnv) : Prop := wr e.1 = e.1 ∧ wr e.2.1 = e.2.1 ∧ wr e.2.2.1 = e.2.2.1 ∧ wr e.2.2.2.1 = e.2.2.2.1 ∧ wr e.2.2.2.2 = e.2.2.2.2
/-- THE RULE as the reference keeps it -/
noncomputable def sQ (m : zM) (a : Nat) : Int := if (a : Int) < m 74 25 then z_and (m 86 a) 255 else -1
noncomputable def RuleRel (m : zM) : Prop := (m 9 4 < 1 ∧ m 74 25 = 0) ∨ (¬ m 9 4 < 1 ∧ ¬ m 74 25 = 0 ∧ ∃ v, rp (sQ m) 164 0 0 0 e0f = .inr ((m 74 25).toNat, v) ∧ ∀ e, okE e → ruleV m e = v e)
noncomputable def AlmRel (m : zM) : Prop := m 74 1 = m 4 4 ∧ ∀ p : Nat, (p : Int) < m 4 4 → m 77 p = m 6 p ∧ ∀ k : Nat, (k : Int) < m 6 p → m 76 (26 * p + k) = m 5 (26 * p + k)
noncomputable def LawRel (m : zM) : Prop := WFr m ∧ AlmRel m ∧ RuleRel m
noncomputable def lbW (c j : Nat) : Bool := Nat.beq c 74 && (Nat.ble 13 j && Nat.blt j 18 || Nat.ble 26 j && Nat.blt j 31)
theorem lgt_R {m : zM} {p : Nat} {w : Int} (hB : zB m) (hA : LawRel m) (hp : (p : Int) < m 4 4) (hw : 0 ≤ w) : m 76 (26 * (p : Int) + Int.tmod w (m 77 p)).toNat = lgt m p w ∧ 1 ≤ m 77 p ∧ m 77 p ≤ 26 := by
  obtain ⟨h1, h2, h3⟩ := hA
  obtain ⟨g1, g2⟩ := h2.2 p hp
  have g3 := h1.1 p hp
  have b6 : 0 ≤ m 6 p ∧ m 6 p ≤ 26 := hB 6 p
  have hm := z_tmodB w (m 6 p) (m 6 p - 1) hw g3 (by omega)
  unfold lgt
  rw [g1]
  refine ⟨?_, by omega, by omega⟩
  have e1 : (26 * (p : Int) + Int.tmod w (m 6 p)).toNat = 26 * p + (Int.tmod w (m 6 p)).toNat := by omega
  have e2 : ((p : Int) * 26 + Int.tmod w (m 6 p)).toNat = 26 * p + (Int.tmod w (m 6 p)).toNat := by omega
  rw [e1, e2]
  exact g2 _ (by omega)
noncomputable def lawSR (S : Nat → Nat → Bool) : Prop := lawS S ∧ S 74 1 = false ∧ S 74 25 = false ∧ (∀ j, S 76 j = false) ∧ (∀ j, S 77 j = false) ∧ (∀ j, S 86 j = false)
theorem LawRel_fr {S : Nat → Nat → Bool} {m m1 : zM} (h : zFr S m m1) (hS : lawSR S) (hR : LawRel m) : LawRel m1 := by
  obtain ⟨⟨s1, s2, s3, s4, s5, s6, s7⟩, t1, t2, t3, t4, t5⟩ := hS
  have e1 := h 4 4 s1
  have e2 : m1 5 = m 5 := funext fun j => h 5 j (s2 j)
  have e3 : m1 6 = m 6 := funext fun j => h 6 j (s3 j)
  have e4 := h 9 4 s4
  have e5 : m1 10 = m 10 := funext fun j => h 10 j (s5 j)
  have e6 : m1 11 = m 11 := funext fun j => h 11 j (s6 j)
  have e7 : m1 12 = m 12 := funext fun j => h 12 j (s7 j)
  have e8 := h 74 1 t1
  have e9 := h 74 25 t2
  have ea : m1 76 = m 76 := funext fun j => h 76 j (t3 j)
  have eb : m1 77 = m 77 := funext fun j => h 77 j (t4 j)
  have ec : m1 86 = m 86 := funext fun j => h 86 j (t5 j)
  have es : sQ m1 = sQ m := by
    funext a
    unfold sQ
    rw [e9, ec]
  have er : ruleV m1 = ruleV m := by
    funext e
    unfold ruleV
    rw [e4, e5, e6, e7]
  unfold LawRel WFr AlmRel RuleRel at *
  rw [e1, e2, e3, e4, e5, e6, e7, e8, e9, ea, eb, es, er]
  exact hR
section ZLawR
variable {T : Nat → Nat → zG → (Option zA → zM → Prop) → Prop} {D : Nat} {κ : Option zA → zM → Prop} {m : zM}
theorem z_lawBy (hT : zRules T) {h i w : Int} {p : Nat} (hB : zB m) (hh : 0 ≤ h ∧ h ≤ 99) (hi : 0 ≤ i ∧ i ≤ 5) (hp : p ≤ 3) (hw : 0 ≤ w ∧ w ≤ 500000) (hR : LawRel m)
    (hk : ∀ m1, zB m1 → zFr lbW m m1 → κ (some (zi (LW m h i p w))) m1) : T (D + 169) 214 (0, [(0, zr 74), (1, zi i), (2, zi h), (3, zi (p : Int)), (4, zi w)], [], m) κ := by
  have hA := hR.2.1.1
  by_cases hpl : (p : Int) < m 4 4
  · obtain ⟨eL, q1, q2⟩ := lgt_R hB hR hpl hw.1
    have bL : 0 ≤ lgt m p w ∧ lgt m p w ≤ 9 := hB 5 _
    have e : LW m h i p w = cl99 (ruleV m (h, lgt m p w, w, (p : Int), i)) := if_pos hpl
    have okv : okE (h, lgt m p w, w, (p : Int), i) := ⟨wr_id (by omega) (by omega), wr_id (by dsimp only; omega) (by dsimp only; omega), wr_id (by dsimp only; omega) (by dsimp only; omega), wr_id (by dsimp only; omega) (by dsimp only; omega), wr_id (by dsimp only; omega) (by dsimp only; omega)⟩
    rw [e] at hk
    have b25 : 0 ≤ m 74 25 ∧ m 74 25 ≤ 40 := hB 74 25
    refine zb214_0a (D := D + 167) hT hB hi hh hp hw ⟨q1, q2⟩ ?_ ?_ ?_ ?_ ?_
    · intro _ hne hz
      obtain ⟨g1, g2, v, hv, hve⟩ := (hR.2.2).resolve_left (fun q => hne q.2)
      -- the state in which it is valued
      generalize hM : (zu (zu (zu (zu (zu (zu (zu (zu (zu (zu m 74 13 86) 74 14 (m 74 25)) 74 15 40) 74 16 0) 74 17 (-1)) 74 26 1) 74 27 i) 74 28 h) 74 29 (p : Int)) 74 30 w) = M at hz ⊢
      have f13 : M 74 13 = 86 := by rw [← hM]; simp (disch := omega) only [zu_off, zu_sm]
      have f14 : M 74 14 = m 74 25 := by rw [← hM]; simp (disch := omega) only [zu_off, zu_sm]
      have f15 : M 74 15 = 40 := by rw [← hM]; simp (disch := omega) only [zu_off, zu_sm]
      have f16 : M 74 16 = 0 := by rw [← hM]; simp (disch := omega) only [zu_off, zu_sm]
      have f17 : M 74 17 = -1 := by rw [← hM]; simp (disch := omega) only [zu_off, zu_sm]
      have f26 : M 74 26 = 1 := by rw [← hM]; simp (disch := omega) only [zu_off, zu_sm]
      have f27 : M 74 27 = i := by rw [← hM]; simp (disch := omega) only [zu_off, zu_sm]
      have f28 : M 74 28 = h := by rw [← hM]; simp (disch := omega) only [zu_off, zu_sm]
      have f29 : M 74 29 = (p : Int) := by rw [← hM]; simp (disch := omega) only [zu_off, zu_sm]
      have f30 : M 74 30 = w := by rw [← hM]; simp (disch := omega) only [zu_sm]
      have f76 : ∀ j, M 76 j = m 76 j := fun j => by rw [← hM]; simp (disch := omega) only [zu_dn]
      have f77 : ∀ j, M 77 j = m 77 j := fun j => by rw [← hM]; simp (disch := omega) only [zu_dn]
      have f86 : ∀ j, M 86 j = m 86 j := fun j => by rw [← hM]; simp (disch := omega) only [zu_dn]
      have fF : zFr lbW m M := by
        rw [← hM]
        exact ((((((((((zFr.refl.set rfl).set rfl).set rfl).set rfl).set rfl).set rfl).set rfl).set rfl).set rfl).set rfl)
      have hs : sgR M 86 = sQ m := by
        funext a
        unfold sgR sQ
        rw [f14, f15, f86]
        by_cases q : (a : Int) < m 74 25
        · rw [if_pos ⟨q, by omega⟩, if_pos q]
        · rw [if_neg (fun x => q x.1), if_neg q]
      have hL : ∀ a, (m 74 25).toNat ≤ a → sQ m a = -1 := fun a ha => by
        unfold sQ
        rw [if_neg (by omega)]
      have hE : okEnv M := Or.inr ⟨by rw [f29]; omega, by rw [f30]; omega, by rw [f29, Int.toNat_natCast, f77]; exact q1⟩
      have hen : envR M = (h, lgt m p w, w, (p : Int), i) := by
        unfold envR
        rw [f26, if_neg (by omega), f27, f28, f29, f30, Int.toNat_natCast, f77, f76, eL]
      have key := (rr_all_86 (L := (m 74 25).toNat) hT f13 hs.symm (by omega) (by omega) hL hE 164).1
      refine key D 0 0 M _ (by omega) hz zFr.refl f16 f17 (by omega) (by omega) ?_
      rw [hv]
      intro M1 hB1 hF1 _ _
      rw [hen]
      dsimp only
      have hrv : ruleV m (h, lgt m p w, w, (p : Int), i) = v (h, lgt m p w, w, (p : Int), i) := hve _ okv
      rw [hrv] at hk
      have hF2 : zFr lbW m (zu M1 74 26 0) := (fF.trans (hF1.mono (fun c j q => by
        simp only [lbW, pW, Bool.and_eq_false_iff] at q ⊢
        rcases q with q | q
        · exact Or.inl q
        · refine Or.inr ?_
          by_cases j16 : j = 16
          · subst j16; cases q
          · by_cases j17 : j = 17
            · subst j17; cases q
            · rw [q_beqF j16, q_beqF j17]; rfl))).set rfl
      refine zb214_79 hT rfl hB1 (fun x1 x2 hz2 => ?_) (fun x1 x2 hz2 => ?_) (fun x1 hz2 => ?_)
      · have := hk _ hz2 hF2
        unfold cl99 at this
        rw [if_pos x1, if_pos x2] at this
        exact this
      · have := hk _ hz2 hF2
        unfold cl99 at this
        rw [if_pos x1, if_neg x2] at this
        exact this
      · have := hk _ hz2 hF2
        unfold cl99 at this
        rw [if_neg x1] at this
        exact this
    all_goals
      try rw [eL]
      have bd := z_tdivB (h * lgt m p w) 10 891 (Int.mul_nonneg hh.1 bL.1) (by omega) (z_mulB h (lgt m p w) 99 9 891 hh.1 bL.1 hh.2 bL.2 rfl).2
      have hw9 : wr (Int.tdiv (h * lgt m p w) 10) = Int.tdiv (h * lgt m p w) 10 := wr_id (by omega) (by omega)
    · intro _ h0 x1 x2
      have h94 : m 9 4 < 1 := by
        rcases hR.2.2 with q | q
        · exact q.1
        · exact absurd h0 q.2.1
      have := hk m hB zFr.refl
      unfold cl99 ruleV at this
      rw [if_pos h94] at this
      dsimp only at this
      rw [hw9, if_pos x1, if_pos x2] at this
      exact this
    · intro _ h0 x1 x2
      have h94 : m 9 4 < 1 := by
        rcases hR.2.2 with q | q
        · exact q.1
        · exact absurd h0 q.2.1
      have := hk m hB zFr.refl
      unfold cl99 ruleV at this
      rw [if_pos h94] at this
      dsimp only at this
      rw [hw9, if_pos x1, if_neg x2] at this
      exact this
    · intro _ h0 x1
      have h94 : m 9 4 < 1 := by
        rcases hR.2.2 with q | q
        · exact q.1
        · exact absurd h0 q.2.1
      have := hk m hB zFr.refl
      unfold cl99 ruleV at this
      rw [if_pos h94] at this
      dsimp only at this
      rw [hw9, if_neg x1] at this
      exact this
    · intro x
      omega
  · have e : LW m h i p w = 0 := if_neg hpl
    rw [e] at hk
    exact zb214_0b (D := D + 167) hT hB hi hh hp hw (fun q => by omega) (fun q => by omega) (fun q => by omega) (fun q => by omega) (fun q => by omega) (fun q => by omega) (fun _ => hk m hB zFr.refl)
theorem z_lawOf (hT : zRules T) {w : Int} {p pl : Nat} (hB : zB m) (hp : p ≤ 5) (hpl : pl ≤ 3) (hw : 0 ≤ w ∧ w ≤ 500000) (hR : LawRel m)
    (hk : ∀ m1, zB m1 → zFr lbW m m1 → κ (some (zi (LW m (m 78 p) (p : Int) pl w))) m1) : T (D + 170) 215 (0, [(0, zr 74), (1, zi (p : Int)), (2, zi (pl : Int)), (3, zi w)], [], m) κ := by
  have h78 : 0 ≤ m 78 p ∧ m 78 p ≤ 99 := hB 78 p
  refine zb215_0 (D := D + 167) hT hB hp ?_
  exact z_lawBy hT hB h78 (by omega) hpl hw hR (fun m1 h1 h2 => zb215_13 (D := D + 167) hT rfl LWB (hk m1 h1 h2))
theorem z_lawIn (hT : zRules T) {d : Int} {p pl : Nat} (hB : zB m) (hp : p ≤ 5) (hpl : m 75 p = (pl : Int)) (hd : 0 ≤ d ∧ d ≤ 200) (hR : LawRel m)
    (hk : ∀ m1, zB m1 → zFr lbW m m1 → κ (some (zi (LW m (m 78 p) (p : Int) pl (m 75 57 + d)))) m1) : T (D + 171) 216 (0, [(0, zr 74), (1, zi (p : Int)), (2, zi d)], [], m) κ := by
  have b1 := zSg hB 75 0 6 0 3 rfl p (by omega) (by omega)
  have b2 : 0 ≤ m 75 57 ∧ m 75 57 ≤ 400000 := hB 75 57
  refine zb216_0 (D := D + 167) hT hB hp hd ?_
  rw [hpl]
  exact z_lawOf hT hB hp (by omega) (by omega) hR (fun m1 h1 h2 => zb216_20 (D := D + 167) hT rfl LWB (hk m1 h1 h2))
end ZLawR
