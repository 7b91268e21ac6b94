/-! plain(). -/
/-- all of a skirt, what went into it and the works on it, so many weeks on -/
noncomputable def plS (f : Nat → Int) (h v : Int) : Nat → Int × Int × Int
  | 0 => (f 0 + v, f 0 + v, 0)
  | t + 1 => if f t = f (t + 1) then plS f h v t else if (plS f h v t).1 < f (t + 1) then (f (t + 1), (plS f h v t).2.1 + (f (t + 1) - (plS f h v t).1), (plS f h v t).2.2 + 3)
    else if f (t + 1) + h < (plS f h v t).1 then (f (t + 1) + h, (plS f h v t).2.1, (plS f h v t).2.2 + 2) else ((plS f h v t).1, (plS f h v t).2.1, (plS f h v t).2.2 + 1)
theorem plSB {f : Nat → Int} {h v : Int} (hf : ∀ t, 0 ≤ f t ∧ f t ≤ 99) (hh : 0 ≤ h ∧ h ≤ 9) (hv : 0 ≤ v ∧ v ≤ 9) : ∀ t, 0 ≤ (plS f h v t).1 ∧ (plS f h v t).1 ≤ 108
  | 0 => by
    have := hf 0
    rw [plS]
    dsimp only
    omega
  | t + 1 => by
    have h1 := plSB hf hh hv t
    have := hf (t + 1)
    rw [plS]
    by_cases q1 : f t = f (t + 1)
    · rw [if_pos q1]
      exact h1
    · rw [if_neg q1]
      by_cases q2 : (plS f h v t).1 < f (t + 1)
      · rw [if_pos q2]
        dsimp only
        omega
      · rw [if_neg q2]
        by_cases q3 : f (t + 1) + h < (plS f h v t).1
        · rw [if_pos q3]
          dsimp only
          omega
        · rw [if_neg q3]
          exact h1
theorem mkA_pl {f : Nat → Int} {h v : Int} {t : Nat} {a : zS} (e1 : a.1 12 = f t) (e2 : a.1 12 + a.1 20 = (plS f h v t).1) (e3 : a.2.1 = (plS f h v t).2.1) (e4 : a.2.2.1 = (plS f h v t).2.2) (h56 : 0 ≤ a.1 56 ∧ a.1 56 ≤ 20) :
    (mkA h a 0 (f (t + 1))).1 12 = f (t + 1) ∧ (mkA h a 0 (f (t + 1))).1 12 + (mkA h a 0 (f (t + 1))).1 20 = (plS f h v (t + 1)).1 ∧ (mkA h a 0 (f (t + 1))).2.1 = (plS f h v (t + 1)).2.1 ∧ (mkA h a 0 (f (t + 1))).2.2.1 = (plS f h v (t + 1)).2.2 := by
  rw [plS]
  unfold mkA
  simp only [Nat.zero_add]
  by_cases q1 : f t = f (t + 1)
  · rw [if_pos q1, if_pos (show a.1 12 = f (t + 1) by omega)]
    exact ⟨by omega, e2, e3, e4⟩
  · rw [if_neg q1, if_neg (show ¬ a.1 12 = f (t + 1) by omega)]
    by_cases q2 : (plS f h v t).1 < f (t + 1)
    · rw [if_pos q2, if_pos (show a.1 12 + a.1 20 < f (t + 1) by omega)]
      dsimp only
      refine ⟨rfl, ?_, by rw [e2, e3], by rw [e4]⟩
      show f (t + 1) + 0 = f (t + 1)
      omega
    · rw [if_neg q2, if_neg (show ¬ a.1 12 + a.1 20 < f (t + 1) by omega)]
      by_cases q3 : f (t + 1) + h < (plS f h v t).1
      · rw [if_pos q3, if_pos (show f (t + 1) + h < a.1 12 + a.1 20 by omega)]
        dsimp only
        by_cases q4 : a.1 56 = 20
        · rw [if_pos q4]
          exact ⟨rfl, rfl, e3, by rw [e4]⟩
        · rw [if_neg q4]
          have x1 : (36 + a.1 56).toNat ≠ 12 := by omega
          have x2 : (36 + a.1 56).toNat ≠ 20 := by omega
          refine ⟨?_, ?_, e3, by rw [e4]⟩
          · unfold fu
            simp only [x1.symm, if_false, if_true, Nat.reduceEqDiff]
          · unfold fu
            simp only [x1.symm, x2.symm, if_false, if_true, Nat.reduceEqDiff]
      · rw [if_neg q3, if_neg (show ¬ f (t + 1) + h < a.1 12 + a.1 20 by omega)]
        dsimp only
        refine ⟨rfl, ?_, e3, by rw [e4]⟩
        show f (t + 1) + (a.1 12 + a.1 20 - f (t + 1)) = _
        omega
theorem mkL91 : ∀ c j, mkW 91 c j = true → inL [(91, none), (74, some 31), (74, some 32), (74, some 33)] c j = true := fun c j q => by
  simp only [mkW, Bool.or_eq_true, Bool.and_eq_true] at q
  rcases q with q | ⟨q, q2⟩
  · have e := Nat.eq_of_beq_eq_true q
    subst e
    rfl
  · have e := Nat.eq_of_beq_eq_true q
    subst e
    rcases q2 with q2 | q2 | q2
    · have e2 := Nat.eq_of_beq_eq_true q2
      subst e2
      rfl
    · have e2 := Nat.eq_of_beq_eq_true q2
      subst e2
      rfl
    · have e2 := Nat.eq_of_beq_eq_true q2
      subst e2
      rfl
section ZPlain
variable {T : Nat → Nat → zG → (Option zA → zM → Prop) → Prop} {B : Int}
theorem z_billPlain (hT : zRules T) {D : Nat} {κ : Option zA → zM → Prop} {m : zM} {f : Nat → Int} {v : Int} {N : Nat} (hB : zB m) (hv : 0 ≤ v ∧ v ≤ 9) (hf : ∀ t, 0 ≤ f t ∧ f t ≤ 99) (hN : m 52 1 = (N + 1 : Int)) (hN2 : N + 1 ≤ 60) (h53 : ∀ t, t < N + 1 → m 53 t = f t) (h13 : m 17 13 = 0)
    (hk : ∀ m1, zB m1 → zFr (inL [(17, some 12), (17, some 13)]) m m1 → m1 17 12 = (plS f (m 24 0) v N).2.1 → m1 17 13 = (plS f (m 24 0) v N).2.2 → κ none m1) : T (D + 3) 87 (0, [(0, zr 52), (1, zr 17), (2, zi v)], [], m) κ := by
  have b24 : 0 ≤ m 24 0 ∧ m 24 0 ≤ 9 := hB 24 0
  have key : ∀ (j t : Nat) (M : zM), t + j = N → zB M → zFr (inL [(17, some 12), (17, some 13)]) m M → M 17 12 = (plS f (m 24 0) v t).2.1 → M 17 13 = (plS f (m 24 0) v t).2.2 → T (D + 3) 87 (17, [(0, zr 52), (1, zr 17), (3, zi (plS f (m 24 0) v t).1), (4, zi ((t + 1 : Nat) : Int))], [], M) κ := by
    intro j
    induction j with
    | zero =>
      intro t M ht hBM hF d1 d2
      have et : t = N := by omega
      subst et
      have e52 : M 52 1 = (t + 1 : Int) := (hF 52 1 rfl).trans hN
      exact zb87_17 hT rfl hBM (plSB hf b24 hv t) (by omega) (fun _ => hk M hBM hF d1 d2) (fun q => by omega) (fun q => by omega) (fun q => by omega) (fun q => by omega) (fun q => by omega)
    | succ j ih =>
      intro t M ht hBM hF d1 d2
      have e52 : M 52 1 = (N + 1 : Int) := (hF 52 1 rfl).trans hN
      have e : (((t + 1 : Nat) : Int) - 1).toNat = t := by omega
      have e53a : M 53 t = f t := (hF 53 t rfl).trans (h53 t (by omega))
      have e53b : M 53 (t + 1) = f (t + 1) := (hF 53 (t + 1) rfl).trans (h53 (t + 1) (by omega))
      have e24 : M 24 0 = m 24 0 := hF 24 0 rfl
      have es : plS f (m 24 0) v (t + 1) = if f t = f (t + 1) then plS f (m 24 0) v t else if (plS f (m 24 0) v t).1 < f (t + 1) then (f (t + 1), (plS f (m 24 0) v t).2.1 + (f (t + 1) - (plS f (m 24 0) v t).1), (plS f (m 24 0) v t).2.2 + 3)
        else if f (t + 1) + m 24 0 < (plS f (m 24 0) v t).1 then (f (t + 1) + m 24 0, (plS f (m 24 0) v t).2.1, (plS f (m 24 0) v t).2.2 + 2) else ((plS f (m 24 0) v t).1, (plS f (m 24 0) v t).2.1, (plS f (m 24 0) v t).2.2 + 1) := rfl
      refine zb87_17 hT rfl hBM (plSB hf b24 hv t) (by omega) (fun q => by omega) (fun _ => by omega) (fun _ q1 q2 q3 hz => ?_) (fun _ q1 q2 q3 hz => ?_) (fun _ q1 q2 hz => ?_) (fun _ q1 hz => ?_)
      · rw [e, e53a, e53b] at q1
        rw [e53b] at q2 q3 ⊢
        rw [e24] at q3 ⊢
        rw [if_neg q1, if_neg q2, if_pos q3] at es
        have h1 := ih (t + 1) _ (by omega) hz (hF.set rfl) (by rw [zu_off (by omega), d1, es]) (by rw [zu_sm rfl, d2, es])
        rw [es] at h1
        exact h1
      · rw [e, e53a, e53b] at q1
        rw [e53b] at q2 q3
        rw [e24] at q3
        rw [if_neg q1, if_neg q2, if_neg q3] at es
        have h1 := ih (t + 1) _ (by omega) hz (hF.set rfl) (by rw [zu_off (by omega), d1, es]) (by rw [zu_sm rfl, d2, es])
        rw [es] at h1
        exact h1
      · rw [e, e53a, e53b] at q1
        rw [e53b] at q2 hz ⊢
        rw [if_neg q1, if_pos q2] at es
        have h1 := ih (t + 1) _ (by omega) hz ((hF.set rfl).set rfl) (by rw [zu_sm rfl, d1, es]) (by rw [zu_off (by omega), zu_sm rfl, d2, es])
        rw [es] at h1
        exact h1
      · rw [e, e53a, e53b] at q1
        rw [if_pos q1] at es
        have h1 := ih (t + 1) _ (by omega) hz (hF.set rfl) (by rw [zu_off (by omega), d1, es]) (by rw [zu_sm rfl, d2, es, Int.add_zero])
        rw [es] at h1
        exact h1
  refine zb87_0 hT hB hv (fun hz => ?_)
  have e0 : m 53 0 = f 0 := h53 0 (by omega)
  rw [e0] at hz ⊢
  exact key N 0 _ (by omega) hz (zFr.refl.set rfl) (by rw [zu_sm rfl]; rfl) (by rw [zu_off (by omega), h13]; rfl)
theorem z_plainR (hT : zRules T) {D : Nat} {κ : Option zA → zM → Prop} {m M0 : zM} {sc : zSc} {n k p pl N : Nat} {v : Int} (hI : Inv B sc n k m) (hA : Agree coreK0 m M0) (h72 : M0 72 1 = 2) (hp : p < n) (hpl : m 75 p = (pl : Int)) (hN : N + 1 ≤ 20) (hv : 0 ≤ v ∧ v ≤ 9) (hB0 : zB M0)
    (h56 : 0 ≤ M0 91 56 ∧ M0 91 56 ≤ 20)
    (hk : ∀ M1, zB M1 → Agree coreK0 m M1 → RowP M1 → κ (some (zi (wr ((plS (laF m p pl) (m 24 0) v N).2.1 * m 24 1 + (plS (laF m p pl) (m 24 0) v N).2.2 * m 24 2)))) M1) : T (D + 172) 259 (51, [(0, zr 74), (1, zi (p : Int)), (2, zi ((N + 1 : Nat) : Int)), (3, zi v)], [], M0) κ := by
  have i1 := hI.1
  have b17 : 0 ≤ m 17 0 ∧ m 17 0 ≤ 6 := i1 17 0
  have b24 : 0 ≤ m 24 0 ∧ m 24 0 ≤ 9 := i1 24 0
  have n1 := hI.2.2.2.1.1.1
  have bpl := (hI.2.2.2.1.2.2.2.2.1 p hp).1
  have e79 : ∀ M, Agree coreK0 m M → ∀ j, j < 3 → M 79 j = m 24 j := fun M hAM j hj => (hAM 79 j rfl).trans (hI.2.2.2.2.1 j hj)
  have core : ∀ (M : zM), Agree coreK0 m M → Agree KL m M ∧ M 78 = m 78 ∧ M 75 57 = m 75 57 ∧ M 75 p = (pl : Int) := fun M hAM =>
    ⟨hAM.sub (fun q hq => List.mem_append.mpr (Or.inr (List.mem_append.mpr (Or.inl hq)))), funext fun j => hAM 78 j rfl, hAM 75 57 rfl, (hAM 75 p rfl).trans hpl⟩
  have key : ∀ (j t : Nat) (M : zM) (a : zS), t + j = N → zB M → Agree coreK0 m M → M 72 1 = 2 → RelR 91 M a → a.1 12 = laF m p pl t → a.1 12 + a.1 20 = (plS (laF m p pl) (m 24 0) v t).1 → a.2.1 = (plS (laF m p pl) (m 24 0) v t).2.1 → a.2.2.1 = (plS (laF m p pl) (m 24 0) v t).2.2 → (0 ≤ a.1 56 ∧ a.1 56 ≤ 20) →
      T (D + 172) 259 (92, [(0, zr 74), (1, zi (p : Int)), (2, zi ((N + 1 : Nat) : Int)), (4, zi ((t + 1 : Nat) : Int))], [], M) κ := by
    intro j
    induction j with
    | zero =>
      intro t M a ht hBM hAM g72 hR d1 d2 d3 d4 d5
      have et : t = N := by omega
      subst et
      refine zb259_92 (D := D + 168) hT rfl hBM (by omega) (by omega) (by omega) (fun _ hz => ?_) (fun q => by omega)
      rw [e79 M hAM 1 (by omega), e79 M hAM 2 (by omega)]
      have x1 : M 74 31 = (plS (laF m p pl) (m 24 0) v t).2.1 := hR.2.1.trans d3
      have x2 : M 74 32 = (plS (laF m p pl) (m 24 0) v t).2.2 := hR.2.2.1.trans d4
      rw [x1, x2] at hz ⊢
      rw [Int.mul_comm (m 24 1), Int.mul_comm (m 24 2)]
      exact hk _ hz (hAM.trans (.of (L := [(74, some 11), (81, none)]) (((((zFr.refl.set rfl).set rfl).set rfl).set rfl).set rfl) rfl)) (RowP.len (by simp (disch := decide) only [zu_sm, zu_off, zu_dn, g72] <;> rfl))
    | succ j ih =>
      intro t M a ht hBM hAM g72 hR d1 d2 d3 d4 d5
      obtain ⟨c1, c2, c3, c4⟩ := core M hAM
      refine zb259_92 (D := D + 168) hT rfl hBM (by omega) (by omega) (by omega) (fun q => by omega) (fun _ => ?_)
      refine z_lawInF (d := t + 1) (pl := pl) hT hI hBM c1 c2 c3 hp c4 (by omega) (fun M1 hB1 hF1 => ?_)
      refine zb259_111 (D := D + 168) hT rfl hB1 (by omega) (by omega) (by omega) laFB ?_
      have hAM1 : Agree coreK0 m M1 := hAM.trans (.of hF1 rfl)
      have hR1 : RelR 91 M1 a := ⟨(funext fun j => hF1 91 j rfl).trans hR.1, (hF1 74 31 rfl).trans hR.2.1, (hF1 74 32 rfl).trans hR.2.2.1, (hF1 74 33 rfl).trans hR.2.2.2⟩
      refine z_makes_91 (c := 0) (D := D + 169) hT hB1 (by omega) laFB hR1 (fun M2 hB2 hF2 hR2 => ?_)
      rw [e79 M1 hAM1 0 (by omega)] at hR2
      obtain ⟨g1, g2, g3, g4⟩ := mkA_pl (f := laF m p pl) (h := m 24 0) (v := v) (t := t) d1 d2 d3 d4 d5
      have g5 := mkA_56 (h := m 24 0) (a := a) (c := 0) (v := laF m p pl (t + 1)) (by omega) d5
      refine zb259_114 (D := D + 168) hT rfl hB2 (by omega) (by omega) (by omega) ?_
      exact ih (t + 1) M2 _ (by omega) hB2 (hAM1.trans (.of (hF2.sub mkL91) rfl)) (((hF2 72 1 rfl).trans (hF1 72 1 rfl)).trans g72) hR2 g1 g2 g3 g4 g5
  refine zb259_51 (D := D + 168) hT rfl hB0 (by omega) (by omega) hv (fun hz => ?_)
  have x72 : (zu (zu (zu M0 74 31 0) 74 32 0) 74 33 0) 72 1 = 2 := by simp (disch := decide) only [zu_sm, zu_off, zu_dn, h72] <;> rfl
  have hA1 : Agree coreK0 m (zu (zu (zu M0 74 31 0) 74 32 0) 74 33 0) := hA.trans (.of (L := [(74, some 31), (74, some 32), (74, some 33)]) (((zFr.refl.set rfl).set rfl).set rfl) rfl)
  have z32 : (zu (zu (zu M0 74 31 0) 74 32 0) 74 33 0) 74 32 = 0 := by rw [zu_off (by omega), zu_sm rfl]
  have z91 : ∀ j, (zu (zu (zu M0 74 31 0) 74 32 0) 74 33 0) 91 j = M0 91 j := fun j => by rw [zu_dn (by omega), zu_dn (by omega), zu_dn (by omega)]
  generalize (zu (zu (zu M0 74 31 0) 74 32 0) 74 33 0) = M at hz hA1 x72 z32 z91 ⊢
  obtain ⟨c1, c2, c3, c4⟩ := core M hA1
  refine z_lawInF (d := 0) (pl := pl) hT hI hz c1 c2 c3 hp c4 (by omega) (fun M1 hB1 hF1 => ?_)
  refine zb259_67 (D := D + 168) hT rfl hB1 (by omega) (by omega) hv laFB (fun hz2 => ?_)
  refine key N 0 _ ((zu (zu (zu M1 91 12 (laF m p pl 0)) 91 20 v) 74 31 (laF m p pl 0 + v)) 91, laF m p pl 0 + v, 0, M1 74 33) (by omega) hz2 ((hA1.trans (.of hF1 rfl)).trans (.of (L := [(91, none), (74, some 31)]) (((zFr.refl.set rfl).set rfl).set rfl) rfl)) (by rw [zu_dn (by decide), zu_dn (by decide), zu_dn (by decide), hF1 72 1 rfl]; exact x72) ⟨rfl, by rw [zu_sm rfl], ?_, ?_⟩ ?_ ?_ rfl rfl ?_
  · rw [zu_off (by omega), zu_dn (by omega), zu_dn (by omega), hF1 74 32 rfl, z32]
  · rw [zu_off (by omega), zu_dn (by omega), zu_dn (by omega)]
  · dsimp only
    rw [zu_dn (by omega), zu_off (by omega), zu_sm rfl]
  · dsimp only
    rw [zu_dn (by omega), zu_off (by omega), zu_sm rfl, zu_dn (by omega), zu_sm rfl]
    rfl
  · dsimp only
    rw [zu_dn (by omega), zu_off (by omega), zu_off (by omega), hF1 91 56 rfl, z91]
    exact h56
theorem w_plain (hT : zRules T) {p nn v : Int} (hp : isI p) (hn : isI nn) (hv : isI v) : Way T 141 259 [(0, zr 1), (1, zi p), (2, zi nn), (3, zi v)] [(0, zr 74), (1, zi p), (2, zi nn), (3, zi v)] 6 172 B B True := by
  rintro D m sc ⟨n, k, hI⟩ κ hκ
  have hI0 := hI
  obtain ⟨i1, i2, i3, i4, i5, i6, i7, i8, i9, i10, i11⟩ := hI
  have hB1 : zB (zu m 74 12 0) := zB_u i1 trivial
  have hA12 : Agree coreK m (zu m 74 12 0) := .of (L := [(74, some 12)]) (zFr.refl.set rfl) rfl
  obtain ⟨⟨n1, n2⟩, ⟨k1, k2⟩, hh, hRel, hok⟩ := i4
  have b17 : 0 ≤ m 17 0 ∧ m 17 0 ≤ 6 := i1 17 0
  have b24 : 0 ≤ m 24 0 ∧ m 24 0 ≤ 9 := i1 24 0
  have e79 : m 79 0 = m 24 0 := i5 0 (by omega)
  have no : ¬ (0 ≤ p ∧ p < n ∧ 1 ≤ nn ∧ nn ≤ 20 ∧ 0 ≤ v ∧ v ≤ m 24 0) → κ (some (zi (-1))) m := by
    intro hno
    refine hκ _ _ (fun D2 κ2 h2 => ?_)
    have fin : κ2 (some (zi (-1))) (zu m 74 12 0) := h2 _ _ (fun _ => rfl) ⟨n, k, Inv_fr hA12 hB1 hI0⟩
    refine zb259_0 (D := D2 + 168) hT i1 hp hn hv ?_ ?_ ?_ ?_ ?_ ?_ ?_
    · exact fun _ _ => fin
    · exact fun _ _ _ => fin
    · exact fun _ _ _ _ => fin
    · exact fun _ _ _ _ _ => fin
    · exact fun _ _ _ _ _ _ => fin
    · exact fun _ _ _ _ _ _ _ => fin
    · exact fun q1 q2 q3 q4 q5 q6 => absurd ⟨by omega, by omega, by omega, by omega, by omega, by omega⟩ hno
  refine zb141_0 hT i1 hp hn hv (fun _ => no (by omega)) (fun _ _ => no (by omega)) (fun _ _ _ => no (by omega)) (fun _ _ _ _ => no (by omega)) (fun _ _ _ _ _ => no (by omega)) (fun q1 q2 q3 q4 q5 q6 => ?_) (fun _ _ _ _ _ _ => no (by omega))
  obtain ⟨a, rfl⟩ : ∃ a : Nat, p = (a : Int) := ⟨p.toNat, by omega⟩
  obtain ⟨N, rfl⟩ : ∃ a : Nat, nn = ((a + 1 : Nat) : Int) := ⟨(nn - 1).toNat, by omega⟩
  obtain ⟨h78, h18⟩ := hh a (by omega)
  obtain ⟨r1, r2⟩ := hRel.1 a (by omega)
  have bpl := (hok.1 a (by omega)).1
  obtain ⟨pl, hpl⟩ : ∃ pl : Nat, m 75 a = (pl : Int) := ⟨(m 75 a).toNat, by omega⟩
  rw [Int.toNat_natCast, r1, hpl]
  refine z_lookAhead hT i1 (by omega) (by omega) (by omega) (by omega) i3 (fun m1 hB2 hF1 g1 g2 => ?_)
  refine zb141_54 hT rfl hB2 (by omega) (fun hz => ?_)
  have t1 : zFr (inL [(13, none), (17, some 12), (17, some 13), (17, some 14), (52, some 1), (53, none)]) m (zu (zu (zu m1 17 12 0) 17 13 0) 17 14 0) := (((hF1.sub (inL_sub (by decide))).set rfl).set rfl).set rfl
  have x52 : (zu (zu (zu m1 17 12 0) 17 13 0) 17 14 0) 52 1 = (N + 1 : Int) := by rw [zu_dn (by omega), zu_dn (by omega), zu_dn (by omega), g1]; omega
  have x53 : ∀ t, t < N + 1 → (zu (zu (zu m1 17 12 0) 17 13 0) 17 14 0) 53 t = laF m a pl t := fun t ht => by rw [zu_dn (by omega), zu_dn (by omega), zu_dn (by omega), g2 t ht]
  have x13 : (zu (zu (zu m1 17 12 0) 17 13 0) 17 14 0) 17 13 = 0 := by rw [zu_off (by omega), zu_sm rfl]
  generalize (zu (zu (zu m1 17 12 0) 17 13 0) 17 14 0) = M at hz t1 x52 x53 x13 ⊢
  refine z_billPlain (D := D + 2) (f := laF m a pl) (N := N) hT hz (by omega) (fun t => laFB) x52 (by omega) x53 x13 (fun m2 hB3 hF2 y1 y2 => ?_)
  refine zb141_73 hT rfl hB3 (fun hz3 => ?_)
  have hF2b : zFr (inL [(13, none), (17, some 12), (17, some 13), (17, some 14), (52, some 1), (53, none)]) m m2 := t1.trans (hF2.sub (inL_sub (by decide)))
  rw [t1 24 0 rfl] at y1 y2
  rw [y1, y2] at hz3 ⊢
  rw [hF2b 24 1 rfl, hF2b 24 2 rfl]
  refine hκ _ _ (fun D2 κ2 h2 => ?_)
  have x72 : (zu (zu (zu m2 72 1 2) 73 0 (plS (laF m a pl) (m 24 0) v N).2.1) 73 1 (plS (laF m a pl) (m 24 0) v N).2.2) 72 1 = 2 := by simp (disch := decide) only [zu_sm, zu_off, zu_dn] <;> rfl
  have hAM : Agree coreK0 m (zu (zu (zu m2 72 1 2) 73 0 (plS (laF m a pl) (m 24 0) v N).2.1) 73 1 (plS (laF m a pl) (m 24 0) v N).2.2) := (Agree.of hF2b rfl).trans (.of (L := [(72, some 1), (73, none)]) (((zFr.refl.set rfl).set rfl).set rfl) rfl)
  generalize (zu (zu (zu m2 72 1 2) 73 0 (plS (laF m a pl) (m 24 0) v N).2.1) 73 1 (plS (laF m a pl) (m 24 0) v N).2.2) = M2 at hz3 hAM x72 ⊢
  have e4 : M2 74 4 = (n : Int) := (hAM 74 4 rfl).trans n2
  have e790 : M2 79 0 = m 24 0 := (hAM 79 0 rfl).trans e79
  refine zb259_0 (D := D2 + 168) hT hz3 hp hn hv (fun x => by omega) (fun _ x => by omega) (fun _ _ x => by omega) (fun _ _ _ x => by omega) (fun _ _ _ _ x => by omega) (fun _ _ _ _ _ x => by omega) (fun _ _ _ _ _ _ hz4 => ?_)
  refine z_lay_75_91 (k := 0) (D := D2 + 170) hT (by omega) ?_
  have hA4 : Agree coreK0 m (z_cp (zu M2 74 12 0) 75 91 0 0 59) := hAM.trans (.of (L := [(74, some 12), (91, none)]) ((zFr.refl.set rfl).cp (fun _ => rfl)) rfl)
  have x56 : (z_cp (zu M2 74 12 0) 75 91 0 0 59) 91 56 = m 75 56 := by
    rw [z_cp_in (by omega), zu_dn (by omega)]
    exact hAM 75 56 rfl
  exact z_plainR hT hI0 hA4 (by rw [z_cp_dn (by decide), zu_dn (by decide)]; exact x72) (by omega) hpl (by omega) (by omega) (zB_cpB hz4 rfl) (by rw [x56]; exact hok.2.1) (fun M1 hB4 hA5 hr => h2 _ _ (fun _ => rfl) ⟨n, k, Inv_row hA5 hB4 hr hI0⟩)
end ZPlain
