/-! A WEEK on the reference's rows. -/
noncomputable def gwW (q c j : Nat) : Bool := mkW q c j || lbW c j
noncomputable def lawR (m : zM) (p : Nat) (pl w : Int) : Int := LW m (m 78 p) (p : Int) pl.toNat w
theorem wkP_okR {L : Nat → Int → Int → Int} {h : Int} {n k : Nat} (hn : n ≤ 6) (hk : k ≤ 8) (hh : 0 ≤ h) : ∀ (j p : Nat) (b : zS), okRow n k b.1 → p + j = n → okRow n k (wkP L h b p j).1 ∧ (wkP L h b p j).1 57 = b.1 57 := by
  intro j
  induction j with
  | zero => intro p b hb _; exact ⟨hb, rfl⟩
  | succ j ih =>
    intro p b hb hp
    rw [wkP]
    split
    · exact ih (p + 1) b hb (by omega)
    · rename_i hne
      have hw := (hb.1 p (by omega)).2
      have h1 := ih (p + 1) _ (hb.mk (h := h) (c := (b.1 (p + 6)).toNat) (v := L p (b.1 p) (b.1 57)) hn hk hh (by omega)) (by omega)
      exact ⟨h1.1, h1.2.trans (mkA_keep (by omega) hb.2.1 (by omega))⟩
theorem wkA_ok {L : Nat → Int → Int → Int} {h : Int} {n k : Nat} {b : zS} (hn : n ≤ 6) (hk : k ≤ 8) (hh : 0 ≤ h) (hb : okRow n k b.1) : okRow n k (wkA L h n b).1 ∧ (wkA L h n b).1 57 = b.1 57 + 1 := by
  obtain ⟨⟨o1, o2, o3, o4⟩, e2⟩ := wkP_okR (L := L) (h := h) hn hk hh n 0 b hb (by omega)
  refine ⟨⟨fun p hp => ?_, ?_, ?_, fun c hc => ?_⟩, ?_⟩
  · unfold wkA
    simp (disch := omega) only [fu_ne]
    exact o1 p hp
  · unfold wkA
    simp (disch := omega) only [fu_ne]
    exact o2
  · unfold wkA
    simp (disch := omega) only [fu_eq]
    omega
  · unfold wkA
    simp (disch := omega) only [fu_ne]
    exact o4 c hc
  · unfold wkA
    simp (disch := omega) only [fu_eq]
    omega
section ZWeekR
variable {T : Nat → Nat → zG → (Option zA → zM → Prop) → Prop} {D : Nat} {κ : Option zA → zM → Prop} {m : zM}
theorem gwL_75 : lawSR (gwW 75) := ⟨⟨rfl, fun _ => rfl, fun _ => rfl, rfl, fun _ => rfl, fun _ => rfl, fun _ => rfl⟩, rfl, rfl, fun _ => rfl, fun _ => rfl, fun _ => rfl⟩
theorem z_goWeek_75 (hT : zRules T) {n k : Nat} {a : zS} (hB : zB m) (hn : m 74 4 = (n : Int)) (hk8 : k ≤ 8) (hLR : LawRel m) (hR : RelR 75 m a) (ho : okRow n k a.1) (hnow : a.1 57 + 1 ≤ 400000)
    (hk : ∀ m1, zB m1 → zFr (gwW 75) m m1 → RelR 75 m1 (wkA (lawR m) (m 79 0) n a) → κ none m1) : T (D + 171) 235 (0, [(0, zr 74), (1, zr 75)], [], m) κ := by
  have h744 : 0 ≤ m 74 4 ∧ m 74 4 ≤ 6 := hB 74 4
  have inner : ∀ (j p : Nat) (M : zM) (b : zS), p + j = n → zB M → zFr (gwW 75) m M → RelR 75 M b → okRow n k b.1 → b.1 57 + 1 ≤ 400000 →
      (∀ M2, zB M2 → zFr (gwW 75) m M2 → RelR 75 M2 (fu (wkP (lawR m) (m 79 0) b p j).1 57 ((wkP (lawR m) (m 79 0) b p j).1 57 + 1), (wkP (lawR m) (m 79 0) b p j).2) → κ none M2) →
      T (D + 171) 235 (2, [(0, zr 74), (1, zr 75), (2, zi (p : Int))], [], M) κ := by
    intro j
    induction j with
    | zero =>
      intro p M b hp hBM hF hRM hb hnw hnx
      have e0 : M 74 4 = m 74 4 := hF 74 4 rfl
      have e57 : M 75 57 = b.1 57 := by rw [hRM.1]
      refine zb235_2_75 (D := D + 167) hT rfl hBM (by omega) (fun _ => ?_) (fun q1 => by omega) (fun q1 => by omega)
      refine hnx _ (zB_u hBM (show 0 ≤ M 75 57 + 1 ∧ M 75 57 + 1 ≤ 400000 by have := hb.2.2; omega)) (hF.set rfl) ⟨?_, ?_, ?_, ?_⟩
      · rw [zu_row, hRM.1]
        rfl
      · rw [zu_dn (by omega)]
        exact hRM.2.1
      · rw [zu_dn (by omega)]
        exact hRM.2.2.1
      · rw [zu_dn (by omega)]
        exact hRM.2.2.2
    | succ j ih =>
      intro p M b hp hBM hF hRM hb hnw hnx
      have e0 : M 74 4 = m 74 4 := hF 74 4 rfl
      have e78 : M 78 p = m 78 p := hF 78 p rfl
      have e79 : M 79 0 = m 79 0 := hF 79 0 rfl
      have g1 : M 75 p = b.1 p := by rw [hRM.1]
      have g2 : M 75 (p + 6) = b.1 (p + 6) := by rw [hRM.1]
      have g3 : M 75 57 = b.1 57 := by rw [hRM.1]
      obtain ⟨w1, w2⟩ := hb.1 p (by omega)
      have w3 := hb.2.2
      rw [wkP] at hnx
      refine zb235_2_75 (D := D + 167) hT rfl hBM (by omega) (fun q1 => by omega) (fun q1 q2 => ?_) (fun q1 q2 => ?_)
      · rw [if_pos (by omega)] at hnx
        exact ih (p + 1) M b (by omega) hBM hF hRM hb hnw hnx
      · rw [if_neg (by omega)] at hnx
        obtain ⟨pl, hpl⟩ : ∃ pl : Nat, M 75 p = (pl : Int) := ⟨(M 75 p).toNat, by omega⟩
        obtain ⟨c, hc⟩ : ∃ c : Nat, M 75 (p + 6) = (c : Int) := ⟨(M 75 (p + 6)).toNat, by omega⟩
        rw [hpl, hc]
        refine z_lawOf hT hBM (by omega) (by omega) (by omega) (LawRel_fr hF gwL_75 hLR) (fun m1 hB1 hF1 => ?_)
        have hF2 : zFr (gwW 75) m m1 := hF.trans (hF1.mono (fun c j q => by
          simp only [gwW, Bool.or_eq_false_iff] at q
          exact q.2))
        have f1 : ∀ j, m1 75 j = M 75 j := fun j => hF1 75 j rfl
        have hR1 : RelR 75 m1 b := by
          refine ⟨?_, ?_, ?_, ?_⟩
          · rw [← hRM.1]
            exact funext f1
          · rw [hF1 74 31 rfl]
            exact hRM.2.1
          · rw [hF1 74 32 rfl]
            exact hRM.2.2.1
          · rw [hF1 74 33 rfl]
            exact hRM.2.2.2
        refine zb235_40_75 (D := D + 167) hT rfl (by omega) LWB (by omega) ?_
        refine z_makes_75 (D := D + 168) hT hB1 (by omega) LWB hR1 (fun m2 hB2 hFt hR2 => ?_)
        refine zb235_43_75 (D := D + 167) hT rfl (by omega) ?_
        have eL : LW M (M 78 p) (p : Int) pl (M 75 57) = lawR m p (b.1 p) (b.1 57) := by
          unfold lawR
          rw [(LW_fr hF gwL_75.1).1, e78, g3, ← g1, hpl]
          rfl
        have ec : (b.1 (p + 6)).toNat = c := by omega
        rw [eL, hF1 79 0 rfl, e79] at hR2
        rw [ec] at hnx
        have hFr2 : zFr (gwW 75) m m2 := hF2.trans (hFt.mono (fun c j q => by
          simp only [gwW, Bool.or_eq_false_iff] at q
          exact q.1))
        have en2 : (mkA (m 79 0) b c (lawR m p (b.1 p) (b.1 57))).1 57 = b.1 57 := mkA_keep (by omega) hb.2.1 (by omega)
        exact ih (p + 1) m2 _ (by omega) hB2 hFr2 hR2 (hb.mk (by omega) (by omega) (hB 79 0).1 (by omega)) (by omega) hnx
  exact zb235_0_75 (D := D + 167) hT (inner n 0 m a (by omega) hB zFr.refl hR ho hnow hk)
theorem gwL_91 : lawSR (gwW 91) := ⟨⟨rfl, fun _ => rfl, fun _ => rfl, rfl, fun _ => rfl, fun _ => rfl, fun _ => rfl⟩, rfl, rfl, fun _ => rfl, fun _ => rfl, fun _ => rfl⟩
theorem z_goWeek_91 (hT : zRules T) {n k : Nat} {a : zS} (hB : zB m) (hn : m 74 4 = (n : Int)) (hk8 : k ≤ 8) (hLR : LawRel m) (hR : RelR 91 m a) (ho : okRow n k a.1) (hnow : a.1 57 + 1 ≤ 400000)
    (hk : ∀ m1, zB m1 → zFr (gwW 91) m m1 → RelR 91 m1 (wkA (lawR m) (m 79 0) n a) → κ none m1) : T (D + 171) 235 (0, [(0, zr 74), (1, zr 91)], [], m) κ := by
  have h744 : 0 ≤ m 74 4 ∧ m 74 4 ≤ 6 := hB 74 4
  have inner : ∀ (j p : Nat) (M : zM) (b : zS), p + j = n → zB M → zFr (gwW 91) m M → RelR 91 M b → okRow n k b.1 → b.1 57 + 1 ≤ 400000 →
      (∀ M2, zB M2 → zFr (gwW 91) m M2 → RelR 91 M2 (fu (wkP (lawR m) (m 79 0) b p j).1 57 ((wkP (lawR m) (m 79 0) b p j).1 57 + 1), (wkP (lawR m) (m 79 0) b p j).2) → κ none M2) →
      T (D + 171) 235 (2, [(0, zr 74), (1, zr 91), (2, zi (p : Int))], [], M) κ := by
    intro j
    induction j with
    | zero =>
      intro p M b hp hBM hF hRM hb hnw hnx
      have e0 : M 74 4 = m 74 4 := hF 74 4 rfl
      have e57 : M 91 57 = b.1 57 := by rw [hRM.1]
      refine zb235_2_91 (D := D + 167) hT rfl hBM (by omega) (fun _ => ?_) (fun q1 => by omega) (fun q1 => by omega)
      refine hnx _ (zB_u hBM (show 0 ≤ M 91 57 + 1 ∧ M 91 57 + 1 ≤ 400000 by have := hb.2.2; omega)) (hF.set rfl) ⟨?_, ?_, ?_, ?_⟩
      · rw [zu_row, hRM.1]
        rfl
      · rw [zu_dn (by omega)]
        exact hRM.2.1
      · rw [zu_dn (by omega)]
        exact hRM.2.2.1
      · rw [zu_dn (by omega)]
        exact hRM.2.2.2
    | succ j ih =>
      intro p M b hp hBM hF hRM hb hnw hnx
      have e0 : M 74 4 = m 74 4 := hF 74 4 rfl
      have e78 : M 78 p = m 78 p := hF 78 p rfl
      have e79 : M 79 0 = m 79 0 := hF 79 0 rfl
      have g1 : M 91 p = b.1 p := by rw [hRM.1]
      have g2 : M 91 (p + 6) = b.1 (p + 6) := by rw [hRM.1]
      have g3 : M 91 57 = b.1 57 := by rw [hRM.1]
      obtain ⟨w1, w2⟩ := hb.1 p (by omega)
      have w3 := hb.2.2
      rw [wkP] at hnx
      refine zb235_2_91 (D := D + 167) hT rfl hBM (by omega) (fun q1 => by omega) (fun q1 q2 => ?_) (fun q1 q2 => ?_)
      · rw [if_pos (by omega)] at hnx
        exact ih (p + 1) M b (by omega) hBM hF hRM hb hnw hnx
      · rw [if_neg (by omega)] at hnx
        obtain ⟨pl, hpl⟩ : ∃ pl : Nat, M 91 p = (pl : Int) := ⟨(M 91 p).toNat, by omega⟩
        obtain ⟨c, hc⟩ : ∃ c : Nat, M 91 (p + 6) = (c : Int) := ⟨(M 91 (p + 6)).toNat, by omega⟩
        rw [hpl, hc]
        refine z_lawOf hT hBM (by omega) (by omega) (by omega) (LawRel_fr hF gwL_91 hLR) (fun m1 hB1 hF1 => ?_)
        have hF2 : zFr (gwW 91) m m1 := hF.trans (hF1.mono (fun c j q => by
          simp only [gwW, Bool.or_eq_false_iff] at q
          exact q.2))
        have f1 : ∀ j, m1 91 j = M 91 j := fun j => hF1 91 j rfl
        have hR1 : RelR 91 m1 b := by
          refine ⟨?_, ?_, ?_, ?_⟩
          · rw [← hRM.1]
            exact funext f1
          · rw [hF1 74 31 rfl]
            exact hRM.2.1
          · rw [hF1 74 32 rfl]
            exact hRM.2.2.1
          · rw [hF1 74 33 rfl]
            exact hRM.2.2.2
        refine zb235_40_91 (D := D + 167) hT rfl (by omega) LWB (by omega) ?_
        refine z_makes_91 (D := D + 168) hT hB1 (by omega) LWB hR1 (fun m2 hB2 hFt hR2 => ?_)
        refine zb235_43_91 (D := D + 167) hT rfl (by omega) ?_
        have eL : LW M (M 78 p) (p : Int) pl (M 91 57) = lawR m p (b.1 p) (b.1 57) := by
          unfold lawR
          rw [(LW_fr hF gwL_91.1).1, e78, g3, ← g1, hpl]
          rfl
        have ec : (b.1 (p + 6)).toNat = c := by omega
        rw [eL, hF1 79 0 rfl, e79] at hR2
        rw [ec] at hnx
        have hFr2 : zFr (gwW 91) m m2 := hF2.trans (hFt.mono (fun c j q => by
          simp only [gwW, Bool.or_eq_false_iff] at q
          exact q.1))
        have en2 : (mkA (m 79 0) b c (lawR m p (b.1 p) (b.1 57))).1 57 = b.1 57 := mkA_keep (by omega) hb.2.1 (by omega)
        exact ih (p + 1) m2 _ (by omega) hB2 hFr2 hR2 (hb.mk (by omega) (by omega) (hB 79 0).1 (by omega)) (by omega) hnx
  exact zb235_0_91 (D := D + 167) hT (inner n 0 m a (by omega) hB zFr.refl hR ho hnow hk)
end ZWeekR
