/-! WEEKS go by: the class's cells, the reference's rows. -/
noncomputable def wkP (L : Nat → Int → Int → Int) (h : Int) : zS → Nat → Nat → zS
  | a, _, 0 => a
  | a, p, j + 1 => wkP L h (if a.1 (p + 6) = -1 then a else mkA h a (a.1 (p + 6)).toNat (L p (a.1 p) (a.1 57))) (p + 1) j
noncomputable def wkA (L : Nat → Int → Int → Int) (h : Int) (n : Nat) (a : zS) : zS := (fu (wkP L h a 0 n).1 57 ((wkP L h a 0 n).1 57 + 1), (wkP L h a 0 n).2)
noncomputable def wksA (L : Nat → Int → Int → Int) (h : Int) (n : Nat) : zS → Nat → zS
  | a, 0 => a
  | a, t + 1 => wksA L h n (wkA L h n a) t
/-- LAW by the cells of m: of one, at a PLACE, in a WEEK -/
noncomputable def lawM (m : zM) (p : Nat) (pl w : Int) : Int := LW m (m 18 p) (p : Int) pl.toNat w
/-- what a row must be like -/
noncomputable def okRow (n k : Nat) (g : Nat → Int) : Prop := (∀ p, p < n → (0 ≤ g p ∧ g p ≤ 3) ∧ (g (p + 6) = -1 ∨ (0 ≤ g (p + 6) ∧ g (p + 6) < k))) ∧ (0 ≤ g 56 ∧ g 56 ≤ 20) ∧ (0 ≤ g 57 ∧ ∀ c, c < k → 0 ≤ g (c + 20))
theorem mkA_keep {h : Int} {a : zS} {c : Nat} {v : Int} (hc : c ≤ 7) (h56 : 0 ≤ a.1 56 ∧ a.1 56 ≤ 20) {j : Nat} (hj : j < 12 ∨ j = 57 ∨ j = 58) : (mkA h a c v).1 j = a.1 j := by
  unfold mkA
  split
  · rfl
  · split
    · simp (disch := omega) only [fu_ne]
    · split
      · split
        · simp (disch := omega) only [fu_ne]
        · simp (disch := omega) only [fu_ne]
      · simp (disch := omega) only [fu_ne]
theorem mkA_56 {h : Int} {a : zS} {c : Nat} {v : Int} (hc : c ≤ 7) (h56 : 0 ≤ a.1 56 ∧ a.1 56 ≤ 20) : 0 ≤ (mkA h a c v).1 56 ∧ (mkA h a c v).1 56 ≤ 20 := by
  unfold mkA
  split
  · exact h56
  · split
    · simp (disch := omega) only [fu_ne]
      exact h56
    · split
      · split
        · simp (disch := omega) only [fu_ne]
          exact h56
        · simp (disch := omega) only [fu_eq]
          omega
      · simp (disch := omega) only [fu_ne]
        exact h56
theorem mkA_hem {h : Int} {a : zS} {c : Nat} {v : Int} (hc : c ≤ 7) (hh : 0 ≤ h) (h56 : 0 ≤ a.1 56 ∧ a.1 56 ≤ 20) {q : Nat} (hq : q ≤ 7) (h0 : 0 ≤ a.1 (q + 20)) : 0 ≤ (mkA h a c v).1 (q + 20) := by
  unfold mkA
  split
  · exact h0
  · by_cases e : q = c
    · subst e
      split
      · simp (disch := omega) only [fu_ne, fu_eq]
        omega
      · split
        · split
          · simp (disch := omega) only [fu_ne, fu_eq]
            exact hh
          · simp (disch := omega) only [fu_ne, fu_eq]
            exact hh
        · simp (disch := omega) only [fu_ne, fu_eq]
          omega
    · split
      · simp (disch := omega) only [fu_ne]
        exact h0
      · split
        · split
          · simp (disch := omega) only [fu_ne]
            exact h0
          · simp (disch := omega) only [fu_ne]
            exact h0
        · simp (disch := omega) only [fu_ne]
          exact h0
theorem okRow.mk {n k : Nat} {h : Int} {a : zS} {c : Nat} {v : Int} (hn : n ≤ 6) (hk : k ≤ 8) (hh : 0 ≤ h) (hc : c ≤ 7) (ho : okRow n k a.1) : okRow n k (mkA h a c v).1 := by
  obtain ⟨o1, o2, o3, o4⟩ := ho
  refine ⟨fun p hp => ?_, mkA_56 hc o2, ?_, fun q hq => mkA_hem hc hh o2 (by omega) (o4 q hq)⟩
  · rw [mkA_keep hc o2 (by omega), mkA_keep hc o2 (by omega)]
    exact o1 p hp
  · rw [mkA_keep hc o2 (by omega)]
    exact o3
noncomputable def pwW (c j : Nat) : Bool := tlW c j || (Nat.beq c 13 || (Nat.beq c 17 && Nat.beq j 11))
theorem pwL : lawS pwW := ⟨rfl, fun _ => rfl, fun _ => rfl, rfl, fun _ => rfl, fun _ => rfl, fun _ => rfl⟩
section ZWeeks
variable {T : Nat → Nat → zG → (Option zA → zM → Prop) → Prop} {D : Nat} {κ : Option zA → zM → Prop} {m : zM}
theorem z_lawNow (hT : zRules T) {p : Nat} {pl : Nat} (hB : zB m) (hp : p ≤ 5) (hh : 0 ≤ m 18 p) (hpl : m 19 p = (pl : Int)) (hpl3 : pl ≤ 3) (hWF : WFr m)
    (hk : ∀ m1, zB m1 → zFr (rowW 13) m m1 → κ (some (zi (LW m (m 18 p) (p : Int) pl (m 17 11)))) m1) : T (D + 4) 171 (0, [(0, zr 1), (1, zi (p : Int))], [], m) κ := by
  have h18 : -1 ≤ m 18 p ∧ m 18 p ≤ 99 := hB 18 p
  have h17 : 0 ≤ m 17 11 ∧ m 17 11 ≤ 400000 := hB 17 11
  refine zb171_0 hT hB hp ?_
  rw [hpl]
  exact z_lawFor hT hB ⟨hh, h18.2⟩ (by omega) hpl3 (by omega) hWF (fun m1 h1 h2 => zb171_30 hT rfl LWB (hk m1 h1 h2))
theorem z_lawAt (hT : zRules T) {p : Nat} {pl : Nat} {w : Int} (hB : zB m) (hp : p ≤ 5) (hh : 0 ≤ m 18 p) (hpl3 : pl ≤ 3) (hw : 0 ≤ w ∧ w ≤ 500000) (hWF : WFr m)
    (hk : ∀ m1, zB m1 → zFr (rowW 13) m m1 → κ (some (zi (LW m (m 18 p) (p : Int) pl w))) m1) : T (D + 4) 169 (0, [(0, zr 1), (1, zi (p : Int)), (2, zi (pl : Int)), (3, zi w)], [], m) κ := by
  have h18 : -1 ≤ m 18 p ∧ m 18 p ≤ 99 := hB 18 p
  refine zb169_0 hT hB hp ?_
  exact z_lawFor hT hB ⟨hh, h18.2⟩ (by omega) hpl3 hw hWF (fun m1 h1 h2 => zb169_16 hT rfl LWB (hk m1 h1 h2))
theorem z_passWeeks (hT : zRules T) {t n k : Nat} {a : zS} (hB : zB m) (ht : t ≤ 60) (hn : m 17 0 = (n : Int)) (hk8 : m 17 1 = (k : Int)) (hh : ∀ p, p < n → 0 ≤ m 18 p) (hWF : WFr m) (hR : RelA n k m a) (ho : okRow n k a.1) (hnow : m 17 11 + t ≤ 400000)
    (hk : ∀ m1, zB m1 → zFr pwW m m1 → RelA n k m1 (wksA (lawM m) (m 24 0) n a t) → okRow n k (wksA (lawM m) (m 24 0) n a t).1 → (wksA (lawM m) (m 24 0) n a t).1 57 = a.1 57 + t → κ none m1) : T (D + 5) 175 (0, [(0, zr 1), (1, zi (t : Int))], [], m) κ := by
  have h170 : 0 ≤ m 17 0 ∧ m 17 0 ≤ 6 := hB 17 0
  have h171 : 0 ≤ m 17 1 ∧ m 17 1 ≤ 8 := hB 17 1
  have wkL : ∀ (j p : Nat) (b : zS), okRow n k b.1 → p + j = n → okRow n k (wkP (lawM m) (m 24 0) b p j).1 ∧ (wkP (lawM m) (m 24 0) b p j).1 57 = b.1 57 := by
    intro j
    induction j with
    | zero => intro p b hb _; exact ⟨hb, rfl⟩
    | succ j ih =>
      intro p b hb hp
      rw [wkP]
      split
      · exact ih (p + 1) b hb (by omega)
      · rename_i hne
        have hw := (hb.1 p (by omega)).2
        have h1 := ih (p + 1) _ (hb.mk (h := m 24 0) (c := (b.1 (p + 6)).toNat) (v := lawM m p (b.1 p) (b.1 57)) (by omega) (by omega) (hB 24 0).1 (by omega)) (by omega)
        exact ⟨h1.1, h1.2.trans (mkA_keep (by omega) hb.2.1 (by omega))⟩
  -- one WEEK: the people from p on
  have inner : ∀ (j p q : Nat) (M : zM) (b : zS), p + j = n → q ≤ 60 → zB M → zFr pwW m M → RelA n k M b → okRow n k b.1 → M 17 11 + 1 ≤ 400000 →
      (∀ M2, zB M2 → zFr pwW m M2 → RelA n k M2 (fu (wkP (lawM m) (m 24 0) b p j).1 57 ((wkP (lawM m) (m 24 0) b p j).1 57 + 1), (wkP (lawM m) (m 24 0) b p j).2) → T (D + 5) 175 (2, [(0, zr 1), (1, zi (t : Int)), (2, zi ((q : Int) + 1))], [], M2) κ) →
      T (D + 5) 175 (9, [(0, zr 1), (1, zi (t : Int)), (2, zi (q : Int)), (3, zi (p : Int))], [], M) κ := by
    intro j
    induction j with
    | zero =>
      intro p q M b hp hq hBM hF hRM hb hnw hnx
      have e0 : M 17 0 = m 17 0 := hF 17 0 rfl
      have h11 : 0 ≤ M 17 11 ∧ M 17 11 ≤ 400000 := hBM 17 11
      refine zb175_9 hT rfl hBM ht hq (by omega) (fun _ => ?_) (fun q1 => by omega) (fun q1 => by omega) (fun q1 => by omega)
      refine hnx _ (zB_u hBM (show 0 ≤ M 17 11 + 1 ∧ M 17 11 + 1 ≤ 400000 by omega)) (hF.set rfl) ?_
      obtain ⟨⟨r1, r2, r3, r4, r5, r6⟩, b1, b2, b3⟩ := hRM
      refine ⟨⟨fun p hp => ?_, fun d hd => ?_, ?_, fun i hi => ?_, ?_, ?_⟩, ?_, ?_, ?_⟩
      · simp (disch := omega) only [zu_dn, fu_ne, wkP]
        exact r1 p hp
      · simp (disch := omega) only [zu_dn, fu_ne, wkP]
        exact r2 d hd
      · simp (disch := omega) only [zu_dn, fu_ne, wkP]
        exact r3
      · have h56 := hb.2.1
        simp (disch := omega) only [zu_dn, fu_ne, wkP] at hi
        simp (disch := omega) only [zu_dn, fu_ne, wkP]
        exact r4 i hi
      · simp (disch := omega) only [zu_sm, fu_eq, wkP]
        omega
      · simp (disch := omega) only [zu_off, fu_ne, wkP]
        exact r6
      · simp (disch := omega) only [zu_off, wkP]
        exact b1
      · simp (disch := omega) only [zu_off, wkP]
        exact b2
      · simp (disch := omega) only [zu_off, wkP]
        exact b3
    | succ j ih =>
      intro p q M b hp hq hBM hF hRM hb hnw hnx
      have e0 : M 17 0 = m 17 0 := hF 17 0 rfl
      have e1 : M 17 1 = m 17 1 := hF 17 1 rfl
      have e18 : M 18 p = m 18 p := hF 18 p rfl
      have e24 : M 24 0 = m 24 0 := hF 24 0 rfl
      obtain ⟨w1, w2⟩ := hb.1 p (by omega)
      obtain ⟨g1, g2⟩ := hRM.1.1 p (by omega)
      rw [wkP] at hnx
      refine zb175_9 hT rfl hBM ht hq (by omega) (fun q1 => by omega) (fun q1 q2 => ?_) (fun q1 q2 q3 => ?_) (fun q1 q2 q3 => ?_)
      · rw [if_pos (by omega)] at hnx
        exact ih (p + 1) q M b (by omega) hq hBM hF hRM hb hnw hnx
      · omega
      · rw [if_neg (by omega)] at hnx
        obtain ⟨pl, hpl⟩ : ∃ pl : Nat, M 19 p = (pl : Int) := ⟨(M 19 p).toNat, by omega⟩
        obtain ⟨c, hc⟩ : ∃ c : Nat, M 20 p = (c : Int) := ⟨(M 20 p).toNat, by omega⟩
        have hLW := LW_fr hF pwL
        refine z_lawNow hT hBM (by omega) (by rw [e18]; exact hh p (by omega)) hpl (by omega) (hLW.2 hWF) (fun m1 hB1 hF1 => ?_)
        rw [hc]
        have f1 : ∀ c j, c ≠ 13 → m1 c j = M c j := fun c j hc => hF1 c j (q_beqF hc)
        have hF2 : zFr pwW m m1 := hF.trans (hF1.mono (fun c j hc => by
          simp only [pwW, Bool.or_eq_false_iff] at hc
          exact hc.2.1))
        refine zb175_57 hT rfl ht hq (by omega) LWB (by omega) ?_
        have hR1 : RelA n k m1 b := by
          obtain ⟨⟨r1, r2, r3, r4, r5, r6⟩, b1, b2, b3⟩ := hRM
          refine ⟨⟨fun p hp => ?_, fun d hd => ?_, ?_, fun i hi => ?_, ?_, ?_⟩, ?_, ?_, ?_⟩
          · rw [f1 19 p (by omega), f1 20 p (by omega)]
            exact r1 p hp
          · rw [f1 21 d (by omega), f1 22 d (by omega), f1 23 d (by omega)]
            exact r2 d hd
          · rw [f1 25 2 (by omega)]
            exact r3
          · rw [f1 26 i (by omega)]
            exact r4 i hi
          · rw [f1 17 11 (by omega)]
            exact r5
          · rw [f1 17 10 (by omega)]
            exact r6
          · rw [f1 17 12 (by omega)]
            exact b1
          · rw [f1 17 13 (by omega)]
            exact b2
          · rw [f1 17 14 (by omega)]
            exact b3
        refine z_tailor hT hB1 (by omega) (by omega) (by omega) LWB hR1 (fun m2 hB2 hFt hR2 => ?_)
        refine zb175_60 hT rfl ht hq (by omega) ?_
        have e57 : b.1 57 = M 17 11 := hRM.1.2.2.2.2.1.symm
        have eL : LW M (M 18 p) (p : Int) pl (M 17 11) = lawM m p (b.1 p) (b.1 57) := by
          unfold lawM
          rw [hLW.1, e18, e57, ← g1, hpl]
          rfl
        have ec : (b.1 (p + 6)).toNat = c := by omega
        rw [eL, f1 24 0 (by omega), e24] at hR2
        rw [ec] at hnx
        have hFr2 : zFr pwW m m2 := hF2.trans (hFt.mono (fun c j hc => by
          simp only [pwW, Bool.or_eq_false_iff] at hc
          exact hc.1))
        have en2 : m2 17 11 = M 17 11 := by rw [hFt 17 11 rfl, f1 17 11 (by omega)]
        exact ih (p + 1) q m2 _ (by omega) hq hB2 hFr2 hR2 (hb.mk (by omega) (by omega) (hB 24 0).1 (by omega)) (by omega) hnx
  have outer : ∀ (j q : Nat) (M : zM) (b : zS), q + j = t → zB M → zFr pwW m M → RelA n k M b → okRow n k b.1 → b.1 57 + j = a.1 57 + t → wksA (lawM m) (m 24 0) n b j = wksA (lawM m) (m 24 0) n a t → T (D + 5) 175 (2, [(0, zr 1), (1, zi (t : Int)), (2, zi (q : Int))], [], M) κ := by
    intro j
    induction j with
    | zero =>
      intro q M b hq hBM hF hRM hb h57 hw
      rw [wksA] at hw
      refine zb175_2 hT rfl ht (by omega) (fun _ => ?_) (fun q1 => by omega)
      refine hk M hBM hF (by rw [← hw]; exact hRM) (by rw [← hw]; exact hb) (by rw [← hw]; omega)
    | succ j ih =>
      intro q M b hq hBM hF hRM hb h57 hw
      have e57 : M 17 11 = b.1 57 := hRM.1.2.2.2.2.1
      have a57 : m 17 11 = a.1 57 := hR.1.2.2.2.2.1
      refine zb175_2 hT rfl ht (by omega) (fun q1 => by omega) (fun _ => ?_)
      refine inner n 0 q M b (by omega) (by omega) hBM hF hRM hb (by omega) (fun M2 h2 hF2 hR2 => ?_)
      obtain ⟨ok2, e2⟩ := wkL n 0 b hb (by omega)
      rw [wksA] at hw
      refine ih (q + 1) M2 (wkA (lawM m) (m 24 0) n b) (by omega) h2 hF2 hR2 ?_ ?_ hw
      · obtain ⟨o1, o2, o3, o4⟩ := ok2
        refine ⟨fun p hp => ?_, ?_, ?_, fun c hc => ?_⟩
        · unfold wkA
          simp (disch := omega) only [fu_ne]
          exact o1 p hp
        · unfold wkA
          simp (disch := omega) only [fu_ne]
          exact o2
        · unfold wkA
          simp (disch := omega) only [fu_eq]
          omega
        · unfold wkA
          simp (disch := omega) only [fu_ne]
          exact o4 c hc
      · unfold wkA
        simp (disch := omega) only [fu_eq]
        omega
  exact zb175_0 hT ht (outer t 0 m a (by omega) hB zFr.refl hR ho rfl rfl)
end ZWeeks
