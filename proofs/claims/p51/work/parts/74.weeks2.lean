/-! week(), weeks(), undo(), keep(), again(). -/
/-- a moment was written ahead of its call, and counts not yet -/
noncomputable def MarkC (m m1 : zM) : Prop := m1 28 4 = m 28 4 ∧ m1 28 5 = m 28 5 ∧ ∀ x, x < 13 → ¬ x = ((m 28 4).toNat + (m 28 5).toNat) % 13 → m1 (30 + x) = m (30 + x)
theorem Undo_mark {B : Int} {n k : Nat} {m m1 m5 : zM} (hB : zB m) (hn : n ≤ 6) (hk : k ≤ 8) (hU : UndoRel B n k m) (hC : MarkC m m1) (a1 : Agree remCL m1 m5) (a2 : Agree [(74, some 35), (87, none)] m m5) : UndoRel B n k m5 := by
  obtain ⟨c1, c2, c3⟩ := hC
  have b4 : 0 ≤ m 28 4 ∧ m 28 4 ≤ 12 := hB 28 4
  have b5 : 0 ≤ m 28 5 ∧ m 28 5 ≤ 12 := hB 28 5
  have e5 : m5 28 5 = m 28 5 := by rw [a1 28 5 rfl, c2]
  have e4 : m5 28 4 = m 28 4 := by rw [a1 28 4 rfl, c1]
  refine ⟨by rw [a2 74 35 rfl, e5]; exact hU.1, fun i hi => ?_⟩
  rw [e5] at hi
  obtain ⟨g1, g2, g3⟩ := hU.2 i hi
  have esl : slt m5 i = slt m i := by
    unfold slt
    rw [e4]
  have hsl : slt m i < 13 := by unfold slt; omega
  have hne : ¬ slt m i = ((m 28 4).toNat + (m 28 5).toNat) % 13 := by
    unfold slt
    omega
  have er : m5 (30 + slt m5 i) = m (30 + slt m i) := by
    rw [esl, ← c3 _ hsl hne]
    exact funext fun j => a1 _ j (remCL_in hsl j)
  have e87 : m5 87 = m 87 := funext fun j => a2 87 j rfl
  rw [er, e87]
  exact ⟨g1, g2, g3⟩
theorem z_markF {m m1 : zM} (hB : zB m) (hF1 : zFr (rowW (30 + frs m)) m m1) : zFr (inL remCL) m m1 ∧ MarkC m m1 := by
  have b4 : 0 ≤ m 28 4 ∧ m 28 4 ≤ 12 := hB 28 4
  have b5 : 0 ≤ m 28 5 ∧ m 28 5 ≤ 12 := hB 28 5
  have hf := frsE hB
  refine ⟨hF1.sub (fun c j q => ?_), hF1 28 4 ?_, hF1 28 5 ?_, fun x hx hne => funext fun j => hF1 _ j ?_⟩
  · have e := Nat.eq_of_beq_eq_true q
    subst e
    exact remCL_in (by omega) j
  · cases hb : rowW (30 + frs m) 28 4 with
    | false => rfl
    | true =>
      have := Nat.eq_of_beq_eq_true hb
      omega
  · cases hb : rowW (30 + frs m) 28 5 with
    | false => rfl
    | true =>
      have := Nat.eq_of_beq_eq_true hb
      omega
  · cases hb : rowW (30 + frs m) (30 + x) j with
    | false => rfl
    | true =>
      have := Nat.eq_of_beq_eq_true hb
      omega
section ZWeeks2
variable {T : Nat → Nat → zG → (Option zA → zM → Prop) → Prop} {B : Int}
theorem z_weeksL (hT : zRules T) {D : Nat} {κ : Option zA → zM → Prop} {m0 : zM} {n k nn : Nat} (hn : m0 74 4 = (n : Int)) (hn6 : n ≤ 6) (hk8 : k ≤ 8) (hLR : LawRel m0) (hnn : nn ≤ 60) : ∀ (j t : Nat) (b : zS) (M : zM), t + j = nn → zB M → zFr (inL (mkL 75 ++ lbL)) m0 M → RelR 75 M b → okRow n k b.1 → b.1 57 + j ≤ 400000 → (∀ M1, zB M1 → zFr (inL (mkL 75 ++ lbL)) m0 M1 → RelR 75 M1 (wksA (lawR m0) (m0 79 0) n b j) → zB (payR M1) → κ (some (zi (costR M1))) (payR M1)) → T (D + 172) 237 (35, [(0, zr 74), (1, zi (nn : Int)), (2, zi (t : Int))], [], M) κ := by
  intro j
  induction j with
  | zero =>
    intro t b M ht hBM hF hR ho hb hk
    exact zb237_35 (D := D + 169) (n := nn) (k := t) hT rfl hBM hnn (by omega) (fun _ hz => hk M hBM hF hR hz) (fun q => by omega)
  | succ j ih =>
    intro t b M ht hBM hF hR ho hb hk
    have hA : Agree KL m0 M := .of hF rfl
    have e78 : M 78 = m0 78 := funext fun j => hF 78 j rfl
    have eL : lawR M = lawR m0 := by
      unfold lawR
      rw [hA.law.2, e78]
    have hok := wkA_ok (L := lawR m0) (h := m0 79 0) hn6 hk8 (by have := (hBM 79 0).1; rw [hF 79 0 rfl] at this; exact this) ho
    refine zb237_35 (D := D + 169) (n := nn) (k := t) hT rfl hBM hnn (by omega) (fun q => by omega) (fun _ => ?_)
    refine z_goWeek_75 (D := D) (n := n) (k := k) hT hBM ((hF 74 4 rfl).trans hn) hk8 (hA.law.1 hLR) hR ho (by omega) (fun M1 hB1 hF1 hR1 => ?_)
    rw [eL, hF 79 0 rfl] at hR1
    refine zb237_48 (D := D + 169) (n := nn) (k := t) hT rfl hB1 hnn (by omega) ?_
    exact ih (t + 1) _ M1 (by omega) hB1 (hF.trans (hF1.sub gwWL)) hR1 hok.1 (by rw [hok.2]; omega) (fun M2 h1 h2 h3 h4 => hk M2 h1 h2 (by rw [wksA]; exact h3) h4)
/-- so many WEEKS, by both -/
theorem z_weeksPair (hT : zRules T) {D : Nat} {m : zM} {sc : zSc} {n k nn : Nat} {κ : Option zA → zM → Prop} (hI : Inv B sc n k m) (hB4 : B + 60 ≤ 400000) (hnn : nn ≤ 60)
    (hκ : ∀ v m1, wr v = v → zB m1 → (∀ (D2 : Nat) (κ2 : Option zA → zM → Prop), (∀ m2, Inv (B + 60) sc n k m2 → κ2 (some (zi v)) m2) → T (D2 + 172) 237 (0, [(0, zr 74), (1, zi (nn : Int))], [], m1) κ2) → κ (some (zi v)) m1) : T (D + 6) 174 (0, [(0, zr 1), (1, zi (nn : Int))], [], m) κ := by
  have hI0 := hI.up (show B ≤ B + 60 by omega)
  have i10' := hI.2.2.2.2.2.2.2.2.2.1
  obtain ⟨i1, i2, i3, i4, i5, i6, i7, i8, i9, i10, i11⟩ := hI0
  have hI0 := hI.up (show B ≤ B + 60 by omega)
  have i40 := i4
  obtain ⟨⟨n1, n2⟩, ⟨k1, k2⟩, hh, hRel, hok⟩ := i4
  have b17 : 0 ≤ m 17 0 ∧ m 17 0 ≤ 6 := i1 17 0
  have b171 : 0 ≤ m 17 1 ∧ m 17 1 ≤ 8 := i1 17 1
  have h75 : 0 ≤ m 75 57 := hok.2.2.1
  -- behind the class's passing: m1 remembers, m2 has its bill at 0
  have go : ∀ m1 m2, (nn = 0 ∧ MarkC m m1 ∨ 0 < nn ∧ RemC m m1) → zFr (inL remCL) m m1 → zB m2 → m2 = zu (zu (zu m1 17 12 0) 17 13 0) 17 14 0 → T (D + 5) 175 (0, [(0, zr 1), (1, zi (nn : Int))], [], m2) (fun r m1 => T (D + 6) 174 (34, [(0, zr 1), (1, zi (nn : Int))], r.toList ++ [], m1) κ) := by
    intro m1 m2 hC hF1 hz hm2
    have hF2 : zFr (inL (remCL ++ [(17, some 12), (17, some 13), (17, some 14)])) m m2 := by
      rw [hm2]
      exact (((hF1.sub (inL_sub (by decide))).set rfl).set rfl).set rfl
    have hR2 : RelA n k m2 (m 75, 0, 0, 0) := ⟨hRel.fr (.of hF2 rfl), by rw [hm2]; simp (disch := omega) only [zu_off, zu_sm], by rw [hm2]; simp (disch := omega) only [zu_off, zu_sm], by rw [hm2]; simp (disch := omega) only [zu_sm]⟩
    have hA2 : Agree KL m m2 := .of hF2 rfl
    have eL : lawM m2 = lawM m := by
      unfold lawM
      rw [hA2.law.2, show m2 18 = m 18 from funext fun j => hF2 18 j rfl]
    have e1711 : m2 17 11 = m 75 57 := (hF2 17 11 rfl).trans hRel.2.2.2.2.1
    refine z_passWeeks (n := n) (k := k) (a := (m 75, 0, 0, 0)) hT hz hnn ((hF2 17 0 rfl).trans n1) ((hF2 17 1 rfl).trans k1) (fun p hp => by rw [hF2 18 p rfl]; have := (hh p hp).2; omega) (hA2.law.1 i3).1 hR2 hok (by omega) (fun m3 hB3 hF3 hR3 hA0 hA57 => ?_)
    rw [eL, hF2 24 0 rfl] at hR3 hA0 hA57
    have eLL : wksA (lawM m) (m 24 0) n (m 75, 0, 0, 0) nn = wksA (lawR m) (m 24 0) n (m 75, 0, 0, 0) nn := wksA_congr (fun i hi => by
      unfold lawM lawR
      rw [(hh i hi).1]) nn _
    have hA57 : (wksA (lawM m) (m 24 0) n (m 75, 0, 0, 0) nn).1 57 = m 75 57 + nn := hA57
    obtain ⟨hR3, d1, d2, d3⟩ := hR3
    generalize hA : wksA (lawM m) (m 24 0) n (m 75, 0, 0, 0) nn = A at hR3 d1 d2 d3 hA0 hA57 eLL
    have hF3b : zFr (inL (remCL ++ pwLs)) m m3 := (hF2.sub (inL_sub (by decide))).trans ((hF3.sub pwWL).sub (inL_sub (by decide)))
    refine zb174_34 hT rfl hB3 (fun hz4 => ?_)
    have hz4 : zB (payC m3) := hz4
    show κ (some (zi (costC m3))) (payC m3)
    have e24 : ∀ j, m3 24 j = m 24 j := fun j => hF3b 24 j rfl
    have ecost : costC m3 = wr (A.2.1 * m 24 1 + A.2.2.1 * m 24 2) := by
      unfold costC
      rw [d1, d2, e24, e24]
    have hFc : zFr (inL (remCL ++ (pwLs ++ [(17, some 10), (72, some 1), (73, none)]))) m (payC m3) := (hF3b.sub (inL_sub (by decide))).trans (payC_fr.sub (inL_sub (by decide)))
    refine hκ _ _ (by unfold costC; exact wr_wr _) hz4 (fun D2 κ2 h2 => ?_)
    -- the reference from where its bill is 0
    have ref : ∀ m4 m5, zB m5 → m5 = zu (zu (zu m4 74 31 0) 74 32 0) 74 33 0 → zFr (inL [(74, some 12), (74, some 35), (87, none)]) (payC m3) m4 → (nn = 0 ∧ Agree [(74, some 35), (87, none)] (payC m3) m4 ∨ 0 < nn ∧ Rem (zu (payC m3) 74 12 0) m4 (m 75)) → T (D2 + 172) 237 (35, [(0, zr 74), (1, zi (nn : Int)), (2, zi 0)], [], m5) κ2 := by
      intro m4 m5 hz6 hm5 hF4 hM
      have hF5 : zFr (inL [(74, some 12), (74, some 31), (74, some 32), (74, some 33), (74, some 35), (87, none)]) (payC m3) m5 := by
        rw [hm5]
        exact (((hF4.sub (inL_sub (by decide))).set rfl).set rfl).set rfl
      have hF5b : zFr (inL (remCL ++ (pwLs ++ [(17, some 10), (72, some 1), (73, none), (74, some 12), (74, some 31), (74, some 32), (74, some 33), (74, some 35), (87, none)]))) m m5 := (hFc.sub (inL_sub (by decide))).trans (hF5.sub (inL_sub (by decide)))
      have hR5 : RelR 75 m5 (m 75, 0, 0, 0) := ⟨funext fun j => hF5b 75 j rfl, by rw [hm5]; simp (disch := omega) only [zu_off, zu_sm], by rw [hm5]; simp (disch := omega) only [zu_off, zu_sm], by rw [hm5]; simp (disch := omega) only [zu_sm]⟩
      have hA5 : Agree KL m m5 := .of hF5b rfl
      have eL5 : lawR m5 = lawR m := by
        unfold lawR
        rw [hA5.law.2, show m5 78 = m 78 from funext fun j => hF5b 78 j rfl]
      have e79 : ∀ j, j < 3 → m5 79 j = m 24 j := fun j hj => by
        rw [hF5b 79 j rfl]
        exact i5 j hj
      refine z_weeksL hT ((hF5b 74 4 rfl).trans n2) (by omega) (by omega) (hA5.law.1 i3) hnn nn 0 (m 75, 0, 0, 0) m5 (by omega) hz6 zFr.refl hR5 hok (by dsimp only; omega) (fun m6 hB6 hF6 hR6 hz7 => ?_)
      rw [eL5, e79 0 (by omega), ← eLL] at hR6
      obtain ⟨g1, g2, g3, g4⟩ := hR6
      have f79 : ∀ j, j < 3 → m6 79 j = m 24 j := fun j hj => by rw [hF6 79 j rfl, e79 j hj]
      have ecost2 : costR m6 = wr (A.2.1 * m 24 1 + A.2.2.1 * m 24 2) := by
        unfold costR
        rw [f79 1 (by omega), f79 2 (by omega), g2, g3, Int.mul_comm (m 24 1), Int.mul_comm (m 24 2)]
      rw [ecost2, ← ecost]
      have hFr : zFr (inL ([(74, some 11), (74, some 12), (74, some 31), (74, some 32), (74, some 33), (74, some 35), (75, none), (81, none), (87, none)] ++ lbL)) (payC m3) (payR m6) := (hF5.sub (inL_sub (by decide))).trans ((hF6.sub (inL_sub (by decide))).trans (payR_fr.sub (inL_sub (by decide))))
      have hFall : zFr (inL (remCL ++ (pwLs ++ ([(17, some 10), (72, some 1), (73, none), (74, some 11), (74, some 12), (74, some 31), (74, some 32), (74, some 33), (74, some 35), (75, none), (81, none), (87, none)] ++ lbL)))) m (payR m6) := (hFc.sub (inL_sub (by decide))).trans (hFr.sub (inL_sub (by decide)))
      have f75 : ∀ j, payR m6 75 j = if j = 58 then A.1 58 - wr (A.2.1 * m 24 1 + A.2.2.1 * m 24 2) else A.1 j := fun j => by
        rw [payR_75, ecost2, g1]
      have f10 : payR m6 17 10 = A.1 58 - wr (A.2.1 * m 24 1 + A.2.2.1 * m 24 2) := by
        rw [hFr 17 10 rfl, payC_10, ecost, hR3.2.2.2.2.2]
      refine h2 _ (Inv_huR hI0 hz7 (.of hFall rfl) (House_pay (g := A.1) (m3 := m3) (by omega) (by omega) i40 (.of hFall rfl) hR3 ((Agree.of payC_fr rfl).trans (.of hFr rfl)) f10 f75 hA0) ?_ (by rw [f75, if_neg (by omega), hA57]; omega) (RowP.len (by rw [payR_11, hFr 72 1 rfl, payC_72])))
      have hF1b : zFr (inL (pwLs ++ [(17, some 10), (72, some 1), (73, none)])) m1 (payC m3) := by
        have t1 : zFr (inL pwLs) m1 m2 := by
          rw [hm2]
          exact ((zFr.refl.set rfl).set rfl).set rfl
        exact ((t1.trans (hF3.sub pwWL)).sub (inL_sub (by decide))).trans (payC_fr.sub (inL_sub (by decide)))
      have a1 : Agree remCL m1 (payR m6) := (Agree.of hF1b rfl).trans (.of hFr rfl)
      have t3 : zFr (inL (mkL 75 ++ (lbL ++ [(74, some 11), (81, none)]))) m4 (payR m6) := by
        have t4 : zFr (inL (mkL 75 ++ lbL)) m4 m5 := by
          rw [hm5]
          exact ((zFr.refl.set rfl).set rfl).set rfl
        exact ((t4.trans hF6).sub (inL_sub (by decide))).trans (payR_fr.sub (inL_sub (by decide)))
      rcases hC with ⟨h0, hC⟩ | ⟨h0, hC⟩
      · rcases hM with ⟨_, hM⟩ | ⟨h1, _⟩
        · exact Undo_mark i1 (by omega) (by omega) i6 hC a1 ((Agree.of hFc rfl).trans (hM.trans (.of t3 rfl)))
        · omega
      · rcases hM with ⟨h1, _⟩ | ⟨_, hM⟩
        · omega
        · exact Undo_rem (by omega) (by omega) i6 hRel hok i10 hC a1 ((Agree.of hFc rfl).trans (.of (L := [(74, some 12)]) (zFr.refl.set rfl) rfl)) (.of t3 rfl) hM
    refine zb237_0 (D := D2 + 169) hT hz4 (by omega) (fun x => by omega) (fun _ x => by omega) (fun _ _ x hz5 => ?_) (fun _ _ x hz5 => ?_)
    · refine ref (zu (payC m3) 74 12 0) _ hz5 rfl (zFr.refl.set rfl) (Or.inl ⟨by omega, .of (L := [(74, some 12)]) (zFr.refl.set rfl) rfl⟩)
    · refine z_remR_75 hT hz5 (fun m4 hB4 hF4 hR4 => ?_)
      have e75 : (zu (payC m3) 74 12 0) 75 = m 75 := funext fun j => by rw [zu_dn (by omega), hFc 75 j rfl]
      rw [e75] at hR4
      refine zb237_29 (D := D2 + 169) (n := nn) hT rfl hB4 hnn (fun hz6 => ?_)
      refine ref m4 _ hz6 rfl ?_ (Or.inr ⟨by omega, hR4⟩)
      exact ((zFr.refl (m := payC m3)).set (q := 74) (i := 12) (v := 0) rfl).trans ((hF4.sub remWL).sub (inL_sub (by decide)))
  refine zb174_0 hT i1 hnn ?_
  refine z_mark hT i1 (fun m1 hB1 hF1 h1 => ?_)
  obtain ⟨hFm, hMk⟩ := z_markF i1 hF1
  obtain ⟨g4, g5, goff⟩ := hMk
  have b4 : 0 ≤ m 28 4 ∧ m 28 4 ≤ 12 := i1 28 4
  have b5 : 0 ≤ m 28 5 ∧ m 28 5 ≤ 12 := i1 28 5
  have hf := frsE i1
  obtain ⟨u, hu⟩ : ∃ u : Nat, m 28 5 = (u : Int) := ⟨(m 28 5).toNat, by omega⟩
  rw [hu, Int.toNat_natCast] at hf goff
  rw [hf] at h1
  refine zb174_11 hT rfl hB1 hnn (fun q hz => ?_) (fun q1 q2 hz => ?_) (fun q1 q2 hz => ?_)
  · exact go m1 _ (Or.inl ⟨by omega, g4, g5, by rw [hu, Int.toNat_natCast]; exact goff⟩) hFm hz rfl
  · have h2 := Int.tmod_def (m 28 4 + 1) 13
    have h3 := z_tmodB (m 28 4 + 1) 13 12 (by omega) (by omega) (by omega)
    rw [g4] at hz ⊢
    refine go (zu m1 28 4 (Int.tmod (m 28 4 + 1) 13)) _ (Or.inr ⟨by omega, u, 1, hu, by omega, ?_, ?_, fun x hx hne => ?_, fun j hj => ?_⟩) (hFm.set rfl) hz rfl
    · rw [zu_off (by omega), g5]
      omega
    · rw [zu_sm rfl]
      generalize Int.tdiv (m 28 4 + 1) 13 = q at h2
      omega
    · rw [zu_ne (by omega)]
      exact goff x hx hne
    · rw [zu_dn (by omega)]
      exact h1 j hj
  · rw [g5] at hz ⊢
    refine go (zu m1 28 5 (m 28 5 + 1)) _ (Or.inr ⟨by omega, u, 0, hu, by omega, ?_, ?_, fun x hx hne => ?_, fun j hj => ?_⟩) (hFm.set rfl) hz rfl
    · rw [zu_sm rfl]
      omega
    · rw [zu_off (by omega), g4]
      rfl
    · rw [zu_ne (by omega)]
      exact goff x hx hne
    · rw [zu_dn (by omega)]
      exact h1 j hj
theorem w_week (hT : zRules T) (hB4 : B + 60 ≤ 400000) : Way T 126 236 [(0, zr 1)] [(0, zr 74)] 7 173 B (B + 60) True := by
  rintro D m sc ⟨n, k, hI⟩ κ hκ
  refine zb126_0 hT hI.1 ?_
  refine z_weeksPair (nn := 1) hT hI hB4 (by omega) (fun v m1 hv hz1 h1 => ?_)
  refine zb126_5 hT rfl ?_
  rw [hv]
  refine hκ _ _ (fun D2 κ2 h2 => ?_)
  refine zb236_0 (D := D2 + 171) hT hz1 ?_
  exact h1 D2 _ (fun m2 h => zb236_5 (D := D2 + 171) hT rfl (by rw [hv]; exact h2 _ _ (fun _ => rfl) ⟨n, k, h⟩))
theorem w_weeks (hT : zRules T) (hB4 : B + 60 ≤ 400000) {v : Int} (hv : isI v) : Way T 127 237 [(0, zr 1), (1, zi v)] [(0, zr 74), (1, zi v)] 7 172 B (B + 60) True := by
  rintro D m sc ⟨n, k, hI⟩ κ hκ
  have hI0 := hI
  obtain ⟨i1, i2, i3, i4, i5, i6, i7, i8, i9, i10, i11⟩ := hI
  have hB1 : zB (zu m 74 12 0) := zB_u i1 trivial
  have hA12 : Agree coreK m (zu m 74 12 0) := .of (L := [(74, some 12)]) (zFr.refl.set rfl) rfl
  have no : ¬ (0 ≤ v ∧ v ≤ 60) → κ (some (zi (-1))) m := by
    intro hno
    refine hκ _ _ (fun D2 κ2 h2 => ?_)
    have fin : κ2 (some (zi (-1))) (zu m 74 12 0) := h2 _ _ (fun _ => rfl) ⟨n, k, (Inv_fr hA12 hB1 hI0).up (by omega)⟩
    exact zb237_0 (D := D2 + 169) hT i1 hv (fun _ _ => fin) (fun _ _ _ => fin) (fun q1 q2 => absurd ⟨by omega, by omega⟩ hno) (fun q1 q2 => absurd ⟨by omega, by omega⟩ hno)
  refine zb127_0 hT i1 hv (fun q => no (by omega)) (fun q1 q2 => ?_) (fun q1 q2 => no (by omega))
  obtain ⟨nn, rfl⟩ : ∃ a : Nat, v = (a : Int) := ⟨v.toNat, by omega⟩
  refine z_weeksPair (nn := nn) hT hI0 hB4 (by omega) (fun w m1 hw _ h1 => ?_)
  refine zb127_19 hT rfl ?_
  rw [hw]
  refine hκ _ _ (fun D2 κ2 h2 => ?_)
  exact h1 D2 κ2 (fun m2 h => h2 _ _ (fun _ => rfl) ⟨n, k, h⟩)
end ZWeeks2
