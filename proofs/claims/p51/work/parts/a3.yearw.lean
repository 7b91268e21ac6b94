/-! year(). -/
theorem cmom_ag {m M : zM} (h : Agree KRel m M) (j : Nat) : cmom M j = cmom m j := by
  unfold cmom
  rw [h 19 j rfl, h 20 (j - 6) rfl, h 21 (j - 12) rfl, h 22 (j - 20) rfl, h 23 (j - 28) rfl, h 26 (j - 36) rfl, h 25 2 rfl, h 17 10 rfl, h 17 11 rfl]
theorem MarkC.ag {m m0 M : zM} (hA : Agree remCL m m0) (h : MarkC m0 M) : MarkC m M := by
  obtain ⟨c1, c2, c3⟩ := h
  have e4 : m0 28 4 = m 28 4 := hA 28 4 rfl
  have e5 : m0 28 5 = m 28 5 := hA 28 5 rfl
  rw [e4, e5] at c3
  exact ⟨c1.trans e4, c2.trans e5, fun x h1 h2 => (c3 x h1 h2).trans (funext fun j => hA _ j (remCL_in h1 j))⟩
/-- marked first, counted last -/
theorem RemC.late {m m1 M : zM} (hB : zB m) (hM : MarkC m m1) (hm : ∀ j, j < 59 → m1 (30 + frs m) j = cmom m j) (hA : Agree [(30, none), (31, none), (32, none), (33, none), (34, none), (35, none), (36, none), (37, none), (38, none), (39, none), (40, none), (41, none), (42, none)] m1 M) (hc : (m 28 5 < 12 ∧ M 28 5 = m 28 5 + 1 ∧ M 28 4 = m 28 4) ∨ (¬ m 28 5 < 12 ∧ M 28 5 = m 28 5 ∧ M 28 4 = Int.tmod (m 28 4 + 1) 13)) : RemC m M := by
  have b4 : 0 ≤ m 28 4 ∧ m 28 4 ≤ 12 := hB 28 4
  have b5 : 0 ≤ m 28 5 ∧ m 28 5 ≤ 12 := hB 28 5
  obtain ⟨c1, c2, c3⟩ := hM
  have hf := frsE hB
  obtain ⟨u, hu⟩ : ∃ u : Nat, m 28 5 = (u : Int) := ⟨(m 28 5).toNat, by omega⟩
  have er : ∀ x, x < 13 → M (30 + x) = m1 (30 + x) := fun x hx => funext fun j => hA _ j (by
    match x, hx with
    | 0, _ => rfl
    | 1, _ => rfl
    | 2, _ => rfl
    | 3, _ => rfl
    | 4, _ => rfl
    | 5, _ => rfl
    | 6, _ => rfl
    | 7, _ => rfl
    | 8, _ => rfl
    | 9, _ => rfl
    | 10, _ => rfl
    | 11, _ => rfl
    | 12, _ => rfl)
  rw [hu, Int.toNat_natCast] at hf c3
  have h2 := Int.tmod_def (m 28 4 + 1) 13
  have h3 := z_tmodB (m 28 4 + 1) 13 12 (by omega) (by omega) (by omega)
  generalize Int.tmod (m 28 4 + 1) 13 = t at h2 h3 hc
  generalize Int.tdiv (m 28 4 + 1) 13 = q at h2
  refine ⟨u, if u < 12 then 0 else 1, hu, ?_, ?_, ?_, fun x hx hne => by rw [er x hx]; exact c3 x hx hne, fun j hj => ?_⟩
  · split <;> omega
  · split <;> omega
  · split <;> omega
  · rw [er _ (by omega), ← hf]
    exact hm j hj
section ZYearW
variable {T : Nat → Nat → zG → (Option zA → zM → Prop) → Prop} {B : Int}
noncomputable def ycL : zLs := [(2, some 1), (2, some 2), (2, some 3), (49, none), (50, none), (51, none)] ++ (remCL ++ (ydL ++ [(17, some 10), (72, some 1), (73, none)]))
set_option maxHeartbeats 4000000 in
theorem w_year (hT : zRules T) (hB4 : B + 270 ≤ 400000) : Way T 128 238 [(0, zr 1)] [(0, zr 74)] 7 173 B (B + 270) True := by
  rintro D m sc ⟨n, k, hIB⟩ κ hκ
  have i10' := hIB.2.2.2.2.2.2.2.2.2.1
  have hI0 := hIB.up (show B ≤ B + 270 by omega)
  obtain ⟨i1, i2, i3, i4, i5, i6, i7, i8, i9, i10, i11⟩ := hIB
  have b21 : 0 ≤ m 2 1 ∧ m 2 1 ≤ 80 := i1 2 1
  have b17 : 0 ≤ m 17 0 ∧ m 17 0 ≤ 6 := i1 17 0
  have b171 : 0 ≤ m 17 1 ∧ m 17 1 ≤ 8 := i1 17 1
  have i40 := i4
  obtain ⟨⟨n1, n2⟩, ⟨k1, k2⟩, hh, hRel, hok⟩ := i4
  obtain ⟨L, hL⟩ : ∃ L : Nat, m 2 1 = (L : Int) := ⟨(m 2 1).toNat, by omega⟩
  obtain ⟨L60, hL60⟩ : ∃ L60 : Nat, (L60 = L ∨ L60 = 60) ∧ L60 ≤ L ∧ L60 ≤ 60 := by
    rcases Nat.lt_or_ge L 60 with h | h
    · exact ⟨L, Or.inl rfl, Nat.le_refl L, by omega⟩
    · exact ⟨60, Or.inr rfl, h, Nat.le_refl 60⟩
  have hs : ∀ a, L60 ≤ a → sgT m 60 a = -1 := fun a ha => by
    unfold sgT
    rw [if_neg (by omega)]
  generalize hsd : sgT m 60 = s at hs
  generalize hrun : (fun j d a => yrun (lawR m) (m 24 0) n k (actV s) j d a) = run
  have eRun : ∀ j d a, yrun (lawR m) (m 24 0) n k (actV s) j d a = run j d a := fun j d a => by rw [← hrun]
  -- where the reference begins
  have begR : ∀ M1 N : zM, zFr (inL ycL) m M1 → N = (zu (zu (zu (zu (zu (zu (zu M1 74 12 0) 74 13 80) 74 14 (M1 74 9)) 74 15 60) 74 16 0) 74 17 (-1)) 74 9 0) →
      N 74 13 = 80 ∧ N 74 14 = (L : Int) ∧ N 74 16 = 0 ∧ N 74 17 = -1 ∧ N 74 9 = 0 ∧ s = sgR N 80 ∧ zFr (inL [(74, some 9), (74, some 12), (74, some 13), (74, some 14), (74, some 15), (74, some 16), (74, some 17)]) M1 N := by
    intro M1 N hF1 hN
    have f14 : N 74 14 = m 2 1 := by
      rw [hN]
      simp (disch := omega) only [zu_off, zu_sm]
      rw [hF1 74 9 rfl]
      exact i2.1
    have f15 : N 74 15 = 60 := by rw [hN]; simp (disch := omega) only [zu_off, zu_sm]
    have hFN : zFr (inL [(74, some 9), (74, some 12), (74, some 13), (74, some 14), (74, some 15), (74, some 16), (74, some 17)]) M1 N := by
      rw [hN]
      exact ((((((zFr.refl.set rfl).set rfl).set rfl).set rfl).set rfl).set rfl).set rfl
    refine ⟨by rw [hN]; simp (disch := omega) only [zu_off, zu_sm], f14.trans hL, by rw [hN]; simp (disch := omega) only [zu_off, zu_sm], by rw [hN]; simp (disch := omega) only [zu_off, zu_sm], by rw [hN]; simp (disch := omega) only [zu_sm], ?_, hFN⟩
    rw [← hsd]
    exact (sT_R i2 (fun j => (hFN 80 j rfl).trans (hF1 80 j rfl)) f14 f15).symm
  -- at fault
  have refF : ∀ x M1, 0 < L → yrP s L 30 0 0 = .inl x → zB M1 → zFr (inL [(2, some 1), (2, some 2), (2, some 3), (49, none), (50, none), (51, none)]) m M1 → M1 2 1 = 0 → κ (some (zi (-1 - (x : Int)))) M1 := by
    intro x M1 h0L hx hB1 hF1 h21
    refine hκ _ _ (fun D2 κ2 h2 => ?_)
    have e9 : M1 74 9 = (L : Int) := by rw [hF1 74 9 rfl, i2.1, hL]
    refine zb238_0 (D := D2 + 168) hT hB1 (fun q => by omega) (fun _ hz => ?_)
    generalize hN : (zu (zu (zu (zu (zu (zu (zu M1 74 12 0) 74 13 80) 74 14 (M1 74 9)) 74 15 60) 74 16 0) 74 17 (-1)) 74 9 0) = N at hz ⊢
    obtain ⟨f13, f14, f16, f17, f9, hsR, hFN⟩ := begR M1 N (hF1.sub (inL_sub (by decide))) hN.symm
    refine z_actsR (D := D2 + 168) (L := L) (L60 := L60) hT hz f13 hsR f14 (by omega) hL60.2.2 hL60.2.1 hs f16 f17 (fun y M2 hy hB2 hF2 => ?_) (fun q M2 hq => by rw [hx] at hq; cases hq)
    rw [hx] at hy
    cases hy
    refine h2 _ _ (fun _ => rfl) ⟨n, k, Inv_nt hI0 hB2 ((Agree.of hF1 rfl).trans ((Agree.of hFN rfl).trans (.of hF2 rfl))) ?_ ?_⟩
    · rw [hF2 2 1 rfl, hFN 2 1 rfl, h21]
    · rw [hF2 74 9 rfl, f9]
  -- done
  have refG : ∀ (n0 dn : Nat) (A : zS) (M1 m3 : zM), ((L = 0 ∧ n0 = 0) ∨ (0 < L ∧ yrP s L 30 0 0 = .inr n0)) → run n0 0 (m 75, 0, 0, 0) = (dn, A) → zB M1 → zFr (inL ycL) m M1 → M1 2 1 = 0 → RelA n k m3 A → okRow n k A.1 → A.1 57 ≤ B + 270 → Agree [(17, some 11), (19, none), (20, none), (21, none), (22, none), (23, none), (25, some 2), (26, none)] m3 M1 → M1 17 10 = A.1 58 - wr (A.2.1 * m 24 1 + A.2.2.1 * m 24 2) → M1 72 1 = 2 → ((dn = 0 ∧ MarkC m M1) ∨ (0 < dn ∧ RemC m M1)) → κ (some (zi (dn : Int))) M1 := by
    intro n0 dn A M1 m3 hn0 hrn hB1 hF1 h21 hR3 hokA hA57 hA3 h10 g72 hist
    refine hκ _ _ (fun D2 κ2 h2 => ?_)
    have e9 : M1 74 9 = (L : Int) := by rw [hF1 74 9 rfl, i2.1, hL]
    generalize hcost : wr (A.2.1 * m 24 1 + A.2.2.1 * m 24 2) = cst at h10
    -- from the acts on
    have go : ∀ (N : zM), n0 ≤ 30 → zB N → zFr (inL ([(74, some 9), (74, some 12), (74, some 13), (74, some 14), (74, some 15), (74, some 16), (74, some 17), (89, none)])) M1 N → N 74 9 = 0 → (∀ i, i < n0 → actOR s (N 89) i) → T (D2 + 172) 228 (0, [(0, zr 75), (1, zr 88), (2, zi 0)], [], N) (fun r m1 => T (D2 + 173) 238 (115, [(0, zr 74), (1, zi (n0 : Int)), (2, zi 0)], r.toList ++ [], m1) κ2) := by
      intro N hn30 hBN hFN f9 hacts
      refine z_lay_75_88 (D := D2 + 171) (k := 0) hT (Nat.le_refl 0) ?_
      have hBc : zB (z_cp N 75 88 0 0 59) := zB_cpB hBN rfl
      refine zb238_115 (D := D2 + 168) (lo := [(0, zr 74), (1, zi (n0 : Int)), (2, zi 0)]) hT rfl hBc hn30 (fun hz => ?_)
      have hF0 : zFr (inL [(74, some 9), (74, some 12), (74, some 13), (74, some 14), (74, some 15), (74, some 16), (74, some 17), (74, some 31), (74, some 32), (74, some 33), (88, none), (89, none)]) M1 (zu (zu (zu (z_cp N 75 88 0 0 59) 74 31 0) 74 32 0) 74 33 0) := ((((hFN.sub (inL_sub (by decide))).cp (fun _ => rfl)).set rfl).set rfl).set rfl
      have e88 : ∀ j, j < 59 → (zu (zu (zu (z_cp N 75 88 0 0 59) 74 31 0) 74 32 0) 74 33 0) 88 j = m 75 j := fun j hj => by
        rw [zu_dn (by omega), zu_dn (by omega), zu_dn (by omega), z_cp_in (by omega), Nat.zero_add, Nat.sub_zero, hFN 75 j rfl, hF1 75 j rfl]
      have e89 : (zu (zu (zu (z_cp N 75 88 0 0 59) 74 31 0) 74 32 0) 74 33 0) 89 = N 89 := by
        rw [zu_dnR (by omega), zu_dnR (by omega), zu_dnR (by omega), z_cp_ne (by omega)]
      have hR0 : RelR 75 (zu (zu (zu (z_cp N 75 88 0 0 59) 74 31 0) 74 32 0) 74 33 0) (m 75, 0, 0, 0) := ⟨funext fun j => (hF0 75 j rfl).trans (hF1 75 j rfl), by simp (disch := omega) only [zu_off, zu_sm], by simp (disch := omega) only [zu_off, zu_sm], by simp (disch := omega) only [zu_sm]⟩
      have f90 : (zu (zu (zu (z_cp N 75 88 0 0 59) 74 31 0) 74 32 0) 74 33 0) 74 9 = 0 := by
        rw [zu_off (by omega), zu_off (by omega), zu_off (by omega), z_cp_dn (by omega), f9]
      generalize (zu (zu (zu (z_cp N 75 88 0 0 59) 74 31 0) 74 32 0) 74 33 0) = N0 at hz hF0 e88 e89 hR0 f90 ⊢
      rw [← e89] at hacts
      have hFm : zFr (inL (ycL ++ [(74, some 9), (74, some 12), (74, some 13), (74, some 14), (74, some 15), (74, some 16), (74, some 17), (74, some 31), (74, some 32), (74, some 33), (88, none), (89, none)])) m N0 := (hF1.sub (inL_sub (by decide))).trans (hF0.sub (inL_sub (by decide)))
      have hA0 : Agree KL m N0 := .of hFm rfl
      have e79 : ∀ j, j < 3 → N0 79 j = m 24 j := fun j hj => by
        rw [hFm 79 j rfl]
        exact i5 j hj
      have eL0 : lawR N0 = lawR m := by
        unfold lawR
        rw [hA0.law.2, show N0 78 = m 78 from funext fun j => hFm 78 j rfl]
      -- the end: the bill is paid
      have fin : ∀ (d : Nat) (a : zS) (M : zM), d ≤ 30 → (d, a) = (dn, A) → zB M → zFr (inL ydRL) N0 M → RelR 75 M a → ∀ Mz : zM, zB Mz → ((dn = 0 ∧ zFr (inL [(74, some 11), (81, none)]) (zu M 75 58 ((M 75 58) - wr (((M 79 1) * (M 74 31)) + ((M 79 2) * (M 74 32))))) Mz) ∨ (0 < dn ∧ ∃ m4, Rem (zu M 75 58 ((M 75 58) - wr (((M 79 1) * (M 74 31)) + ((M 79 2) * (M 74 32))))) m4 (M 88) ∧ zFr (inL [(74, some 35), (87, none)]) (zu M 75 58 ((M 75 58) - wr (((M 79 1) * (M 74 31)) + ((M 79 2) * (M 74 32))))) m4 ∧ zFr (inL [(74, some 11), (81, none)]) m4 Mz)) → Mz 74 11 = 2 → κ2 (some (zi (d : Int))) Mz := by
        intro d a M hd30 hda hBM hFM hR Mz hBz hcase q11
        cases hda
        obtain ⟨g1, g2, g3, g4⟩ := hR
        have f79 : ∀ j, j < 3 → M 79 j = m 24 j := fun j hj => by rw [hFM 79 j rfl, e79 j hj]
        have ec : wr (((M 79 1) * (M 74 31)) + ((M 79 2) * (M 74 32))) = cst := by
          rw [f79 1 (by omega), f79 2 (by omega), g2, g3, Int.mul_comm (m 24 1), Int.mul_comm (m 24 2), hcost]
        rw [ec] at hcase
        have hFp : zFr (inL ydRL) N0 (zu M 75 58 (M 75 58 - cst)) := hFM.set rfl
        have p75 : ∀ j, (zu M 75 58 (M 75 58 - cst)) 75 j = if j = 58 then A.1 58 - cst else A.1 j := fun j => by rw [zu_at, g1]
        have e88M : ∀ j, j < 59 → M 88 j = m 75 j := fun j hj => (hFM 88 j rfl).trans (e88 j hj)
        generalize zu M 75 58 (M 75 58 - cst) = Mp at hcase hFp p75
        have hFz : zFr (inL [(74, some 11), (74, some 35), (81, none), (87, none)]) Mp Mz := by
          rcases hcase with ⟨_, h⟩ | ⟨_, m4, _, h, h'⟩
          · exact h.sub (inL_sub (by decide))
          · exact (h.sub (inL_sub (by decide))).trans (h'.sub (inL_sub (by decide)))
        have hF0z : zFr (inL (ydRL ++ [(74, some 11), (74, some 35), (81, none), (87, none)])) N0 Mz := (hFp.sub (inL_sub (by decide))).trans (hFz.sub (inL_sub (by decide)))
        have hF1z : zFr (inL (ydRL ++ [(74, some 9), (74, some 11), (74, some 12), (74, some 35), (81, none), (87, none), (88, none), (89, none)])) M1 Mz := (hF0.sub (inL_sub (by decide))).trans (hF0z.sub (inL_sub (by decide)))
        have hFall : zFr (inL (ycL ++ (ydRL ++ [(74, some 9), (74, some 11), (74, some 12), (74, some 35), (81, none), (87, none), (88, none), (89, none)]))) m Mz := (hF1.sub (inL_sub (by decide))).trans (hF1z.sub (inL_sub (by decide)))
        have z75 : ∀ j, Mz 75 j = if j = 58 then A.1 58 - cst else A.1 j := fun j => (hFz 75 j rfl).trans (p75 j)
        have h4 : HouseRel n k Mz := House_pay (g := A.1) (m3 := m3) (by omega) (by omega) i40 (.of hFall rfl) hR3.1 (hA3.trans (.of hF1z rfl)) ((hF1z 17 10 rfl).trans h10) z75 hokA
        have hU : UndoRel B n k Mz := by
          rcases hcase with ⟨d0, h⟩ | ⟨d1, m4, hM4, hF4, h'⟩
          · rcases hist with ⟨_, hC⟩ | ⟨x, _⟩
            · refine Undo_mark i1 (by omega) (by omega) i6 hC (.of hF1z rfl) ?_
              exact (Agree.of hF1 rfl).trans ((Agree.of hF0 rfl).trans ((Agree.of hFp rfl).trans (.of h rfl)))
            · omega
          · rcases hist with ⟨x, _⟩ | ⟨_, hC⟩
            · omega
            · refine Undo_rem (by omega) (by omega) i6 hRel hok i10' hC (.of hF1z rfl) ((Agree.of hF1 rfl).trans ((Agree.of hF0 rfl).trans (.of hFp rfl))) (.of h' rfl) ?_
              obtain ⟨u, s', q1, q2, q3, q4, q5⟩ := hM4
              exact ⟨u, s', q1, q2, q3, q4, fun j hj => (q5 j hj).trans (e88M j hj)⟩
        have hU2 : UndoRel (B + 270) n k Mz := ⟨hU.1, fun i hi => by
          obtain ⟨u1, u2, u3⟩ := hU.2 i hi
          exact ⟨u1, u2, by omega⟩⟩
        refine h2 _ _ (fun _ => rfl) ⟨n, k, hBz, ⟨?_, fun j hj => ?_⟩, (Agree.of hFall rfl).law.1 hI0.2.2.1, h4, Term_fr (.of hFall rfl) i5, hU2, Kept_fr (.of hFall rfl) hI0.2.2.2.2.2.2.1, Seen_fr (.of hFall rfl) i8, Job_fr (.of hFall rfl) i9, ?_, (funext fun j => hFall 0 j rfl).trans i11.1, (hFall 110 0 rfl).trans i11.2.1, fun c hc => (hFall 103 c rfl).trans (i11.2.2.1 c hc), RowP.len (by rw [q11, hF1z 72 1 rfl, g72])⟩
        · rw [hF0z 74 9 rfl, hF1z 2 1 rfl, f90, h21]
        · rw [hF1z 2 1 rfl, h21] at hj
          omega
        · rw [z75, if_neg (by omega)]
          exact hA57
      -- the end of the loop
      have stop : ∀ (d : Nat) (a : zS) (M : zM), d ≤ n0 → (d, a) = (dn, A) → zB M → zFr (inL ydRL) N0 M → RelR 75 M a → ∀ Q : zM → Prop, (∀ Mz, zB Mz → (dn = 0 ∧ zFr (inL [(74, some 11), (81, none)]) (zu M 75 58 ((M 75 58) - wr (((M 79 1) * (M 74 31)) + ((M 79 2) * (M 74 32))))) Mz) → Mz 74 11 = 2 → κ2 (some (zi (d : Int))) Mz) ∧ (0 < d → zB (zu M 75 58 ((M 75 58) - wr (((M 79 1) * (M 74 31)) + ((M 79 2) * (M 74 32))))) → T (D2 + 172) 229 (0, [(0, zr 74), (1, zr 88)], [], (zu M 75 58 ((M 75 58) - wr (((M 79 1) * (M 74 31)) + ((M 79 2) * (M 74 32)))))) (fun r m1 => T (D2 + 173) 238 (168, [(0, zr 74), (1, zi (n0 : Int)), (3, zi (d : Int))], r.toList ++ [], m1) κ2)) := by
        intro d a M hd hda hBM hFM hR Q
        have hdn : d = dn := congrArg Prod.fst hda
        refine ⟨fun Mz hBz hc q11 => fin d a M (by omega) hda hBM hFM hR Mz hBz (Or.inl hc) q11, fun h0d hz3 => ?_⟩
        refine z_remR_88 (D := D2 + 170) hT hz3 (fun m4 hB4' hF4 hM4 => ?_)
        have hF4b := hF4.sub remWL
        rw [zu_dnR (by omega)] at hM4
        have fz := fin d a M (by omega) hda hBM hFM hR
        exact zb238_168 (D := D2 + 168) (lo := [(0, zr 74), (1, zi (n0 : Int)), (3, zi (d : Int))]) hT rfl hB4' hn30 (by omega) (fun _ hz5 => fz _ hz5 (Or.inr ⟨by omega, m4, hM4, hF4b, ((((zFr.refl.set rfl).set rfl).set rfl).set rfl).set rfl⟩) (by simp (disch := decide) only [zu_sm, zu_off, zu_dn] <;> rfl)) (fun _ hz5 => fz _ hz5 (Or.inr ⟨by omega, m4, hM4, hF4b, ((((zFr.refl.set rfl).set rfl).set rfl).set rfl).set rfl⟩) (by simp (disch := decide) only [zu_sm, zu_off, zu_dn] <;> rfl))
      have loop : ∀ (j d : Nat) (a : zS) (M : zM), d + j = n0 → run j d a = (dn, A) → zB M → zFr (inL ydRL) N0 M → RelR 75 M a → okRow n k a.1 → a.1 57 ≤ m 75 57 + 9 * d → T (D2 + 173) 238 (121, [(0, zr 74), (1, zi (n0 : Int)), (3, zi (d : Int))], [], M) κ2 := by
        intro j
        induction j with
        | zero =>
          intro d a M hd hrd hBM hFM hR ho h57
          rw [← eRun, yrun] at hrd
          have hdn : d = dn := congrArg Prod.fst hrd
          obtain ⟨s1, s2⟩ := stop d a M (by omega) hrd hBM hFM hR (fun _ => True)
          exact zb238_121 (D := D2 + 168) hT rfl hBM hn30 (by omega) (fun _ q hz3 => s1 _ hz3 ⟨by omega, ((((zFr.refl.set rfl).set rfl).set rfl).set rfl).set rfl⟩ (by simp (disch := decide) only [zu_sm, zu_off, zu_dn] <;> rfl)) (fun _ q hz3 => s2 (by omega) hz3) (fun q => by omega)
        | succ j ih =>
          intro d a M hd hrd hBM hFM hR ho h57
          obtain ⟨f, v, b, a1, a2, a3, a4⟩ := hacts d (by omega)
          obtain ⟨av, ao⟩ := actV_ok hs a1
          have e89M : ∀ j, M 89 j = N0 89 j := fun j => hFM 89 j rfl
          have hA : Agree KL N0 M := .of hFM rfl
          have eL : lawR M = lawR m := by
            rw [← eL0]
            unfold lawR
            rw [hA.law.2, show M 78 = N0 78 from funext fun j => hFM 78 j rfl]
          have e790 : M 79 0 = m 24 0 := (hFM 79 0 rfl).trans (e79 0 (by omega))
          rw [← eRun, yrun, av] at hrd
          dsimp only at hrd
          refine zb238_121 (D := D2 + 168) hT rfl hBM hn30 (by omega) (fun q => by omega) (fun q => by omega) (fun _ => ?_)
          rw [show (3 : Int) * (d : Int) = ((3 * d : Nat) : Int) by omega]
          refine z_actDo (D := D2) (n := n) (k := k) (a := a) (kd := s (stY s d)) (f := f) (g := v) hT hBM ((hFM 74 4 rfl).trans ((hFm 74 4 rfl).trans n2)) ((hFM 74 6 rfl).trans ((hFm 74 6 rfl).trans k2)) (hA.law.1 (hA0.law.1 i3)) hR ho (by omega) ao (by omega) (by rw [e89M]; exact a2) (by rw [e89M]; exact a3) (fun q => by rw [e89M]; exact a4 q) (fun e => ?_) (fun c M2 e hB2 hF2 hR2 ho2 h572 => ?_)
          · rw [eL, e790] at e
            rw [e] at hrd
            have hdn : d = dn := congrArg Prod.fst hrd
            obtain ⟨s1, s2⟩ := stop d a M (by omega) hrd hBM hFM hR (fun _ => True)
            exact zb238_133 (D := D2 + 168) hT rfl hBM hn30 (by omega) (by omega) (fun _ q _ hz3 => s1 _ hz3 ⟨by omega, ((((zFr.refl.set rfl).set rfl).set rfl).set rfl).set rfl⟩ (by simp (disch := decide) only [zu_sm, zu_off, zu_dn] <;> rfl)) (fun _ q _ hz3 => s1 _ hz3 ⟨by omega, ((((zFr.refl.set rfl).set rfl).set rfl).set rfl).set rfl⟩ (by simp (disch := decide) only [zu_sm, zu_off, zu_dn] <;> rfl)) (fun _ q hz3 => s2 (by omega) hz3) (fun q => absurd rfl q)
          · rw [eL, e790] at e
            rw [e] at hrd
            dsimp only at hrd
            rw [eRun] at hrd
            refine zb238_133 (D := D2 + 168) hT rfl hB2 hn30 (by omega) (by omega) (fun q => by omega) (fun q => by omega) (fun q => by omega) (fun _ => ?_)
            exact ih (d + 1) c M2 (by omega) hrd hB2 (hFM.trans hF2) hR2 ho2 (by omega)
      exact loop n0 0 (m 75, 0, 0, 0) N0 (by omega) hrn hz zFr.refl hR0 hok (by dsimp only; omega)
    rcases hn0 with ⟨l0, rfl⟩ | ⟨l1, hyr⟩
    · refine zb238_0 (D := D2 + 168) hT hB1 (fun _ hz => ?_) (fun q => by omega)
      generalize hN : (zu (zu (zu (zu (zu (zu (zu M1 74 12 0) 74 13 80) 74 14 (M1 74 9)) 74 15 60) 74 16 0) 74 17 (-1)) 74 9 0) = N at hz ⊢
      obtain ⟨f13, f14, f16, f17, f9, hsR, hFN⟩ := begR M1 N hF1 hN.symm
      refine zb238_39a (D := D2 + 168) (n := 0) hT rfl hz f13 (by omega) (by omega) (by omega) (fun _ => ?_) (fun q => by omega)
      exact go N (by omega) hz (hFN.sub (inL_sub (by decide))) f9 (fun i hi => by omega)
    · refine zb238_0 (D := D2 + 168) hT hB1 (fun q => by omega) (fun _ hz => ?_)
      generalize hN : (zu (zu (zu (zu (zu (zu (zu M1 74 12 0) 74 13 80) 74 14 (M1 74 9)) 74 15 60) 74 16 0) 74 17 (-1)) 74 9 0) = N at hz ⊢
      obtain ⟨f13, f14, f16, f17, f9, hsR, hFN⟩ := begR M1 N hF1 hN.symm
      refine z_actsR (D := D2 + 168) (L := L) (L60 := L60) hT hz f13 hsR f14 (by omega) hL60.2.2 hL60.2.1 hs f16 f17 (fun y M2 hy => by rw [hyr] at hy; cases hy) (fun q M2 hq q1 q30 hB2 hF2 hacts => ?_)
      rw [hyr] at hq
      cases hq
      exact go M2 q30 hB2 ((hFN.sub (inL_sub (by decide))).trans (hF2.sub (inL_sub (by decide)))) ((hF2 74 9 rfl).trans f9) hacts
  -- the class: from the mark on
  have cls : ∀ (n0 : Nat) (Mx : zM), n0 ≤ 30 → ((L = 0 ∧ n0 = 0) ∨ (0 < L ∧ yrP s L 30 0 0 = .inr n0)) → zB Mx → zFr (inL [(2, some 1), (2, some 2), (2, some 3), (49, none), (50, none), (51, none)]) m Mx → Mx 2 1 = 0 → (∀ i, i < n0 → actOK s (Mx 49) (Mx 50) (Mx 51) i) → ∀ lo : zL, z_keep [0, 1] lo = [(0, zr 1), (1, zi (n0 : Int))] → T (D + 6) 16 (0, [(0, zr 28), (1, zr 17)], [], Mx) (fun r m1 => T (D + 7) 128 (56, lo, r.toList ++ [], m1) κ) := by
    intro n0 Mx hn30 hn0 hBx hFx h21 hacts lo hlo
    refine z_mark (D := D + 4) hT hBx (fun m1 hB1 hFr1 hmom => ?_)
    obtain ⟨hF1, hMk⟩ := z_markF hBx hFr1
    have hMk0 : MarkC m m1 := hMk.ag (.of hFx rfl)
    have efr : frs Mx = frs m := by
      unfold frs
      rw [hFx 28 4 rfl, hFx 28 5 rfl]
    have hmom0 : ∀ j, j < 59 → m1 (30 + frs m) j = cmom m j := fun j hj => by
      rw [← efr, hmom j hj]
      exact cmom_ag (.of hFx rfl) j
    refine zb128_56 hT hlo hB1 hn30 (fun hz => ?_)
    have hF0 : zFr (inL ([(2, some 1), (2, some 2), (2, some 3), (49, none), (50, none), (51, none)] ++ (remCL ++ [(17, some 12), (17, some 13), (17, some 14)]))) m (zu (zu (zu m1 17 12 0) 17 13 0) 17 14 0) := ((((hFx.sub (inL_sub (by decide))).trans (hF1.sub (inL_sub (by decide)))).set rfl).set rfl).set rfl
    have hF10 : zFr (inL [(17, some 12), (17, some 13), (17, some 14)]) m1 (zu (zu (zu m1 17 12 0) 17 13 0) 17 14 0) := ((zFr.refl.set rfl).set rfl).set rfl
    have hR0 : RelA n k (zu (zu (zu m1 17 12 0) 17 13 0) 17 14 0) (m 75, 0, 0, 0) := ⟨hRel.fr (.of hF0 rfl), by simp (disch := omega) only [zu_off, zu_sm], by simp (disch := omega) only [zu_off, zu_sm], by simp (disch := omega) only [zu_sm]⟩
    have g21 : (zu (zu (zu m1 17 12 0) 17 13 0) 17 14 0) 2 1 = 0 := by
      rw [zu_dn (by omega), zu_dn (by omega), zu_dn (by omega), hF1 2 1 rfl, h21]
    have eact : ∀ c j, (c = 49 ∨ c = 50 ∨ c = 51) → (zu (zu (zu m1 17 12 0) 17 13 0) 17 14 0) c j = Mx c j := fun c j hc => by
      rw [zu_dn (by omega), zu_dn (by omega), zu_dn (by omega)]
      rcases hc with rfl | rfl | rfl
      · exact hF1 49 j rfl
      · exact hF1 50 j rfl
      · exact hF1 51 j rfl
    generalize (zu (zu (zu m1 17 12 0) 17 13 0) 17 14 0) = M0 at hz hF0 hF10 hR0 g21 eact ⊢
    have hA0 : Agree KL m M0 := .of hF0 rfl
    have eL0 : lawM M0 = lawM m := by
      unfold lawM
      rw [hA0.law.2, show M0 18 = m 18 from funext fun j => hF0 18 j rfl]
    have eLL : ∀ i, i < n → lawM m i = lawR m i := fun i hi => by
      unfold lawM lawR
      rw [(hh i hi).1]
    -- the end
    have fin : ∀ (d : Nat) (a : zS) (M Mc : zM) (x : Int), d ≤ n0 → run n0 0 (m 75, 0, 0, 0) = (d, a) → okRow n k a.1 → a.1 57 ≤ m 75 57 + 9 * d → zB M → zFr (inL ydL) M0 M → RelA n k M a → zFr (inL [(28, some 4), (28, some 5)]) M Mc → ((d = 0 ∧ Mc 28 4 = M 28 4 ∧ Mc 28 5 = M 28 5) ∨ (0 < d ∧ ((M 28 5 < 12 ∧ Mc 28 5 = M 28 5 + 1 ∧ Mc 28 4 = M 28 4) ∨ (¬ M 28 5 < 12 ∧ Mc 28 5 = M 28 5 ∧ Mc 28 4 = Int.tmod (M 28 4 + 1) 13)))) → zB (zu (zu (zu (zu Mc 17 10 ((M 17 10) - wr (((M 17 12) * (M 24 1)) + ((M 17 13) * (M 24 2))))) 72 1 2) 73 0 x) 73 1 (wr (((M 17 12) * (M 24 1)) + ((M 17 13) * (M 24 2))))) → κ (some (zi (d : Int))) (zu (zu (zu (zu Mc 17 10 ((M 17 10) - wr (((M 17 12) * (M 24 1)) + ((M 17 13) * (M 24 2))))) 72 1 2) 73 0 x) 73 1 (wr (((M 17 12) * (M 24 1)) + ((M 17 13) * (M 24 2))))) := by
      intro d a M Mc x hd hrd ho h57 hBM hFM hR hFc hcase hzz
      obtain ⟨hR1, d1, d2, d3⟩ := hR
      have ec : wr (((M 17 12) * (M 24 1)) + ((M 17 13) * (M 24 2))) = wr (a.2.1 * m 24 1 + a.2.2.1 * m 24 2) := by
        rw [d1, d2, hFM 24 1 rfl, hFM 24 2 rfl, hF0 24 1 rfl, hF0 24 2 rfl]
      rw [ec] at hzz ⊢
      generalize hcst : wr (a.2.1 * m 24 1 + a.2.2.1 * m 24 2) = cst at hzz ⊢
      have hFe : zFr (inL [(28, some 4), (28, some 5), (17, some 10), (72, some 1), (73, none)]) M (zu (zu (zu (zu Mc 17 10 ((M 17 10) - cst)) 72 1 2) 73 0 x) 73 1 cst) := ((((hFc.sub (inL_sub (by decide))).set rfl).set rfl).set rfl).set rfl
      have e10 : (zu (zu (zu (zu Mc 17 10 ((M 17 10) - cst)) 72 1 2) 73 0 x) 73 1 cst) 17 10 = a.1 58 - cst := by
        rw [zu_dn (by omega), zu_dn (by omega), zu_dn (by omega), zu_sm rfl, hR1.2.2.2.2.2]
      have e28 : ∀ j, (zu (zu (zu (zu Mc 17 10 ((M 17 10) - cst)) 72 1 2) 73 0 x) 73 1 cst) 28 j = Mc 28 j := fun j => by
        rw [zu_dn (by omega), zu_dn (by omega), zu_dn (by omega), zu_dn (by omega)]
      have x72 : (zu (zu (zu (zu Mc 17 10 ((M 17 10) - cst)) 72 1 2) 73 0 x) 73 1 cst) 72 1 = 2 := by simp (disch := decide) only [zu_sm, zu_off, zu_dn] <;> rfl
      generalize (zu (zu (zu (zu Mc 17 10 ((M 17 10) - cst)) 72 1 2) 73 0 x) 73 1 cst) = Me at hzz hFe e10 e28 x72 ⊢
      have c284 : M 28 4 = m 28 4 := by rw [hFM 28 4 rfl, hF10 28 4 rfl]; exact hMk0.1
      have c285 : M 28 5 = m 28 5 := by rw [hFM 28 5 rfl, hF10 28 5 rfl]; exact hMk0.2.1
      have hmo : Agree [(30, none), (31, none), (32, none), (33, none), (34, none), (35, none), (36, none), (37, none), (38, none), (39, none), (40, none), (41, none), (42, none)] m1 Me := (Agree.of hF10 rfl).trans ((Agree.of hFM rfl).trans (.of hFe rfl))
      refine refG n0 d a Me M hn0 hrd hzz ?_ ?_ ⟨hR1, d1, d2, d3⟩ ho (by omega) (.of hFe rfl) (by rw [hcst]; exact e10) x72 ?_
      · exact ((hF0.sub (inL_sub (by decide))).trans (hFM.sub (inL_sub (by decide)))).trans (hFe.sub (inL_sub (by decide)))
      · rw [hFe 2 1 rfl, hFM 2 1 rfl, g21]
      · rw [c284, c285, ← e28, ← e28] at hcase
        rcases hcase with ⟨h1, h2, h3⟩ | ⟨h1, h2⟩
        · refine Or.inl ⟨h1, h2, h3, fun y y1 y2 => ?_⟩
          rw [← hMk0.2.2 y y1 y2]
          exact funext fun j => hmo _ j (by
            match y, y1 with
            | 0, _ => rfl
            | 1, _ => rfl
            | 2, _ => rfl
            | 3, _ => rfl
            | 4, _ => rfl
            | 5, _ => rfl
            | 6, _ => rfl
            | 7, _ => rfl
            | 8, _ => rfl
            | 9, _ => rfl
            | 10, _ => rfl
            | 11, _ => rfl
            | 12, _ => rfl)
        · exact Or.inr ⟨h1, RemC.late i1 hMk0 hmom0 hmo h2⟩
    have loop : ∀ (j d : Nat) (a : zS) (M : zM), d + j = n0 → run j d a = run n0 0 (m 75, 0, 0, 0) → zB M → zFr (inL ydL) M0 M → RelA n k M a → okRow n k a.1 → a.1 57 ≤ m 75 57 + 9 * d → T (D + 7) 128 (65, [(0, zr 1), (1, zi (n0 : Int)), (2, zi (d : Int))], [], M) κ := by
      intro j
      induction j with
      | zero =>
        intro d a M hd hrd hBM hFM hR ho h57
        rw [← eRun, yrun] at hrd
        have fz := fun Mc x => fin d a M Mc x (by omega) hrd.symm ho h57 hBM hFM hR
        refine zb128_65 hT rfl hBM hn30 (by omega) (fun _ q hzz => ?_) (fun _ q q2 hzz => ?_) (fun _ q q2 hzz => ?_) (fun q => by omega)
        · exact fz M 0 zFr.refl (Or.inl ⟨by omega, rfl, rfl⟩) hzz
        · exact fz _ 0 (zFr.refl.set rfl) (Or.inr ⟨by omega, Or.inr ⟨q2, by rw [zu_off (by omega)], by rw [zu_sm rfl]⟩⟩) hzz
        · exact fz _ 0 (zFr.refl.set rfl) (Or.inr ⟨by omega, Or.inl ⟨q2, by rw [zu_sm rfl], by rw [zu_off (by omega)]⟩⟩) hzz
      | succ j ih =>
        intro d a M hd hrd hBM hFM hR ho h57
        refine zb128_65 hT rfl hBM hn30 (by omega) (fun q => by omega) (fun q => by omega) (fun q => by omega) (fun _ => ?_)
        obtain ⟨v, b, a1, a2, a3⟩ := hacts d (by omega)
        have e49 : M 49 d = Mx 49 d := (hFM 49 d rfl).trans (eact 49 d (by omega))
        have e50 : M 50 d = Mx 50 d := (hFM 50 d rfl).trans (eact 50 d (by omega))
        have e51 : M 51 d = Mx 51 d := (hFM 51 d rfl).trans (eact 51 d (by omega))
        obtain ⟨av, ao⟩ := actV_ok hs a1
        have hA : Agree KL M0 M := .of hFM rfl
        have eL : lawM M = lawM m := by
          rw [← eL0]
          unfold lawM
          rw [hA.law.2, show M 18 = M0 18 from funext fun j => hFM 18 j rfl]
        have e240 : M 24 0 = m 24 0 := (hFM 24 0 rfl).trans (hF0 24 0 rfl)
        have hdo : doA (lawM M) (M 24 0) n k a (Mx 49 d) (Mx 50 d) (Mx 51 d) = doA (lawR m) (m 24 0) n k a (s (stY s d)) (Mx 50 d) v := by
          rw [eL, e240, doA_congr eLL, a2]
          by_cases q : s (stY s d) = 107
          · unfold doA
            rw [if_pos q, if_pos q]
          · rw [a3 (by rw [a2]; exact q)]
        have ao2 : okA (Mx 49 d) (Mx 50 d) (Mx 51 d) := by
          rw [a2]
          obtain ⟨o1, o2, o3, o4, o5⟩ := ao
          exact ⟨o1, o2, fun q => by rw [a3 (by omega)]; exact o3 q, fun q => by rw [a3 (by omega)]; exact o4 q, fun q => by rw [a3 (by omega)]; exact o5 q⟩
        rw [← eRun, yrun, av] at hrd
        dsimp only at hrd
        rw [e49, e50, e51]
        refine z_doAct (D := D) (n := n) (k := k) (a := a) hT hBM ((hFM 17 0 rfl).trans ((hF0 17 0 rfl).trans n1)) ((hFM 17 1 rfl).trans ((hF0 17 1 rfl).trans k1)) (fun p hp => by rw [hFM 18 p rfl, hF0 18 p rfl]; have := (hh p hp).2; omega) (hA.law.1 (hA0.law.1 i3)).1 hR ho (by omega) ao2 (fun e => ?_) (fun c M2 e hB2 hF2 hR2 ho2 h572 => ?_)
        · rw [hdo] at e
          rw [e] at hrd
          have fz := fun Mc x => fin d a M Mc x (by omega) hrd.symm ho h57 hBM hFM hR
          refine zb128_101 (lo := [(0, zr 1), (1, zi (n0 : Int)), (2, zi (d : Int))]) hT rfl hBM hn30 (by omega) (by omega) (fun _ q _ hzz => ?_) (fun _ q _ hzz => ?_) (fun _ q q2 _ hzz => ?_) (fun _ q q2 _ hzz => ?_) (fun _ q q2 _ hzz => ?_) (fun _ q q2 _ hzz => ?_) (fun q => absurd rfl q)
          · exact fz M 0 zFr.refl (Or.inl ⟨by omega, rfl, rfl⟩) hzz
          · exact fz M 1 zFr.refl (Or.inl ⟨by omega, rfl, rfl⟩) hzz
          · exact fz _ 0 (zFr.refl.set rfl) (Or.inr ⟨by omega, Or.inr ⟨q2, by rw [zu_off (by omega)], by rw [zu_sm rfl]⟩⟩) hzz
          · exact fz _ 1 (zFr.refl.set rfl) (Or.inr ⟨by omega, Or.inr ⟨q2, by rw [zu_off (by omega)], by rw [zu_sm rfl]⟩⟩) hzz
          · exact fz _ 0 (zFr.refl.set rfl) (Or.inr ⟨by omega, Or.inl ⟨q2, by rw [zu_sm rfl], by rw [zu_off (by omega)]⟩⟩) hzz
          · exact fz _ 1 (zFr.refl.set rfl) (Or.inr ⟨by omega, Or.inl ⟨q2, by rw [zu_sm rfl], by rw [zu_off (by omega)]⟩⟩) hzz
        · rw [hdo] at e
          rw [e] at hrd
          dsimp only at hrd
          rw [eRun] at hrd
          refine zb128_101 (lo := [(0, zr 1), (1, zi (n0 : Int)), (2, zi (d : Int))]) hT rfl hB2 hn30 (by omega) (by omega) (fun q => by omega) (fun q => by omega) (fun q => by omega) (fun q => by omega) (fun q => by omega) (fun q => by omega) (fun _ => ?_)
          exact ih (d + 1) c M2 (by omega) hrd hB2 (hFM.trans hF2) hR2 ho2 (by omega)
    exact loop n0 0 (m 75, 0, 0, 0) M0 (by omega) rfl hz zFr.refl hR0 hok (by dsimp only; omega)
  -- THE TEXT is read
  have rd : ∀ Mb : zM, 0 < L → zB Mb → zFr (inL [(2, some 2), (2, some 3)]) m Mb → Mb 2 3 = 0 → s = sgC Mb → T (D + 6) 107 (0, [(0, zr 48), (1, zr 2)], [], Mb) (fun r m1 => T (D + 7) 128 (35, [(0, zr 1)], r.toList ++ [zr 1], m1) κ) := by
    intro Mb h0L hBb hFb h23 hsC
    refine z_actsC (D := D) (L := L) (L60 := L60) hT hBb hsC ((hFb 2 1 rfl).trans hL) hL60.2.2 hs h23 (fun x M1 hx hB1 hF1 g => ?_) (fun n0 M1 hn h1n h30 hB1 hF1 hacts => ?_)
    · refine zb128_35 (lo := [(0, zr 1)]) hT rfl hB1 (by omega) (fun q => absurd (by omega) q) (fun _ q => absurd (by rw [g]; omega) q) (fun _ _ hz => ?_)
      rw [g]
      exact refF x _ h0L hx hz (((hFb.sub (inL_sub (by decide))).trans (hF1.sub (inL_sub (by decide)))).set rfl) (by rw [zu_sm rfl])
    · refine zb128_35 (lo := [(0, zr 1)]) hT rfl hB1 (by omega) (fun _ hz => ?_) (fun q => by omega) (fun q => by omega)
      refine cls n0 _ h30 (Or.inr ⟨h0L, hn⟩) hz (((hFb.sub (inL_sub (by decide))).trans (hF1.sub (inL_sub (by decide)))).set rfl) (by rw [zu_sm rfl]) (fun i hi => ?_) _ rfl
      rw [zu_dnR (by omega), zu_dnR (by omega), zu_dnR (by omega)]
      exact hacts i hi
  refine zb128_0 hT i1 (fun q hz => ?_) (fun q q2 hz => ?_) (fun q q2 hz => ?_)
  · refine rd _ (by omega) hz ((zFr.refl.set rfl).set rfl) (by rw [zu_off (by omega), zu_sm rfl]) ?_
    rw [← hsd]
    refine (sT_C (m := m) (N := zu (zu m 2 3 0) 2 2 60) (mx := 60) (fun _ => rfl) ?_).symm
    rw [zu_sm rfl, if_neg (by omega)]
  · refine rd _ (by omega) hz ((zFr.refl.set rfl).set rfl) (by rw [zu_off (by omega), zu_sm rfl]) ?_
    rw [← hsd]
    refine (sT_C (m := m) (N := zu (zu m 2 3 0) 2 2 (m 2 1)) (mx := 60) (fun _ => rfl) ?_).symm
    rw [zu_sm rfl]
    by_cases e : m 2 1 < 60
    · rw [if_pos e]
    · rw [if_neg e]
      omega
  · exact cls 0 _ (by omega) (Or.inl ⟨by omega, rfl⟩) hz (((zFr.refl.set rfl).set rfl).set rfl) (by rw [zu_sm rfl]) (fun i hi => by omega) _ rfl
end ZYearW
