/-! way(): it ends, and leaves what matters; THE TEXT is empty then. -/
noncomputable def noT : zLs := KL ++ (KH ++ (KM ++ (KU ++ (KK ++ (KS ++ (KJ ++ KX))))))
theorem Inv_nt {B : Int} {sc : zSc} {n k : Nat} {m M : zM} (hI : Inv B sc n k m) (hz : zB M) (h : Agree noT m M) (e1 : M 2 1 = 0) (e2 : M 74 9 = 0) : Inv B sc n k M := by
  have h0 : Agree coreK m (fun c j => if inL KT c j = true then m c j else M c j) := fun c j q => by
    show (if inL KT c j = true then m c j else M c j) = m c j
    by_cases e : inL KT c j = true
    · rw [if_pos e]
    · rw [if_neg e]
      refine h c j ?_
      obtain ⟨x, hx, hx2⟩ := List.any_eq_true.mp q
      rcases List.mem_append.mp hx with y | y
      · exact absurd (List.any_eq_true.mpr ⟨x, y, hx2⟩) e
      · exact List.any_eq_true.mpr ⟨x, y, hx2⟩
  obtain ⟨i1, i2, i3, i4, i5, i6, i7, i8, i9, i10, i11⟩ := hI
  have m1' : ∀ {L1 L2 : zLs} {q : Nat × Option Nat}, q ∈ L1 → q ∈ L1 ++ L2 := fun q => List.mem_append.mpr (Or.inl q)
  have m2' : ∀ {L1 L2 : zLs} {q : Nat × Option Nat}, q ∈ L2 → q ∈ L1 ++ L2 := fun q => List.mem_append.mpr (Or.inr q)
  refine ⟨hz, ⟨by rw [e1, e2], fun j hj => by rw [e1] at hj; omega⟩, (h.sub (K2 := KL) (fun q hq => m1' hq)).law.1 i3, House_fr (h.sub (fun q hq => m2' (m1' hq))) i4, Term_fr (h.sub (fun q hq => m2' (m2' (m1' hq)))) i5, Undo_fr (h.sub (fun q hq => m2' (m2' (m2' (m1' hq))))) i6, Kept_fr (h.sub (fun q hq => m2' (m2' (m2' (m2' (m1' hq)))))) i7, Seen_fr (h.sub (fun q hq => m2' (m2' (m2' (m2' (m2' (m1' hq))))))) i8, Job_fr (h.sub (fun q hq => m2' (m2' (m2' (m2' (m2' (m2' (m1' hq)))))))) i9, ?_, ?_⟩
  · rw [h 75 57 rfl]
    exact i10
  · exact Scr_fr (h.sub (fun q hq => m2' (m2' (m2' (m2' (m2' (m2' (m2' hq)))))))) i11
section ZWay
variable {T : Nat → Nat → zG → (Option zA → zM → Prop) → Prop} {B : Int}
theorem z_readWayR0 (hT : zRules T) {D : Nat} {κ : Option zA → zM → Prop} {m : zM} {n : Nat} {v : Int} (hB : zB m) (hR : LawRel m) (hn : m 74 4 = (n : Int)) (hn6 : n ≤ 6) (hv : isI v)
    (hk : ∀ r M, isI r → zB M → zFr (inL ([(74, some 9), (74, some 49), (97, none)] ++ lbL)) m M → M 74 9 = 0 → κ (some (zi r)) M) : T (D + 171) 267 (0, [(0, zr 74), (1, zi v)], [], m) κ := by
  have b9 : 0 ≤ m 74 9 ∧ m 74 9 ≤ 80 := hB 74 9
  have t9 : zFr (inL ([(74, some 9), (74, some 49), (97, none)] ++ lbL)) m (zu m 74 9 0) := zFr.refl.set rfl
  have x9 : (zu m 74 9 0) 74 9 = 0 := by rw [zu_sm rfl]
  refine zb267_0 (D := D + 166) hT hB hv (fun _ hz => hk _ _ (by unfold isI; omega) hz t9 x9) (fun _ _ hz => hk _ _ (by unfold isI; omega) hz t9 x9) (fun q1 q2 hz => ?_)
  obtain ⟨p, rfl⟩ : ∃ p : Nat, v = (p : Int) := ⟨v.toNat, by omega⟩
  obtain ⟨L, hL⟩ : ∃ L : Nat, m 74 9 = (L : Int) := ⟨(m 74 9).toNat, by omega⟩
  rw [hL]
  generalize zu m 74 9 0 = M at hz t9 x9 ⊢
  have second : ∀ (j i : Nat) (M2 : zM), i + j = L → L ≤ 26 → (∀ q, q < L → 48 ≤ M2 80 q ∧ M2 80 q ≤ 51) → zB M2 → zFr (inL ([(74, some 9), (74, some 49), (97, none)] ++ lbL)) m M2 → M2 74 9 = 0 → T (D + 171) 267 (68, [(0, zr 74), (1, zi (p : Int)), (2, zi (L : Int)), (3, zi (i : Int))], [], M2) κ := by
    intro j
    induction j with
    | zero =>
      intro i M2 hi hL26 h80 hB2 hF h9
      exact zb267_68 (D := D + 166) hT rfl hB2 (by omega) hL26 (by omega) (fun _ hz2 => hk _ _ (by unfold isI; omega) hz2 (hF.set rfl) (by rw [zu_off (by omega), h9])) (fun q => by omega)
    | succ j ih =>
      intro i M2 hi hL26 h80 hB2 hF h9
      refine zb267_68 (D := D + 166) hT rfl hB2 (by omega) hL26 (by omega) (fun q => by omega) (fun _ => ?_)
      have h8 := h80 i (by omega)
      have b57 : 0 ≤ M2 75 57 ∧ M2 75 57 ≤ 400000 := hB2 75 57
      obtain ⟨pl, hpl⟩ : ∃ pl : Nat, M2 80 i - 48 = (pl : Int) := ⟨(M2 80 i - 48).toNat, by omega⟩
      rw [hpl]
      have hA : Agree KL m M2 := .of hF rfl
      refine z_lawOf hT hB2 (by omega) (by omega) (by omega) (hA.law.1 hR) (fun M3 hB3 hF3 => ?_)
      have hF3b := hF3.sub lbWL
      have hFa : zFr (inL ([(74, some 9), (74, some 49), (97, none)] ++ lbL)) m M3 := hF.trans (hF3b.sub (inL_sub (by decide)))
      refine zb267_101 (D := D + 166) hT rfl hB3 (by omega) hL26 (by omega) LWB (by omega) (fun hz4 => ?_)
      exact ih (i + 1) _ (by omega) hL26 (fun q hq => by rw [zu_dn (by omega), hF3b 80 q rfl]; exact h80 q hq) hz4 (hFa.set rfl) (by rw [zu_dn (by omega), hF3b 74 9 rfl, h9])
  have first : ∀ (j i : Nat), i + j = L → i ≤ 26 → (∀ q, q < i → 48 ≤ M 80 q ∧ M 80 q ≤ 51) → T (D + 171) 267 (23, [(0, zr 74), (1, zi (p : Int)), (2, zi (L : Int)), (3, zi (i : Int))], [], M) κ := by
    intro j
    induction j with
    | zero =>
      intro i hi h26 h80
      exact zb267_23 (D := D + 166) hT rfl hz (by omega) (by omega) (by omega) (fun _ _ => second L 0 M (by omega) (by omega) (fun q hq => h80 q (by omega)) hz t9 x9) (fun _ _ => hk _ _ (by unfold isI; omega) hz t9 x9) (fun q => by omega) (fun q => by omega) (fun q => by omega) (fun q => by omega)
    | succ j ih =>
      intro i hi h26 h80
      have r1 : isI ((-1) - (i : Int)) := by unfold isI; omega
      refine zb267_23 (D := D + 166) hT rfl hz (by omega) (by omega) (by omega) (fun q => by omega) (fun q => by omega) (fun _ _ => hk _ _ r1 hz t9 x9) (fun _ _ _ => hk _ _ r1 hz t9 x9) (fun _ _ _ _ => hk _ _ r1 hz t9 x9) (fun _ c1 c2 c3 => ?_)
      refine ih (i + 1) (by omega) (by omega) (fun q hq => ?_)
      by_cases e : q = i
      · rw [e]
        omega
      · exact h80 q (by omega)
  exact first L 0 (by omega) (by omega) (fun q hq => by omega)
theorem w_way0 (hT : zRules T) {v : Int} (hv : isI v) : Way T 146 271 [(0, zr 1), (1, zi v)] [(0, zr 74), (1, zi v)] 7 172 B B False := by
  rintro D m sc ⟨n, k, hI⟩ κ hκ
  have hI0 := hI
  have i1 := hI.1
  have b17 : 0 ≤ m 17 0 ∧ m 17 0 ≤ 6 := i1 17 0
  obtain ⟨n1, n2⟩ := hI.2.2.2.1.1
  have ref : ∀ (r : Option zA) (M0 : zM), zB M0 → Agree noT m M0 → M0 2 1 = 0 → κ r M0 := by
    intro r M0 hB0 hA0 e21
    refine hκ _ _ (fun D2 κ2 h2 => ?_)
    have fin : ∀ r2 M1, zB M1 → Agree noT m M1 → M1 2 1 = 0 → M1 74 9 = 0 → κ2 r2 M1 := fun r2 M1 hB1 hA1 f1 f2 => h2 _ _ (fun x => x.elim) ⟨n, k, Inv_nt hI0 hB1 hA1 f1 f2⟩
    refine zb271_0 (D := D2 + 166) hT hB0 hv (fun hz => ?_)
    have hA1 : Agree noT m (zu M0 74 12 0) := hA0.trans (.of (L := [(74, some 12)]) (zFr.refl.set rfl) rfl)
    have e21b : (zu M0 74 12 0) 2 1 = 0 := by rw [zu_dn (by omega), e21]
    generalize zu M0 74 12 0 = M at hz hA1 e21b ⊢
    have hAL : Agree KL m M := hA1.sub (fun q hq => List.mem_append.mpr (Or.inl hq))
    refine z_readWayR0 (n := n) hT hz (hAL.law.1 hI.2.2.1) ((hA1 74 4 rfl).trans n2) (by omega) hv (fun s M1 hs hB1 hF1 h9 => ?_)
    have hA2 : Agree noT m M1 := hA1.trans (.of hF1 rfl)
    have f21 : M1 2 1 = 0 := by rw [hF1 2 1 rfl, e21b]
    refine zb271_10 (D := D2 + 166) hT rfl hB1 hs (fun _ => ?_) (fun _ => fin _ _ hB1 hA2 f21 h9)
    have b49 : 0 ≤ M1 74 49 ∧ M1 74 49 ≤ 26 := hB1 74 49
    obtain ⟨N, hN⟩ : ∃ N : Nat, M1 74 49 = (N : Int) := ⟨(M1 74 49).toNat, by omega⟩
    refine z_findTaken0 (D := D2 + 166) (N := N) hT hB1 hN (by omega) (fun c M3 hc hB3 hF3 _ => ?_)
    refine zb271_21 (D := D2 + 166) hT rfl hB3 (by omega) (fun hz4 => ?_)
    have hA3 : Agree noT m M3 := hA2.trans (.of hF3 rfl)
    have loop : ∀ (j i : Nat) (M4 : zM), i + j = c → zB M4 → M4 74 11 = (i : Int) → Agree noT m M4 → M4 2 1 = 0 → M4 74 9 = 0 → T (D2 + 172) 271 (30, [(0, zr 74), (3, zi (c : Int)), (4, zi (i : Int))], [], M4) κ2 := by
      intro j
      induction j with
      | zero =>
        intro i M4 hi hB4 h11 hA4 f1 f2
        exact zb271_30 (D := D2 + 166) hT rfl hB4 (by omega) (by omega) (fun _ => fin _ _ hB4 hA4 f1 f2) (fun q => by omega) (fun q => by omega)
      | succ j ih =>
        intro i M4 hi hB4 h11 hA4 f1 f2
        refine zb271_30 (D := D2 + 166) hT rfl hB4 (by omega) (by omega) (fun q => by omega) (fun _ => by omega) (fun _ => ?_)
        refine ih (i + 1) _ (by omega) (zB_u (zB_u hB4 trivial) ?_) (by rw [zu_sm rfl, h11]; omega) (hA4.trans (.of (L := [(74, some 11), (81, none)]) ((zFr.refl.set rfl).set rfl) rfl)) (by rw [zu_dn (by omega), zu_dn (by omega), f1]) (by rw [zu_off (by omega), zu_dn (by omega), f2])
        show 0 ≤ M4 74 11 + 1 ∧ M4 74 11 + 1 ≤ 32
        omega
    exact loop c 0 _ (by omega) hz4 (by rw [zu_sm rfl]; rfl) (hA3.trans (.of (L := [(74, some 11)]) (zFr.refl.set rfl) rfl)) (by rw [zu_dn (by omega), hF3 2 1 rfl, f21]) (by rw [zu_off (by omega), hF3 74 9 rfl, h9])
  refine zb146_0 hT i1 hv ?_
  refine z_readWayC0 hT hI0 hv (fun r M hr hBM hF e21 _ => ?_)
  have hA : Agree noT m M := .of hF rfl
  refine zb146_5 hT rfl hBM hr (fun _ => ?_) (fun _ => ref _ _ hBM hA e21)
  have b24 : 0 ≤ M 24 0 ∧ M 24 0 ≤ 9 := hBM 24 0
  refine z_packFew0 (D := D + 2) hT hBM b24 (fun c M2 hc hB2 hF2 => ?_)
  have b52 : 0 ≤ M 52 1 ∧ M 52 1 ≤ 60 := hBM 52 1
  have hA2 : Agree noT m M2 := hA.trans (.of hF2 rfl)
  have g21 : M2 2 1 = 0 := by rw [hF2 2 1 rfl, e21]
  refine zb146_26 hT rfl hB2 (by omega) ?_
  refine zb48_0_58w (D := D + 4) hT hB2 (by omega) (fun _ hz => ?_) (fun _ _ hz => ?_) (fun _ _ hz => ?_)
  · exact zb146_42 hT rfl (by omega) (ref _ _ hz (hA2.trans (.of (L := [(72, some 1), (73, none)]) ((zFr.refl.set rfl).cp (fun _ => rfl)) rfl)) (by rw [z_cp_dn (by omega), zu_dn (by omega), g21]))
  · exact zb146_42 hT rfl (by omega) (ref _ _ hz (hA2.trans (.of (L := [(72, some 1), (73, none)]) ((zFr.refl.set rfl).cp (fun _ => rfl)) rfl)) (by rw [z_cp_dn (by omega), zu_dn (by omega), g21]))
  · exact zb146_42 hT rfl (by omega) (ref _ _ hz (hA2.trans (.of (L := [(72, some 1), (73, none)]) ((zFr.refl.set rfl).cp (fun _ => rfl)) rfl)) (by rw [z_cp_dn (by omega), zu_dn (by omega), g21]))
end ZWay
