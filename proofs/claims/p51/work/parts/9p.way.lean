/-! way(): it ends, and leaves what matters; THE TEXT is empty then. -/
noncomputable def noT : zLs := KL ++ (KH ++ (KM ++ (KU ++ (KK ++ (KS ++ (KJ ++ KX))))))
noncomputable def noT0 : zLs := KL ++ (KH ++ (KM ++ (KU ++ (KK ++ (KS ++ (KJ ++ KX0))))))
theorem Agree.n0 {m M : zM} (h : Agree noT m M) : Agree noT0 m M := fun c j q => h c j (inL_sub (L := noT0) (K := noT) (by decide) c j q)
theorem Inv_ntR {B : Int} {sc : zSc} {n k : Nat} {m M : zM} (hI : Inv B sc n k m) (hz : zB M) (h : Agree noT0 m M) (e1 : M 2 1 = 0) (e2 : M 74 9 = 0) (hr : RowP M) : Inv B sc n k M := by
  obtain ⟨i1, i2, i3, i4, i5, i6, i7, i8, i9, i10, i11⟩ := hI
  have m1' : ∀ {L1 L2 : zLs} {q : Nat × Option Nat}, q ∈ L1 → q ∈ L1 ++ L2 := fun q => List.mem_append.mpr (Or.inl q)
  have m2' : ∀ {L1 L2 : zLs} {q : Nat × Option Nat}, q ∈ L2 → q ∈ L1 ++ L2 := fun q => List.mem_append.mpr (Or.inr q)
  refine ⟨hz, ⟨by rw [e1, e2], fun j hj => by rw [e1] at hj; omega⟩, (h.sub (K2 := KL) (fun q hq => m1' hq)).law.1 i3, House_fr (h.sub (fun q hq => m2' (m1' hq))) i4, Term_fr (h.sub (fun q hq => m2' (m2' (m1' hq)))) i5, Undo_fr (h.sub (fun q hq => m2' (m2' (m2' (m1' hq))))) i6, Kept_fr (h.sub (fun q hq => m2' (m2' (m2' (m2' (m1' hq)))))) i7, Seen_fr (h.sub (fun q hq => m2' (m2' (m2' (m2' (m2' (m1' hq))))))) i8, Job_fr (h.sub (fun q hq => m2' (m2' (m2' (m2' (m2' (m2' (m1' hq)))))))) i9, ?_, (funext fun j => h 0 j rfl).trans i11.1, (h 110 0 rfl).trans i11.2.1, fun c hc => (h 103 c rfl).trans (i11.2.2.1 c hc), hr⟩
  rw [h 75 57 rfl]
  exact i10
theorem Inv_nt {B : Int} {sc : zSc} {n k : Nat} {m M : zM} (hI : Inv B sc n k m) (hz : zB M) (h : Agree noT m M) (e1 : M 2 1 = 0) (e2 : M 74 9 = 0) : Inv B sc n k M := by
  have h0 : Agree coreK m (fun c j => if inL KT c j = true then m c j else M c j) := fun c j q => by
    show (if inL KT c j = true then m c j else M c j) = m c j
    by_cases e : inL KT c j = true
    · rw [if_pos e]
    · rw [if_neg e]
      refine h c j ?_
      obtain ⟨x, hx, hx2⟩ := List.any_eq_true.mp q
      rcases List.mem_append.mp hx with y | y
      · exact absurd (List.any_eq_true.mpr ⟨x, y, hx2⟩) e
      · exact List.any_eq_true.mpr ⟨x, y, hx2⟩
  obtain ⟨i1, i2, i3, i4, i5, i6, i7, i8, i9, i10, i11⟩ := hI
  have m1' : ∀ {L1 L2 : zLs} {q : Nat × Option Nat}, q ∈ L1 → q ∈ L1 ++ L2 := fun q => List.mem_append.mpr (Or.inl q)
  have m2' : ∀ {L1 L2 : zLs} {q : Nat × Option Nat}, q ∈ L2 → q ∈ L1 ++ L2 := fun q => List.mem_append.mpr (Or.inr q)
  refine ⟨hz, ⟨by rw [e1, e2], fun j hj => by rw [e1] at hj; omega⟩, (h.sub (K2 := KL) (fun q hq => m1' hq)).law.1 i3, House_fr (h.sub (fun q hq => m2' (m1' hq))) i4, Term_fr (h.sub (fun q hq => m2' (m2' (m1' hq)))) i5, Undo_fr (h.sub (fun q hq => m2' (m2' (m2' (m1' hq))))) i6, Kept_fr (h.sub (fun q hq => m2' (m2' (m2' (m2' (m1' hq)))))) i7, Seen_fr (h.sub (fun q hq => m2' (m2' (m2' (m2' (m2' (m1' hq))))))) i8, Job_fr (h.sub (fun q hq => m2' (m2' (m2' (m2' (m2' (m2' (m1' hq)))))))) i9, ?_, ?_⟩
  · rw [h 75 57 rfl]
    exact i10
  · exact Scr_fr (h.sub (fun q hq => m2' (m2' (m2' (m2' (m2' (m2' (m2' hq)))))))) i11
section ZWay
variable {T : Nat → Nat → zG → (Option zA → zM → Prop) → Prop} {B : Int}
theorem z_readWayR0 (hT : zRules T) {D : Nat} {κ : Option zA → zM → Prop} {m : zM} {n : Nat} {v : Int} (hB : zB m) (hR : LawRel m) (hn : m 74 4 = (n : Int)) (hn6 : n ≤ 6) (hv : isI v)
    (hk : ∀ r M, isI r → zB M → zFr (inL ([(74, some 9), (74, some 49), (97, none)] ++ lbL)) m M → M 74 9 = 0 → κ (some (zi r)) M) : T (D + 171) 267 (0, [(0, zr 74), (1, zi v)], [], m) κ := by
  have b9 : 0 ≤ m 74 9 ∧ m 74 9 ≤ 80 := hB 74 9
  have t9 : zFr (inL ([(74, some 9), (74, some 49), (97, none)] ++ lbL)) m (zu m 74 9 0) := zFr.refl.set rfl
  have x9 : (zu m 74 9 0) 74 9 = 0 := by rw [zu_sm rfl]
  refine zb267_0 (D := D + 166) hT hB hv (fun _ hz => hk _ _ (by unfold isI; omega) hz t9 x9) (fun _ _ hz => hk _ _ (by unfold isI; omega) hz t9 x9) (fun q1 q2 hz => ?_)
  obtain ⟨p, rfl⟩ : ∃ p : Nat, v = (p : Int) := ⟨v.toNat, by omega⟩
  obtain ⟨L, hL⟩ : ∃ L : Nat, m 74 9 = (L : Int) := ⟨(m 74 9).toNat, by omega⟩
  rw [hL]
  generalize zu m 74 9 0 = M at hz t9 x9 ⊢
  have second : ∀ (j i : Nat) (M2 : zM), i + j = L → L ≤ 26 → (∀ q, q < L → 48 ≤ M2 80 q ∧ M2 80 q ≤ 51) → zB M2 → zFr (inL ([(74, some 9), (74, some 49), (97, none)] ++ lbL)) m M2 → M2 74 9 = 0 → T (D + 171) 267 (68, [(0, zr 74), (1, zi (p : Int)), (2, zi (L : Int)), (3, zi (i : Int))], [], M2) κ := by
    intro j
    induction j with
    | zero =>
      intro i M2 hi hL26 h80 hB2 hF h9
      exact zb267_68 (D := D + 166) hT rfl hB2 (by omega) hL26 (by omega) (fun _ hz2 => hk _ _ (by unfold isI; omega) hz2 (hF.set rfl) (by rw [zu_off (by omega), h9])) (fun q => by omega)
    | succ j ih =>
      intro i M2 hi hL26 h80 hB2 hF h9
      refine zb267_68 (D := D + 166) hT rfl hB2 (by omega) hL26 (by omega) (fun q => by omega) (fun _ => ?_)
      have h8 := h80 i (by omega)
      have b57 : 0 ≤ M2 75 57 ∧ M2 75 57 ≤ 400000 := hB2 75 57
      obtain ⟨pl, hpl⟩ : ∃ pl : Nat, M2 80 i - 48 = (pl : Int) := ⟨(M2 80 i - 48).toNat, by omega⟩
      rw [hpl]
      have hA : Agree KL m M2 := .of hF rfl
      refine z_lawOf hT hB2 (by omega) (by omega) (by omega) (hA.law.1 hR) (fun M3 hB3 hF3 => ?_)
      have hF3b := hF3.sub lbWL
      have hFa : zFr (inL ([(74, some 9), (74, some 49), (97, none)] ++ lbL)) m M3 := hF.trans (hF3b.sub (inL_sub (by decide)))
      refine zb267_101 (D := D + 166) hT rfl hB3 (by omega) hL26 (by omega) LWB (by omega) (fun hz4 => ?_)
      exact ih (i + 1) _ (by omega) hL26 (fun q hq => by rw [zu_dn (by omega), hF3b 80 q rfl]; exact h80 q hq) hz4 (hFa.set rfl) (by rw [zu_dn (by omega), hF3b 74 9 rfl, h9])
  have first : ∀ (j i : Nat), i + j = L → i ≤ 26 → (∀ q, q < i → 48 ≤ M 80 q ∧ M 80 q ≤ 51) → T (D + 171) 267 (23, [(0, zr 74), (1, zi (p : Int)), (2, zi (L : Int)), (3, zi (i : Int))], [], M) κ := by
    intro j
    induction j with
    | zero =>
      intro i hi h26 h80
      exact zb267_23 (D := D + 166) hT rfl hz (by omega) (by omega) (by omega) (fun _ _ => second L 0 M (by omega) (by omega) (fun q hq => h80 q (by omega)) hz t9 x9) (fun _ _ => hk _ _ (by unfold isI; omega) hz t9 x9) (fun q => by omega) (fun q => by omega) (fun q => by omega) (fun q => by omega)
    | succ j ih =>
      intro i hi h26 h80
      have r1 : isI ((-1) - (i : Int)) := by unfold isI; omega
      refine zb267_23 (D := D + 166) hT rfl hz (by omega) (by omega) (by omega) (fun q => by omega) (fun q => by omega) (fun _ _ => hk _ _ r1 hz t9 x9) (fun _ _ _ => hk _ _ r1 hz t9 x9) (fun _ _ _ _ => hk _ _ r1 hz t9 x9) (fun _ c1 c2 c3 => ?_)
      refine ih (i + 1) (by omega) (by omega) (fun q hq => ?_)
      by_cases e : q = i
      · rw [e]
        omega
      · exact h80 q (by omega)
  exact first L 0 (by omega) (by omega) (fun q hq => by omega)
end ZWay
