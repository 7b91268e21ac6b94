/-! undo(), keep(), again(). -/
noncomputable def momL : zLs := [(30, none), (31, none), (32, none), (33, none), (34, none), (35, none), (36, none), (37, none), (38, none), (39, none), (40, none), (41, none), (42, none)]
theorem momL_in {x : Nat} (hx : x < 13) (j : Nat) : inL momL (30 + x) j = true := by
  match x, hx with
  | 0, _ => rfl
  | 1, _ => rfl
  | 2, _ => rfl
  | 3, _ => rfl
  | 4, _ => rfl
  | 5, _ => rfl
  | 6, _ => rfl
  | 7, _ => rfl
  | 8, _ => rfl
  | 9, _ => rfl
  | 10, _ => rfl
  | 11, _ => rfl
  | 12, _ => rfl
section ZKept
variable {T : Nat → Nat → zG → (Option zA → zM → Prop) → Prop} {B : Int}
theorem z_undoCopy (hT : zRules T) {D : Nat} {κ : Option zA → zM → Prop} {M : zM} {u : Nat} (hB : zB M) (hu : M 74 35 = (u : Int)) (hu11 : u ≤ 11) (h : ∀ M1, zB M1 → zFr (inL [(75, none)]) M M1 → (∀ j, j < 59 → M1 75 j = M 87 (59 * u + j)) → κ (some (zi (u : Int))) M1) : T (D + 1) 241 (26, [(0, zr 74), (1, zi 0)], [], M) κ := by
  have key : ∀ (j k : Nat) (N : zM), k + j = 59 → zB N → zFr (inL [(75, none)]) M N → (∀ i, i < k → N 75 i = M 87 (59 * u + i)) → T (D + 1) 241 (26, [(0, zr 74), (1, zi (k : Int))], [], N) κ := by
    intro j
    induction j with
    | zero =>
      intro k N hk hBN hF g
      have e35 : N 74 35 = (u : Int) := (hF 74 35 rfl).trans hu
      refine zb241_26 hT rfl hBN (by omega) (by omega) (fun _ => ?_) (fun q => by omega)
      rw [e35]
      exact h N hBN hF (fun i hi => g i (by omega))
    | succ j ih =>
      intro k N hk hBN hF g
      have e35 : N 74 35 = (u : Int) := (hF 74 35 rfl).trans hu
      refine zb241_26 hT rfl hBN (by omega) (by omega) (fun q => by omega) (fun _ => ?_)
      rw [show ((59 * N 74 35) + (k : Int)).toNat = 59 * u + k by omega]
      refine ih (k + 1) _ (by omega) (zB_u hBN (zbd7587 (u := u) (by omega) (hBN 87 (59 * u + k)))) (hF.set rfl) (fun i hi => ?_)
      by_cases e : i = k
      · subst e
        rw [zu_sm rfl, hF 87 _ rfl]
      · rw [zu_off e]
        exact g i (by omega)
  exact key 59 0 M (by omega) hB zFr.refl (fun i hi => by omega)
theorem z_againCopy (hT : zRules T) {D : Nat} {κ : Option zA → zM → Prop} {M : zM} {i : Nat} (hB : zB M) (hi : i ≤ 1) (h : ∀ M1, zB (zu M1 74 35 0) → zFr (inL [(75, none)]) M M1 → (∀ j, j < 59 → M1 75 j = M 106 (59 * i + j)) → κ (some (zi 1)) (zu M1 74 35 0)) : T (D + 2) 288 (40, [(0, zr 74), (1, zi (i : Int)), (2, zi 0)], [], M) κ := by
  have key : ∀ (j k : Nat) (N : zM), k + j = 59 → zB N → zFr (inL [(75, none)]) M N → (∀ x, x < k → N 75 x = M 106 (59 * i + x)) → T (D + 2) 288 (40, [(0, zr 74), (1, zi (i : Int)), (2, zi (k : Int))], [], N) κ := by
    intro j
    induction j with
    | zero =>
      intro k N hk hBN hF g
      exact zb288_40 hT rfl hBN hi (by omega) (fun _ hz => h N hz hF (fun x hx => g x (by omega))) (fun q => by omega)
    | succ j ih =>
      intro k N hk hBN hF g
      refine zb288_40 hT rfl hBN hi (by omega) (fun q => by omega) (fun _ => ?_)
      refine ih (k + 1) _ (by omega) (zB_u hBN (zbd75106 (u := i) (by omega) (hBN 106 (59 * i + k)))) (hF.set rfl) (fun x hx => ?_)
      by_cases e : x = k
      · subst e
        rw [zu_sm rfl, hF 106 _ rfl]
      · rw [zu_off e]
        exact g x (by omega)
  exact key 59 0 M (by omega) hB zFr.refl (fun i hi => by omega)
noncomputable def rtL : zLs := [(17, some 10), (17, some 11), (19, none), (20, none), (21, none), (22, none), (23, none), (25, some 2), (26, none)]
theorem rtWL : ∀ c j, rtW c j = true → inL rtL c j = true := by
  intro c j h
  simp only [rtW, Bool.or_eq_true, Bool.and_eq_true] at h
  rcases h with (a | a | a | a | a | a) | ⟨a, b⟩ | ⟨a, b | b⟩
  all_goals (have e1 := Nat.eq_of_beq_eq_true a)
  · subst e1
    rfl
  · subst e1
    rfl
  · subst e1
    rfl
  · subst e1
    rfl
  · subst e1
    rfl
  · subst e1
    rfl
  · have e2 := Nat.eq_of_beq_eq_true b
    subst e1 e2
    rfl
  · have e2 := Nat.eq_of_beq_eq_true b
    subst e1 e2
    rfl
  · have e2 := Nat.eq_of_beq_eq_true b
    subst e1 e2
    rfl
/-- the house as it was brought back by both -/
theorem House_back {n k : Nat} {m m1 M : zM} {r g : Nat → Int} (hn : n ≤ 6) (hk : k ≤ 8) (h4 : HouseRel n k m) (hA0 : Agree [(17, some 0), (17, some 1), (18, none), (74, some 4), (74, some 6), (78, none)] m M) (hb : Brought m1 r) (hA : Agree KRel m1 M) (hR : RelM n k r g) (ho : okRow n k g) (h75 : ∀ j, j < 59 → M 75 j = g j) : HouseRel n k M := by
  obtain ⟨⟨n1, n2⟩, ⟨k1, k2⟩, hh, -, -⟩ := h4
  have h20 := ho.2.1.2
  refine ⟨⟨(hA0 17 0 rfl).trans n1, (hA0 74 4 rfl).trans n2⟩, ⟨(hA0 17 1 rfl).trans k1, (hA0 74 6 rfl).trans k2⟩, fun p hp => ?_, ((hb.rel hn hk h20 hR).fr hA).congr hn hk h20 h75, ho.congr hn hk (fun j hj => h75 j (by omega))⟩
  rw [hA0 78 p rfl, hA0 18 p rfl]
  exact hh p hp
theorem w_undo (hT : zRules T) : Way T 129 241 [(0, zr 1)] [(0, zr 74)] 3 1 B B True := by
  rintro D m sc ⟨n, k, hI⟩ κ hκ
  have hI0 := hI
  obtain ⟨i1, i2, i3, i4, i5, i6, i7, i8, i9, i10, i11⟩ := hI
  have i40 := i4
  obtain ⟨⟨n1, n2⟩, ⟨k1, k2⟩, hh, hRel, hok⟩ := i4
  have b17 : 0 ≤ m 17 0 ∧ m 17 0 ≤ 6 := i1 17 0
  have b171 : 0 ≤ m 17 1 ∧ m 17 1 ≤ 8 := i1 17 1
  have b4 : 0 ≤ m 28 4 ∧ m 28 4 ≤ 12 := i1 28 4
  have b5 : 0 ≤ m 28 5 ∧ m 28 5 ≤ 12 := i1 28 5
  have hA12 : Agree coreK m (zu m 74 12 0) := .of (L := [(74, some 12)]) (zFr.refl.set rfl) rfl
  refine zb129_0 hT i1 (fun q hz => ?_) (fun q => ?_)
  · obtain ⟨u, hu⟩ : ∃ u : Nat, m 28 5 = (u : Int) + 1 := ⟨(m 28 5 - 1).toNat, by omega⟩
    obtain ⟨g1, g2, g3⟩ := i6.2 u (by omega)
    have hfr : frs (zu m 28 5 (m 28 5 - 1)) = slt m u := by
      rw [frsE hz, zu_off (by omega), zu_sm rfl, hu]
      unfold slt
      omega
    have hsl : slt m u < 13 := by unfold slt; omega
    refine z_back hT hz (fun m1 hB1 hF1 hb => ?_)
    rw [hfr, zu_ne (by omega)] at hb
    have hF1b : zFr (inL ((28, some 5) :: rtL)) m m1 := ((zFr.refl (m := m)).set (q := 28) (i := 5) (v := m 28 5 - 1) rfl).trans ((hF1.sub rtWL).sub (inL_sub (by decide)))
    have e285 : m1 28 5 = (u : Int) := by
      rw [(hF1.sub rtWL) 28 5 rfl, zu_sm rfl]
      omega
    refine zb129_31 hT rfl hB1 ?_
    rw [e285]
    refine hκ _ _ (fun D2 κ2 h2 => ?_)
    have e35 : m1 74 35 = (u : Int) + 1 := by rw [hF1b 74 35 rfl, i6.1, hu]
    refine zb241_0 hT hB1 (fun _ hz2 => ?_) (fun x => by omega)
    generalize hM : (zu (zu m1 74 12 0) 74 35 (m1 74 35 - 1)) = M at hz2 ⊢
    have eM35 : M 74 35 = (u : Int) := by
      rw [← hM, zu_sm rfl]
      omega
    have hFM : zFr (inL ((28, some 5) :: ((74, some 12) :: ((74, some 35) :: rtL)))) m M := by
      rw [← hM]
      exact ((hF1b.sub (inL_sub (by decide))).set rfl).set rfl
    refine z_undoCopy hT hz2 eM35 (by omega) (fun M1 hB2 hF2 h75 => ?_)
    have hF : zFr (inL ((28, some 5) :: ((74, some 12) :: ((74, some 35) :: ((75, none) :: rtL))))) m M1 := (hFM.sub (inL_sub (by decide))).trans (hF2.sub (inL_sub (by decide)))
    have t1 : zFr (inL [(74, some 12), (74, some 35), (75, none)]) m1 M1 := by
      rw [← hM] at hF2
      exact (((zFr.refl (m := m1)).set (q := 74) (i := 12) (v := 0) rfl).set rfl).trans (hF2.sub (inL_sub (by decide)))
    have e87 : ∀ j, M 87 j = m 87 j := fun j => hFM 87 j rfl
    have f75 : ∀ j, j < 59 → M1 75 j = m 87 (59 * u + j) := fun j hj => by rw [h75 j hj, e87]
    refine h2 _ _ (fun _ => rfl) ⟨n, k, Inv_hu hI0 hB2 (.of hF rfl) (House_back (by omega) (by omega) i40 (.of hF rfl) hb (.of t1 rfl) g1 g2 f75) ⟨?_, fun i hi => ?_⟩ ?_⟩
    · rw [hF2 74 35 rfl, eM35, t1 28 5 rfl, e285]
    · rw [t1 28 5 rfl, e285] at hi
      obtain ⟨c1, c2, c3⟩ := i6.2 i (by omega)
      have esl : slt M1 i = slt m i := by
        unfold slt
        rw [hF 28 4 rfl]
      have hsi : slt m i < 13 := by unfold slt; omega
      have er : M1 (30 + slt m i) = m (30 + slt m i) := funext fun j => hF _ j (dj_ok (K := momL) rfl (momL_in hsi j))
      have e87b : M1 87 = m 87 := funext fun j => hF 87 j rfl
      rw [esl, er, e87b]
      exact ⟨c1, c2, c3⟩
    · rw [f75 57 (by omega)]
      exact g3
  · refine hκ _ _ (fun D2 κ2 h2 => ?_)
    have e35 := i6.1
    exact zb241_0 hT i1 (fun x => by omega) (fun _ hz => h2 _ _ (fun _ => rfl) ⟨n, k, Inv_fr hA12 hz hI0⟩)
theorem w_keep (hT : zRules T) {v : Int} (hv : isI v) : Way T 159 287 [(0, zr 1), (1, zi v)] [(0, zr 74), (1, zi v)] 4 2 B B True := by
  rintro D m sc ⟨n, k, hI⟩ κ hκ
  have hI0 := hI
  obtain ⟨i1, i2, i3, i4, i5, i6, i7, i8, i9, i10, i11⟩ := hI
  have hA12 : Agree coreK m (zu m 74 12 0) := .of (L := [(74, some 12)]) (zFr.refl.set rfl) rfl
  obtain ⟨⟨n1, n2⟩, ⟨k1, k2⟩, hh, hRel, hok⟩ := i4
  have i40 : HouseRel n k m := ⟨⟨n1, n2⟩, ⟨k1, k2⟩, hh, hRel, hok⟩
  have b17 : 0 ≤ m 17 0 ∧ m 17 0 ≤ 6 := i1 17 0
  have b171 : 0 ≤ m 17 1 ∧ m 17 1 ≤ 8 := i1 17 1
  have no : ¬ (0 ≤ v ∧ v ≤ 1) → T (D + 4) 159 (12, [(0, zr 1), (1, zi v)], [zi 0], m) κ := by
    intro hno
    refine zb159_12 hT rfl (by omega) ?_
    refine hκ _ _ (fun D2 κ2 h2 => ?_)
    have fin : zB (zu m 74 12 0) → κ2 (some (zi 0)) (zu m 74 12 0) := fun hz => h2 _ _ (fun _ => rfl) ⟨n, k, Inv_fr hA12 hz hI0⟩
    exact zb287_0 hT i1 hv (fun _ hz => fin hz) (fun _ _ hz => fin hz) (fun q1 q2 => absurd ⟨by omega, by omega⟩ hno)
  -- kept under the number a
  have go : ∀ (a : Nat) (m1 : zM), a ≤ 1 → v = (a : Int) → zB m1 → zFr (rowW (44 + a)) m m1 → (∀ j, j < 59 → m1 (44 + a) j = cmom m j) → T (D + 3) 21 (21, [(0, zr 28), (1, zi v), (2, zr 17)], [], m1) (fun r m1 => T (D + 4) 159 (12, [(0, zr 1), (1, zi v)], r.toList ++ [], m1) κ) := by
    intro a m1 ha hva hB1 hF1 h1
    subst hva
    have hF1n : ∀ c j, c ≠ 44 + a → m1 c j = m c j := fun c j hc => hF1 c j (by
      cases hb : rowW (44 + a) c j with
      | false => rfl
      | true => exact absurd (Nat.eq_of_beq_eq_true hb) hc)
    refine zb21_21 (i := a) hT rfl hB1 ha (fun hz => ?_)
    refine zb159_12 hT rfl (by omega) ?_
    rw [hF1n 17 0 (by omega), hF1n 17 1 (by omega), n1, k1] at hz ⊢
    refine hκ _ _ (fun D2 κ2 h2 => ?_)
    refine zb287_0 hT hz hv (fun x => by omega) (fun _ x => by omega) (fun _ _ hz2 => ?_)
    rw [Int.toNat_natCast] at hz2 ⊢
    generalize hM : (zu (zu (zu (zu (zu m1 46 a (n : Int)) 47 a (k : Int)) 74 12 0) 107 a 1) 108 a ((zu (zu m1 46 a (n : Int)) 47 a (k : Int)) 74 62)) = M at hz2 ⊢
    rw [show (59 : Int) * (a : Int) = ((59 * a : Nat) : Int) by omega]
    refine z_lay_75_106 hT (by omega) ?_
    refine zb287_48 hT rfl ?_
    have hz3 : zB (z_cp M 75 106 0 (59 * a) 59) := by
      refine zB_cp hz2 (fun j j1 j2 => ?_)
      obtain ⟨t, rfl⟩ : ∃ t, j = 59 * a + t := ⟨j - 59 * a, by omega⟩
      rw [show 0 + (59 * a + t - 59 * a) = t by omega]
      exact zbd10675 (by omega) (hz2 75 t)
    -- what stands where
    have eM : ∀ c j, c ≠ 44 + a → c ≠ 46 → c ≠ 47 → ¬ (c = 74 ∧ j = 12) → c ≠ 107 → c ≠ 108 → M c j = m c j := fun c j c1 c2 c3 c4 c5 c6 => by
      rw [← hM, zu_dn c6, zu_dn c5]
      by_cases e : c = 74
      · subst e
        rw [zu_off (fun x => c4 ⟨rfl, x⟩), zu_dn (by omega), zu_dn (by omega)]
        exact hF1n 74 j (by omega)
      · rw [zu_dn e, zu_dn c3, zu_dn c2]
        exact hF1n c j c1
    have eN : ∀ c j, c ≠ 106 → z_cp M 75 106 0 (59 * a) 59 c j = M c j := fun c j hc => z_cp_dn hc
    have hA : Agree (KT ++ (KL ++ (KH ++ (KM ++ (KU ++ (KS ++ (KJ ++ KX))))))) m (z_cp M 75 106 0 (59 * a) 59) := fun c j hc => by
      have hd : c ≠ 44 ∧ c ≠ 45 ∧ c ≠ 46 ∧ c ≠ 47 ∧ ¬ (c = 74 ∧ j = 12) ∧ c ≠ 106 ∧ c ≠ 107 ∧ c ≠ 108 := by
        refine ⟨?_, ?_, ?_, ?_, ?_, ?_, ?_, ?_⟩
        · rintro rfl; cases hc
        · rintro rfl; cases hc
        · rintro rfl; cases hc
        · rintro rfl; cases hc
        · rintro ⟨rfl, rfl⟩; cases hc
        · rintro rfl; cases hc
        · rintro rfl; cases hc
        · rintro rfl; cases hc
      rw [eN c j hd.2.2.2.2.2.1]
      exact eM c j (by omega) (by omega) (by omega) hd.2.2.2.2.1 (by omega) (by omega)
    generalize hN : z_cp M 75 106 0 (59 * a) 59 = N at hz3 eN hA ⊢
    have sb : ∀ {K : zLs}, (∀ q, q ∈ K → q ∈ KT ++ (KL ++ (KH ++ (KM ++ (KU ++ (KS ++ (KJ ++ KX))))))) → Agree K m N := fun hs => hA.sub hs
    have m1' : ∀ {L1 L2 : zLs} {q : Nat × Option Nat}, q ∈ L1 → q ∈ L1 ++ L2 := fun q => List.mem_append.mpr (Or.inl q)
    have m2' : ∀ {L1 L2 : zLs} {q : Nat × Option Nat}, q ∈ L2 → q ∈ L1 ++ L2 := fun q => List.mem_append.mpr (Or.inr q)
    have e7462 : N 74 62 = m 74 62 := by
      rw [eN 74 62 (by omega)]
      exact eM 74 62 (by omega) (by omega) (by omega) (fun x => by omega) (by omega) (by omega)
    have eM108 : ∀ i, M 108 i = if i = a then m 74 62 else m 108 i := fun i => by
      have e62 : (zu (zu m1 46 a (n : Int)) 47 a (k : Int)) 74 62 = m 74 62 := by
        rw [zu_dn (by omega), zu_dn (by omega)]
        exact hF1n 74 62 (by omega)
      rw [← hM, zu_at, e62]
      split
      · rfl
      · rw [zu_dn (by omega), zu_dn (by omega), zu_dn (by omega), zu_dn (by omega)]
        exact hF1n 108 i (by omega)
    have eM107 : ∀ i, M 107 i = if i = a then 1 else m 107 i := fun i => by
      rw [← hM, zu_dn (by omega), zu_at]
      split
      · rfl
      · rw [zu_dn (by omega), zu_dn (by omega), zu_dn (by omega)]
        exact hF1n 107 i (by omega)
    have eM46 : ∀ i, M 46 i = if i = a then (n : Int) else m 46 i := fun i => by
      rw [← hM, zu_dn (by omega), zu_dn (by omega), zu_dn (by omega), zu_dn (by omega), zu_at]
      split
      · rfl
      · exact hF1n 46 i (by omega)
    have eM47 : ∀ i, M 47 i = if i = a then (k : Int) else m 47 i := fun i => by
      rw [← hM, zu_dn (by omega), zu_dn (by omega), zu_dn (by omega), zu_at]
      split
      · rfl
      · rw [zu_dn (by omega)]
        exact hF1n 47 i (by omega)
    have eM44 : ∀ i, i < 2 → M (44 + i) = m1 (44 + i) := fun i hi => funext fun j => by
      rw [← hM, zu_dn (by omega), zu_dn (by omega), zu_dn (by omega), zu_dn (by omega), zu_dn (by omega)]
    refine h2 _ _ (fun _ => rfl) ⟨n, k, hz3, Text_fr (sb (fun q hq => m1' hq)) i2, (sb (fun q hq => m2' (m1' hq))).law.1 i3, House_fr (sb (fun q hq => m2' (m2' (m1' hq)))) i40, Term_fr (sb (fun q hq => m2' (m2' (m2' (m1' hq))))) i5, Undo_fr (sb (fun q hq => m2' (m2' (m2' (m2' (m1' hq)))))) i6, ⟨by rw [e7462]; exact i7.1, fun i hi => ?_⟩, Seen_fr (sb (fun q hq => m2' (m2' (m2' (m2' (m2' (m1' hq))))))) i8, Job_fr (sb (fun q hq => m2' (m2' (m2' (m2' (m2' (m2' (m1' hq)))))))) i9, Now_fr (sb (fun q hq => m2' (m2' (m1' hq)))) i10, Scr_fr (sb (fun q hq => m2' (m2' (m2' (m2' (m2' (m2' (m2' hq)))))))) i11⟩
    rw [eN 107 i (by omega), eN 46 i (by omega), eN 47 i (by omega), eN 108 i (by omega), e7462, eM107, eM46, eM47, eM108, show N (44 + i) = M (44 + i) from funext fun j => eN _ j (by omega), eM44 i hi]
    by_cases e : i = a
    · subst e
      have erow : ∀ j, j < 59 → N 106 (59 * i + j) = m 75 j := fun j hj => by
        rw [← hN, z_cp_in (by omega), show 0 + (59 * i + j - 59 * i) = j by omega]
        exact eM 75 j (by omega) (by omega) (by omega) (fun x => by omega) (by omega) (by omega)
      rw [if_pos rfl, if_pos rfl, if_pos rfl, if_pos rfl]
      exact Or.inr ⟨rfl, n, k, ⟨rfl, rfl⟩, ⟨Nat.le_refl _, Nat.le_refl _⟩, ⟨i7.1.1, Int.le_refl _⟩, fun _ => ⟨rfl, rfl⟩, fun x => by omega, (RelM.of (by omega) (by omega) hok.2.1.2 hRel h1).congr (by omega) (by omega) hok.2.1.2 erow, hok.congr (by omega) (by omega) (fun j hj => erow j (by omega)), by rw [erow 57 (by omega)]; exact i10⟩
    · have erow : ∀ j, j < 59 → N 106 (59 * i + j) = m 106 (59 * i + j) := fun j hj => by
        rw [← hN, z_cp_of (by omega)]
        exact eM 106 _ (by omega) (by omega) (by omega) (fun x => by omega) (by omega) (by omega)
      have e44 : m1 (44 + i) = m (44 + i) := funext fun j => hF1n _ j (by omega)
      rw [if_neg e, if_neg e, if_neg e, if_neg e, e44]
      rcases i7.2 i hi with x | ⟨x1, kp, kc, x2, x3, x4, x5, x6, x7, x8, x9⟩
      · exact Or.inl x
      · exact Or.inr ⟨x1, kp, kc, x2, x3, x4, x5, x6, x7.congr (by omega) (by omega) x8.2.1.2 erow, x8.congr (by omega) (by omega) (fun j hj => erow j (by omega)), by rw [erow 57 (by omega)]; exact x9⟩
  refine zb159_0 hT i1 hv ?_
  refine zb21_0 hT i1 hv (fun q => no (by omega)) (fun q1 q2 q3 => ?_) (fun q1 q2 q3 => ?_) (fun q1 q2 => no (by omega))
  · exact z_wt44 hT i1 (fun m1 hB1 hF1 h1 => go 0 m1 (by omega) (by omega) hB1 hF1 h1)
  · exact z_wt45 hT i1 (fun m1 hB1 hF1 h1 => go 1 m1 (by omega) (by omega) hB1 hF1 h1)
theorem w_again (hT : zRules T) {v : Int} (hv : isI v) : Way T 160 288 [(0, zr 1), (1, zi v)] [(0, zr 74), (1, zi v)] 4 2 B B True := by
  rintro D m sc ⟨n, k, hI⟩ κ hκ
  have hI0 := hI
  obtain ⟨i1, i2, i3, i4, i5, i6, i7, i8, i9, i10, i11⟩ := hI
  have hA12 : Agree coreK m (zu m 74 12 0) := .of (L := [(74, some 12)]) (zFr.refl.set rfl) rfl
  have i40 := i4
  obtain ⟨⟨n1, n2⟩, ⟨k1, k2⟩, hh, hRel, hok⟩ := i4
  have b17 : 0 ≤ m 17 0 ∧ m 17 0 ≤ 6 := i1 17 0
  have b171 : 0 ≤ m 17 1 ∧ m 17 1 ≤ 8 := i1 17 1
  -- which are refused
  have hdec : ∀ a : Nat, a < 2 → (wr (m 46 a) = m 17 0 ∧ wr (m 47 a) = m 17 1 ↔ ¬ m 107 a = 0 ∧ wr (m 108 a) = wr (m 74 62)) := fun a ha => by
    rcases i7.2 a ha with ⟨x1, x2⟩ | ⟨x1, kp, kc, ⟨x2, x2'⟩, x3, x4, x5, x6, x7, x8, x9⟩
    · rw [x1, x2]
      constructor
      · rintro ⟨y, -⟩
        have : wr (-1) = -1 := rfl
        omega
      · rintro ⟨y, -⟩
        exact absurd rfl y
    · have h62 := i7.1
      rw [x1, x2, x2', wr_id (by omega) (by omega), wr_id (by omega) (by omega), wr_id (by omega) (by omega), wr_id (by omega) (by omega)]
      constructor
      · rintro ⟨y1, y2⟩
        refine ⟨by omega, ?_⟩
        by_cases z : m 108 a < m 74 62
        · have := x6 z
          omega
        · omega
      · rintro ⟨-, y⟩
        obtain ⟨z1, z2⟩ := x5 y
        omega
  have no : ¬ (0 ≤ v ∧ v < 2 ∧ wr (m 46 v.toNat) = m 17 0 ∧ wr (m 47 v.toNat) = m 17 1) → κ (some (zi 0)) m := by
    intro hno
    refine hκ _ _ (fun D2 κ2 h2 => ?_)
    have fin : zB (zu m 74 12 0) → κ2 (some (zi 0)) (zu m 74 12 0) := fun hz => h2 _ _ (fun _ => rfl) ⟨n, k, Inv_fr hA12 hz hI0⟩
    refine zb288_0 hT i1 hv (fun _ hz => fin hz) (fun _ _ hz => fin hz) (fun _ _ _ hz => fin hz) (fun q1 q2 q3 q4 hz => ?_) (fun _ _ _ _ hz => fin hz)
    have := (hdec v.toNat (by omega)).mpr ⟨q3, q4⟩
    exact absurd ⟨by omega, by omega, this.1, this.2⟩ hno
  refine zb160_0 hT i1 hv (fun q => no (fun x => by omega)) (fun q1 q2 => no (fun x => by omega)) (fun q1 q2 q3 => no (fun x => q3 x.2.2.1)) (fun q1 q2 q3 q4 => no (fun x => q4 x.2.2.2)) (fun q1 q2 q3 q4 => ?_)
  obtain ⟨a, rfl⟩ : ∃ a : Nat, v = (a : Int) := ⟨v.toNat, by omega⟩
  rw [Int.toNat_natCast] at q3 q4
  obtain ⟨y1, y2⟩ := (hdec a (by omega)).mp ⟨q3, q4⟩
  have hk7 := i7.2 a (by omega)
  have hk7b : ∃ g : Nat → Int, g = (fun j => m 106 (59 * a + j)) ∧ RelM n k (m (44 + a)) g ∧ okRow n k g ∧ g 57 ≤ B := by
    rcases hk7 with ⟨x1, x2⟩ | ⟨x1, kp, kc, ⟨x2, x2'⟩, x3, x4, x5, x6, x7, x8, x9⟩
    · exact absurd x1 y1
    · have h62 := i7.1
      rw [wr_id (by omega) (by omega), wr_id (by omega) (by omega)] at y2
      obtain ⟨z1, z2⟩ := x5 y2
      subst z1 z2
      exact ⟨_, rfl, x7, x8, x9⟩
  obtain ⟨g, hg, hRM, hokg, hgB⟩ := hk7b
  have go : ∀ m1, zB m1 → zFr rtW m m1 → Brought m1 (m (44 + a)) → T (D + 3) 23 (10, [(0, zr 28), (1, zi (a : Int)), (2, zr 17)], [], m1) (fun r m1 => T (D + 4) 160 (29, [(0, zr 1), (1, zi (a : Int))], r.toList ++ [], m1) κ) := by
    intro m1 hB1 hF1 hb
    refine zb23_10 hT rfl ?_
    refine zb160_29 hT rfl hB1 (fun hz => ?_)
    refine hκ _ _ (fun D2 κ2 h2 => ?_)
    have hF1b : zFr (inL ((28, some 5) :: rtL)) m (zu m1 28 5 0) := ((hF1.sub rtWL).sub (inL_sub (by decide))).set rfl
    have e107 : (zu m1 28 5 0) 107 a = m 107 a := hF1b 107 a rfl
    have e108 : (zu m1 28 5 0) 108 a = m 108 a := hF1b 108 a rfl
    have e62 : (zu m1 28 5 0) 74 62 = m 74 62 := hF1b 74 62 rfl
    refine zb288_0 hT hz hv (fun x => by omega) (fun _ x => by omega) (fun _ _ x => absurd (by rw [← e107]; exact x) y1) (fun _ _ _ _ hz2 => ?_) (fun _ _ _ x => absurd (by rw [Int.toNat_natCast, e108, e62]; exact y2) x)
    refine z_againCopy hT hz2 (by omega) (fun M1 hB2 hF2 h75 => ?_)
    have hF : zFr (inL ((28, some 5) :: ((74, some 12) :: ((74, some 35) :: ((75, none) :: rtL))))) m (zu M1 74 35 0) := (((hF1b.sub (inL_sub (by decide))).set (q := 74) (i := 12) (v := 0) rfl).trans (hF2.sub (inL_sub (by decide)))).set rfl
    have t1 : zFr (inL [(28, some 5), (74, some 12), (74, some 35), (75, none)]) m1 (zu M1 74 35 0) := ((((zFr.refl (m := m1)).set (q := 28) (i := 5) (v := 0) rfl).set (q := 74) (i := 12) (v := 0) rfl).trans (hF2.sub (inL_sub (by decide)))).set rfl
    have f75 : ∀ j, j < 59 → (zu M1 74 35 0) 75 j = g j := fun j hj => by
      rw [zu_dn (by omega), h75 j hj, hg]
      show (zu (zu m1 28 5 0) 74 12 0) 106 _ = _
      rw [zu_dn (by omega)]
      exact hF1b 106 _ rfl
    have e285 : (zu M1 74 35 0) 28 5 = 0 := by
      rw [zu_dn (by omega), hF2 28 5 rfl, zu_dn (by omega), zu_sm rfl]
    refine h2 _ _ (fun _ => rfl) ⟨n, k, Inv_hu hI0 hB2 (.of hF rfl) (House_back (by omega) (by omega) i40 (.of hF rfl) hb (.of t1 rfl) hRM hokg f75) ⟨?_, fun i hi => ?_⟩ ?_⟩
    · rw [zu_sm rfl, e285]
    · rw [e285] at hi
      omega
    · rw [f75 57 (by omega)]
      exact hgB
  refine zb23_0 (i := a) hT i1 (by omega) (fun x => ?_) (fun x => ?_)
  · have ea : a = 0 := by omega
    subst ea
    exact z_rt44 hT i1 go
  · have ea : a = 1 := by omega
    subst ea
    exact z_rt45 hT i1 go
end ZKept
