/-! What is remembered by both; one goes, one wears. -/
theorem RelM.congr {n k : Nat} {r g g2 : Nat → Int} (hn : n ≤ 6) (hk : k ≤ 8) (h20 : g 56 ≤ 20) (h : RelM n k r g) (e : ∀ j, j < 59 → g2 j = g j) : RelM n k r g2 := by
  obtain ⟨r1, r2, r3, r4, r5, r6⟩ := h
  refine ⟨fun p hp => ?_, fun c hc => ?_, ?_, fun i hi => ?_, ?_, ?_⟩
  · rw [e p (by omega), e (p + 6) (by omega)]
    exact r1 p hp
  · rw [e (c + 12) (by omega), e (c + 20) (by omega), e (c + 28) (by omega)]
    exact r2 c hc
  · rw [e 56 (by omega)]
    exact r3
  · rw [e 56 (by omega)] at hi
    rw [e (i + 36) (by omega)]
    exact r4 i hi
  · rw [e 57 (by omega)]
    exact r5
  · rw [e 58 (by omega)]
    exact r6
theorem okRow.congr {n k : Nat} {g g2 : Nat → Int} (hn : n ≤ 6) (hk : k ≤ 8) (h : okRow n k g) (e : ∀ j, j < 58 → g2 j = g j) : okRow n k g2 := by
  obtain ⟨r1, r2, r3, r4⟩ := h
  refine ⟨fun p hp => ?_, ?_, ?_, fun c hc => ?_⟩
  · rw [e p (by omega), e (p + 6) (by omega)]
    exact r1 p hp
  · rw [e 56 (by omega)]
    exact r2
  · rw [e 57 (by omega)]
    exact r3
  · rw [e (c + 20) (by omega)]
    exact r4 c hc
noncomputable def KRel : zLs := [(17, some 10), (17, some 11), (19, none), (20, none), (21, none), (22, none), (23, none), (25, some 2), (26, none)]
theorem Rel.fr {n k : Nat} {m m1 : zM} {g : Nat → Int} (h : Rel n k m g) (hA : Agree KRel m m1) : Rel n k m1 g := by
  have s1 : m1 17 10 = m 17 10 := hA 17 10 rfl
  have s2 : m1 17 11 = m 17 11 := hA 17 11 rfl
  have s3 : m1 25 2 = m 25 2 := hA 25 2 rfl
  have c19 : m1 19 = m 19 := funext fun j => hA 19 j rfl
  have c20 : m1 20 = m 20 := funext fun j => hA 20 j rfl
  have c21 : m1 21 = m 21 := funext fun j => hA 21 j rfl
  have c22 : m1 22 = m 22 := funext fun j => hA 22 j rfl
  have c23 : m1 23 = m 23 := funext fun j => hA 23 j rfl
  have c26 : m1 26 = m 26 := funext fun j => hA 26 j rfl
  unfold Rel
  rw [s1, s2, s3, c19, c20, c21, c22, c23, c26]
  exact h
theorem Rel.congr {n k : Nat} {m : zM} {g g2 : Nat → Int} (hn : n ≤ 6) (hk : k ≤ 8) (h20 : g 56 ≤ 20) (h : Rel n k m g) (e : ∀ j, j < 59 → g2 j = g j) : Rel n k m g2 := by
  obtain ⟨r1, r2, r3, r4, r5, r6⟩ := h
  refine ⟨fun p hp => ?_, fun c hc => ?_, ?_, fun i hi => ?_, ?_, ?_⟩
  · rw [e p (by omega), e (p + 6) (by omega)]
    exact r1 p hp
  · rw [e (c + 12) (by omega), e (c + 20) (by omega), e (c + 28) (by omega)]
    exact r2 c hc
  · rw [e 56 (by omega)]
    exact r3
  · rw [e 56 (by omega)] at hi
    rw [e (i + 36) (by omega)]
    exact r4 i hi
  · rw [e 57 (by omega)]
    exact r5
  · rw [e 58 (by omega)]
    exact r6
noncomputable def K2 : zLs := KT ++ (KL ++ (KM ++ (KK ++ (KS ++ (KJ ++ KX)))))
noncomputable def K20 : zLs := KT ++ (KL ++ (KM ++ (KK ++ (KS ++ (KJ ++ KX0)))))
theorem Inv_huR {B : Int} {sc : zSc} {n k : Nat} {m M : zM} (hI : Inv B sc n k m) (hz : zB M) (h : Agree K20 m M) (h4 : HouseRel n k M) (h6 : UndoRel B n k M) (hN : M 75 57 ≤ B) (hr : RowP M) : Inv B sc n k M := by
  obtain ⟨i1, i2, i3, i4, i5, i6, i7, i8, i9, i10, i11⟩ := hI
  have sb : ∀ {K : zLs}, (∀ q, q ∈ K → q ∈ K20) → Agree K m M := fun hs => h.sub hs
  have m1' : ∀ {L1 L2 : zLs} {q : Nat × Option Nat}, q ∈ L1 → q ∈ L1 ++ L2 := fun q => List.mem_append.mpr (Or.inl q)
  have m2' : ∀ {L1 L2 : zLs} {q : Nat × Option Nat}, q ∈ L2 → q ∈ L1 ++ L2 := fun q => List.mem_append.mpr (Or.inr q)
  exact ⟨hz, Text_fr (sb (fun q hq => m1' hq)) i2, (sb (fun q hq => m2' (m1' hq))).law.1 i3, h4, Term_fr (sb (fun q hq => m2' (m2' (m1' hq)))) i5, h6, Kept_fr (sb (fun q hq => m2' (m2' (m2' (m1' hq))))) i7, Seen_fr (sb (fun q hq => m2' (m2' (m2' (m2' (m1' hq)))))) i8, Job_fr (sb (fun q hq => m2' (m2' (m2' (m2' (m2' (m1' hq))))))) i9, hN, (funext fun j => h 0 j rfl).trans i11.1, (h 110 0 rfl).trans i11.2.1, fun c hc => (h 103 c rfl).trans (i11.2.2.1 c hc), hr⟩
theorem Inv_hu {B : Int} {sc : zSc} {n k : Nat} {m M : zM} (hI : Inv B sc n k m) (hz : zB M) (h : Agree K2 m M) (h4 : HouseRel n k M) (h6 : UndoRel B n k M) (hN : M 75 57 ≤ B) : Inv B sc n k M := by
  obtain ⟨i1, i2, i3, i4, i5, i6, i7, i8, i9, i10, i11⟩ := hI
  have sb : ∀ {K : zLs}, (∀ q, q ∈ K → q ∈ K2) → Agree K m M := fun hs => h.sub hs
  have m1' : ∀ {L1 L2 : zLs} {q : Nat × Option Nat}, q ∈ L1 → q ∈ L1 ++ L2 := fun q => List.mem_append.mpr (Or.inl q)
  have m2' : ∀ {L1 L2 : zLs} {q : Nat × Option Nat}, q ∈ L2 → q ∈ L1 ++ L2 := fun q => List.mem_append.mpr (Or.inr q)
  exact ⟨hz, Text_fr (sb (fun q hq => m1' hq)) i2, (sb (fun q hq => m2' (m1' hq))).law.1 i3, h4, Term_fr (sb (fun q hq => m2' (m2' (m1' hq)))) i5, h6, Kept_fr (sb (fun q hq => m2' (m2' (m2' (m1' hq))))) i7, Seen_fr (sb (fun q hq => m2' (m2' (m2' (m2' (m1' hq)))))) i8, Job_fr (sb (fun q hq => m2' (m2' (m2' (m2' (m2' (m1' hq))))))) i9, hN, Scr_fr (sb (fun q hq => m2' (m2' (m2' (m2' (m2' (m2' hq))))))) i11⟩
noncomputable def remCL : zLs := [(28, some 4), (28, some 5), (30, none), (31, none), (32, none), (33, none), (34, none), (35, none), (36, none), (37, none), (38, none), (39, none), (40, none), (41, none), (42, none)]
theorem remCL_in {x : Nat} (hx : x < 13) (j : Nat) : inL remCL (30 + x) j = true := by
  match x, hx with
  | 0, _ => rfl
  | 1, _ => rfl
  | 2, _ => rfl
  | 3, _ => rfl
  | 4, _ => rfl
  | 5, _ => rfl
  | 6, _ => rfl
  | 7, _ => rfl
  | 8, _ => rfl
  | 9, _ => rfl
  | 10, _ => rfl
  | 11, _ => rfl
  | 12, _ => rfl
theorem remWL : ∀ c j, remW c j = true → inL [(74, some 35), (87, none)] c j = true := by
  intro c j h
  simp only [remW, Bool.or_eq_true, Bool.and_eq_true] at h
  rcases h with a | ⟨a, b⟩
  · have e1 := Nat.eq_of_beq_eq_true a
    subst e1
    rfl
  · have e1 := Nat.eq_of_beq_eq_true a
    have e2 := Nat.eq_of_beq_eq_true b
    subst e1 e2
    rfl
theorem frsE {m : zM} (hB : zB m) : frs m = ((m 28 4).toNat + (m 28 5).toNat) % 13 := by
  have b4 : 0 ≤ m 28 4 ∧ m 28 4 ≤ 12 := hB 28 4
  have b5 : 0 ≤ m 28 5 ∧ m 28 5 ≤ 12 := hB 28 5
  have h1 := frsB hB
  have h2 := Int.tmod_def (m 28 4 + m 28 5) 13
  unfold frs
  generalize Int.tdiv (m 28 4 + m 28 5) 13 = q at h2
  omega
noncomputable def RemC (m m1 : zM) : Prop := ∃ u s : Nat, m 28 5 = (u : Int) ∧ ((u = 12 ∧ s = 1) ∨ (u < 12 ∧ s = 0)) ∧ m1 28 5 = (u : Int) + 1 - s ∧ (m1 28 4).toNat % 13 = ((m 28 4).toNat + s) % 13 ∧ (∀ x, x < 13 → ¬ x = ((m 28 4).toNat + u) % 13 → m1 (30 + x) = m (30 + x)) ∧ ∀ j, j < 59 → m1 (30 + ((m 28 4).toNat + u) % 13) j = cmom m j
theorem Undo_rem {B : Int} {n k : Nat} {m m1 m3 m4 m5 : zM} (hn : n ≤ 6) (hk : k ≤ 8) (hU : UndoRel B n k m) (hR : Rel n k m (m 75)) (ho : okRow n k (m 75)) (hN : m 75 57 ≤ B) (hC : RemC m m1) (a1 : Agree remCL m1 m5) (a2 : Agree [(74, some 35), (87, none)] m m3) (a3 : Agree [(74, some 35), (87, none)] m4 m5) (hM : Rem m3 m4 (m 75)) : UndoRel B n k m5 := by
  obtain ⟨u, s, c1, c2, c3, c4, c5, c6⟩ := hC
  obtain ⟨u', s', r1, r2, r3, r4, r5⟩ := hM
  have e35 : m3 74 35 = m 74 35 := a2 74 35 rfl
  have eu : u' = u := by have := hU.1; omega
  have es : s' = s := by omega
  subst eu es
  have e285 : m5 28 5 = (u' : Int) + 1 - s' := by rw [a1 28 5 rfl]; exact c3
  have e284 : m5 28 4 = m1 28 4 := a1 28 4 rfl
  refine ⟨by rw [a3 74 35 rfl, r3, e285], fun i hi => ?_⟩
  rw [e285] at hi
  have esl : slt m5 i = ((m 28 4).toNat + s' + i) % 13 := by
    unfold slt
    rw [e284]
    omega
  have hsl : slt m5 i < 13 := by unfold slt; omega
  have e5 : m5 (30 + slt m5 i) = m1 (30 + slt m5 i) := funext fun j => a1 _ j (remCL_in hsl j)
  have e87 : ∀ j, m5 87 (59 * i + j) = m4 87 (59 * i + j) := fun j => a3 87 _ rfl
  have e87b : ∀ j, m3 87 j = m 87 j := fun j => a2 87 j rfl
  by_cases q : i + s' < u'
  · obtain ⟨g1, g2, g3⟩ := hU.2 (i + s') (by omega)
    have esl2 : slt m (i + s') = slt m5 i := by
      rw [esl]
      unfold slt
      omega
    have hne : ¬ slt m5 i = ((m 28 4).toNat + u') % 13 := by rw [esl]; omega
    have erow : ∀ j, j < 59 → m5 87 (59 * i + j) = m 87 (59 * (i + s') + j) := fun j hj => by
      rw [e87, r4 i j hj q, e87b]
    rw [e5, c5 _ hsl hne, ← esl2]
    exact ⟨g1.congr hn hk g2.2.1.2 erow, g2.congr hn hk (fun j hj => erow j (by omega)), by rw [erow 57 (by omega)]; exact g3⟩
  · have ei : i = u' - s' := by omega
    have erow : ∀ j, j < 59 → m5 87 (59 * i + j) = m 75 j := fun j hj => by
      rw [e87, ei]
      exact r5 j hj
    have esl3 : slt m5 i = ((m 28 4).toNat + u') % 13 := by rw [esl]; omega
    rw [e5, esl3]
    exact ⟨(RelM.of hn hk ho.2.1.2 hR c6).congr hn hk ho.2.1.2 erow, ho.congr hn hk (fun j hj => erow j (by omega)), by rw [erow 57 (by omega)]; exact hN⟩
section ZRemW
variable {T : Nat → Nat → zG → (Option zA → zM → Prop) → Prop} {B : Int}
theorem z_remC (hT : zRules T) {D : Nat} {κ : Option zA → zM → Prop} {m : zM} (hB : zB m) (h : ∀ m1, zB m1 → zFr (inL remCL) m m1 → RemC m m1 → κ none m1) : T (D + 3) 173 (0, [(0, zr 1)], [], m) κ := by
  have b4 : 0 ≤ m 28 4 ∧ m 28 4 ≤ 12 := hB 28 4
  have b5 : 0 ≤ m 28 5 ∧ m 28 5 ≤ 12 := hB 28 5
  have hf := frsE hB
  obtain ⟨u, hu⟩ : ∃ u : Nat, m 28 5 = (u : Int) := ⟨(m 28 5).toNat, by omega⟩
  rw [hu, Int.toNat_natCast] at hf
  refine zb173_0 hT hB ?_
  refine z_mark hT hB (fun m1 hB1 hF1 h1 => ?_)
  have hF : zFr (inL remCL) m m1 := hF1.sub (fun c j q => by
    have e := Nat.eq_of_beq_eq_true q
    subst e
    exact remCL_in (by omega) j)
  have g4 : m1 28 4 = m 28 4 := hF1 28 4 (by
    cases hb : rowW (30 + frs m) 28 4 with
    | false => rfl
    | true =>
      have := Nat.eq_of_beq_eq_true hb
      omega)
  have g5 : m1 28 5 = m 28 5 := hF1 28 5 (by
    cases hb : rowW (30 + frs m) 28 5 with
    | false => rfl
    | true =>
      have := Nat.eq_of_beq_eq_true hb
      omega)
  have goff : ∀ x, ¬ x = ((m 28 4).toNat + u) % 13 → m1 (30 + x) = m (30 + x) := fun x hx => funext fun j => hF1 _ j (by
    cases hb : rowW (30 + frs m) (30 + x) j with
    | false => rfl
    | true =>
      have := Nat.eq_of_beq_eq_true hb
      omega)
  rw [hf] at h1
  refine zb173_11 hT rfl hB1 (fun q hz => ?_) (fun q hz => ?_)
  · have h2 := Int.tmod_def (m 28 4 + 1) 13
    have h3 := z_tmodB (m 28 4 + 1) 13 12 (by omega) (by omega) (by omega)
    rw [g4] at hz ⊢
    refine h _ hz (hF.set rfl) ⟨u, 1, hu, by omega, ?_, ?_, fun x hx hne => ?_, fun j hj => ?_⟩
    · rw [zu_off (by omega), g5]
      omega
    · rw [zu_sm rfl]
      generalize Int.tdiv (m 28 4 + 1) 13 = q at h2
      omega
    · rw [zu_ne (by omega)]
      exact goff x hne
    · rw [zu_dn (by omega)]
      exact h1 j hj
  · rw [g5] at hz ⊢
    refine h _ hz (hF.set rfl) ⟨u, 0, hu, by omega, ?_, ?_, fun x hx hne => ?_, fun j hj => ?_⟩
    · rw [zu_sm rfl]
      omega
    · rw [zu_off (by omega), g4]
      rfl
    · rw [zu_ne (by omega)]
      exact goff x hne
    · rw [zu_dn (by omega)]
      exact h1 j hj
theorem w_go (hT : zRules T) {p q : Int} (hp : isI p) (hq : isI q) : Way T 124 232 [(0, zr 1), (1, zi p), (2, zi q)] [(0, zr 74), (1, zi p), (2, zi q)] 4 3 B B True := by
  rintro D m sc ⟨n, k, hI⟩ κ hκ
  have hI0 := hI
  obtain ⟨i1, i2, i3, i4, i5, i6, i7, i8, i9, i10, i11⟩ := hI
  have hB1 : zB (zu m 74 12 0) := zB_u i1 trivial
  have hA12 : Agree coreK m (zu m 74 12 0) := .of (L := [(74, some 12)]) (zFr.refl.set rfl) rfl
  obtain ⟨⟨n1, n2⟩, ⟨k1, k2⟩, hh, hRel, hok⟩ := i4
  have b17 : 0 ≤ m 17 0 ∧ m 17 0 ≤ 6 := i1 17 0
  have b171 : 0 ≤ m 17 1 ∧ m 17 1 ≤ 8 := i1 17 1
  have no : ¬ (0 ≤ p ∧ p < n ∧ 0 ≤ q ∧ q ≤ 3) → κ (some (zi (-1))) m := by
    intro hno
    refine hκ _ _ (fun D2 κ2 h2 => ?_)
    have fin : κ2 (some (zi (-1))) (zu m 74 12 0) := h2 _ _ (fun _ => rfl) ⟨n, k, Inv_fr hA12 hB1 hI0⟩
    exact zb232_0 hT i1 hp hq (fun _ _ => fin) (fun _ _ _ => fin) (fun _ _ _ _ => fin) (fun _ _ _ _ _ => fin) (fun q1 q2 q3 q4 => absurd ⟨by omega, by omega, by omega, by omega⟩ hno)
  refine zb124_0 hT i1 hp hq (fun q1 => no (by omega)) (fun q1 q2 => no (by omega)) (fun q1 q2 q3 => no (by omega)) (fun q1 q2 q3 q4 => no (by omega)) (fun q1 q2 q3 q4 => ?_)
  obtain ⟨a, rfl⟩ : ∃ a : Nat, p = (a : Int) := ⟨p.toNat, by omega⟩
  refine z_remC hT i1 (fun m1 hB2 hF1 hC => ?_)
  refine zb124_24 (p := a) hT rfl hB2 (by omega) (by omega) (fun hz => hκ _ _ (fun D2 κ2 h2 => ?_))
  have e4 : (zu m1 19 a q) 74 4 = (n : Int) := by rw [zu_dn (by omega), hF1 74 4 rfl]; exact n2
  refine zb232_0 hT hz hp hq (fun x => by omega) (fun _ x => by omega) (fun _ _ x => by omega) (fun _ _ _ x => by omega) (fun _ _ _ _ hz2 => ?_)
  generalize hM : (zu (zu m1 19 a q) 74 12 0) = M at hz2 ⊢
  have hFM : zFr (inL (remCL ++ [(19, none), (74, some 12)])) m M := by
    rw [← hM]
    exact ((hF1.sub (inL_sub (by decide))).set rfl).set rfl
  have e75 : M 75 = m 75 := funext fun j => hFM 75 j rfl
  refine z_remR_75 hT hz2 (fun m3 hB3 hF3 hR => ?_)
  rw [e75] at hR
  refine zb232_30 (p := a) hT rfl hB3 (by omega) (by omega) (fun hz4 => ?_)
  have hF3b : zFr (inL [(74, some 35), (87, none)]) M m3 := hF3.sub remWL
  have f75 : m3 75 = m 75 := (funext fun j => hF3b 75 j rfl).trans e75
  have hF : zFr (inL (remCL ++ [(19, none), (74, some 12), (74, some 35), (75, none), (87, none)])) m (zu m3 75 a q) := ((hFM.sub (inL_sub (by decide))).trans (hF3b.sub (inL_sub (by decide)))).set rfl
  refine h2 _ _ (fun _ => ?_) ⟨n, k, ?_⟩
  · have : m1 19 a = m3 75 a := by rw [hF1 19 a rfl, f75]; exact (hRel.1 a (by omega)).1
    rw [this]
  · have a19 : ∀ j, (zu m3 75 a q) 19 j = if j = a then q else m 19 j := fun j => by
      rw [zu_dn (by omega), hF3b 19 j rfl, ← hM, zu_dn (by omega), zu_at, hF1 19 j rfl]
    have a75 : ∀ j, (zu m3 75 a q) 75 j = if j = a then q else m 75 j := fun j => by
      rw [zu_at, f75]
    have hh' : HouseRel n k (zu m3 75 a q) := by
      refine ⟨⟨(hF 17 0 rfl).trans n1, (hF 74 4 rfl).trans n2⟩, ⟨(hF 17 1 rfl).trans k1, (hF 74 6 rfl).trans k2⟩, fun p hp => ?_, ?_, ?_⟩
      · rw [hF 78 p rfl, hF 18 p rfl]
        exact hh p hp
      · obtain ⟨r1, r2, r3, r4, r5, r6⟩ := hRel
        refine ⟨fun p hp => ?_, fun c hc => ?_, ?_, fun i hi => ?_, ?_, ?_⟩
        · obtain ⟨s1, s2⟩ := r1 p hp
          rw [a19, a75, a75, hF 20 p rfl, if_neg (show ¬ p + 6 = a by omega)]
          refine ⟨?_, s2⟩
          split
          · rfl
          · exact s1
        · rw [hF 21 c rfl, hF 22 c rfl, hF 23 c rfl, a75, a75, a75, if_neg (by omega), if_neg (by omega), if_neg (by omega)]
          exact r2 c hc
        · rw [hF 25 2 rfl, a75, if_neg (by omega)]
          exact r3
        · rw [a75, if_neg (by omega)] at hi
          rw [hF 26 i rfl, a75, if_neg (by omega)]
          exact r4 i hi
        · rw [hF 17 11 rfl, a75, if_neg (by omega)]
          exact r5
        · rw [hF 17 10 rfl, a75, if_neg (by omega)]
          exact r6
      · refine ⟨fun p hp => ?_, ?_, ?_, fun c hc => ?_⟩
        · rw [a75, a75, if_neg (show ¬ p + 6 = a by omega)]
          refine ⟨?_, (hok.1 p hp).2⟩
          split
          · omega
          · exact (hok.1 p hp).1
        · rw [a75, if_neg (by omega)]
          exact hok.2.1
        · rw [a75, if_neg (by omega)]
          exact hok.2.2.1
        · rw [a75, if_neg (by omega)]
          exact hok.2.2.2 c hc
    refine Inv_hu hI0 hz4 (.of hF rfl) hh' ?_ (by rw [a75, if_neg (by omega)]; exact i10)
    have a1 : Agree remCL m1 (zu m3 75 a q) := by
      have b1 : zFr (inL [(19, none), (74, some 12)]) m1 M := by
        rw [← hM]
        exact (zFr.refl.set rfl).set rfl
      exact (Agree.of b1 rfl).trans ((Agree.of hF3b rfl).trans (.of (L := [(75, none)]) (zFr.refl.set rfl) rfl))
    exact Undo_rem (by omega) (by omega) i6 hRel hok i10 hC a1 (.of hFM rfl) (.of (L := [(75, none)]) (zFr.refl.set rfl) rfl) hR
end ZRemW
section ZWear
variable {T : Nat → Nat → zG → (Option zA → zM → Prop) → Prop} {B : Int}
theorem wIx_b {f : Nat → Int} {c : Int} : ∀ (j p : Nat), wIx f c p j = -1 ∨ ((p : Int) ≤ wIx f c p j ∧ wIx f c p j < p + j)
  | 0, p => Or.inl rfl
  | j + 1, p => by
    rw [wIx]
    split
    · exact Or.inr ⟨Int.le_refl _, by omega⟩
    · rcases wIx_b (f := f) (c := c) j (p + 1) with h | h
      · exact Or.inl h
      · exact Or.inr ⟨by omega, by omega⟩
/-- what is at fault with wear() -/
noncomputable def wfV (n k : Nat) (g : Nat → Int) (p c : Int) : Int := if ¬ (0 ≤ p ∧ p < n) then -3 else if c = -1 then 0 else if ¬ (0 ≤ c ∧ c < k) then -3 else if wIx g c 0 n = -1 then 0 else if wIx g c 0 n = p then 0 else -2
theorem wfVB {n k : Nat} {g : Nat → Int} {p c : Int} : -3 ≤ wfV n k g p c ∧ wfV n k g p c ≤ 0 := by
  unfold wfV
  repeat' split
  all_goals omega
theorem wfV_0 {n k : Nat} {g : Nat → Int} {p c : Int} (h : wfV n k g p c = 0) : (0 ≤ p ∧ p < n) ∧ (c = -1 ∨ (0 ≤ c ∧ c < k)) := by
  unfold wfV at h
  by_cases q1 : 0 ≤ p ∧ p < n
  · rw [if_neg (fun x => x q1)] at h
    refine ⟨q1, ?_⟩
    by_cases q2 : c = -1
    · exact Or.inl q2
    · rw [if_neg q2] at h
      by_cases q3 : 0 ≤ c ∧ c < k
      · exact Or.inr q3
      · rw [if_pos q3] at h
        omega
  · rw [if_pos q1] at h
    omega
theorem z_wearFault (hT : zRules T) {D : Nat} {κ : Option zA → zM → Prop} {m : zM} {n k : Nat} {p c : Int} (hB : zB m) (hp : isI p) (hc : isI c) (hn : m 17 0 = (n : Int)) (hk : m 17 1 = (k : Int)) (h : κ (some (zi (wfV n k (m 20) p c))) m) : T (D + 3) 30 (0, [(0, zr 17), (1, zi p), (2, zi c)], [], m) κ := by
  have b17 : 0 ≤ m 17 0 ∧ m 17 0 ≤ 6 := hB 17 0
  have b171 : 0 ≤ m 17 1 ∧ m 17 1 ≤ 8 := hB 17 1
  have v3 : ∀ q : ¬ (0 ≤ p ∧ p < n), κ (some (zi (-3))) m := fun q => by
    unfold wfV at h
    rw [if_pos q] at h
    exact h
  refine zb30_0 hT hB hp hc (fun q1 => v3 (by omega)) (fun q1 q2 => v3 (by omega)) (fun q1 q2 q3 => ?_) (fun q1 q2 q3 q4 => ?_) (fun q1 q2 q3 q4 q5 => ?_) (fun q1 q2 q3 q4 q5 => ?_)
  · unfold wfV at h
    rw [if_neg (fun x => x (by omega)), if_pos q3] at h
    exact h
  · unfold wfV at h
    rw [if_neg (fun x => x (by omega)), if_neg q3, if_pos (by omega)] at h
    exact h
  · unfold wfV at h
    rw [if_neg (fun x => x (by omega)), if_neg q3, if_pos (by omega)] at h
    exact h
  · unfold wfV at h
    rw [if_neg (fun x => x (by omega)), if_neg q3, if_neg (fun x => x (by omega))] at h
    refine z_wearerOf (n := n) hT hB (by omega) hn ?_
    obtain ⟨a, rfl⟩ : ∃ a : Nat, p = (a : Int) := ⟨p.toNat, by omega⟩
    have hw := wIx_b (f := m 20) (c := c) n 0
    refine zb30_38 (p := a) hT rfl (by omega) (by omega) (fun x => ?_) (fun x y => ?_) (fun x y => ?_)
    · rw [if_pos x] at h
      exact h
    · rw [if_neg x, if_neg y] at h
      exact h
    · rw [if_neg x, if_pos y] at h
      exact h
theorem z_refusesWear (hT : zRules T) {D : Nat} {κ : Option zA → zM → Prop} {m : zM} {n k : Nat} {p c : Int} (hB : zB m) (hp : isI p) (hc : isI c) (hn : m 74 4 = (n : Int)) (hk : m 74 6 = (k : Int)) (h : κ (some (zi (wfV n k (fun p => m 75 (p + 6)) p c))) m) : T (D + 3) 230 (0, [(0, zr 74), (1, zi p), (2, zi c)], [], m) κ := by
  have b17 : 0 ≤ m 74 4 ∧ m 74 4 ≤ 6 := hB 74 4
  have b171 : 0 ≤ m 74 6 ∧ m 74 6 ≤ 8 := hB 74 6
  have v3 : ∀ q : ¬ (0 ≤ p ∧ p < n), κ (some (zi (-3))) m := fun q => by
    unfold wfV at h
    rw [if_pos q] at h
    exact h
  refine zb230_0 hT hB hp hc (fun q1 => v3 (by omega)) (fun q1 q2 => v3 (by omega)) (fun q1 q2 q3 => ?_) (fun q1 q2 q3 q4 => ?_) (fun q1 q2 q3 q4 q5 => ?_) (fun q1 q2 q3 q4 q5 => ?_)
  · unfold wfV at h
    rw [if_neg (fun x => x (by omega)), if_pos q3] at h
    exact h
  · unfold wfV at h
    rw [if_neg (fun x => x (by omega)), if_neg q3, if_pos (by omega)] at h
    exact h
  · unfold wfV at h
    rw [if_neg (fun x => x (by omega)), if_neg q3, if_pos (by omega)] at h
    exact h
  · unfold wfV at h
    rw [if_neg (fun x => x (by omega)), if_neg q3, if_neg (fun x => x (by omega))] at h
    refine z_wearer (n := n) hT hB (by omega) hn ?_
    obtain ⟨a, rfl⟩ : ∃ a : Nat, p = (a : Int) := ⟨p.toNat, by omega⟩
    have hw := wIx_b (f := fun p => m 75 (p + 6)) (c := c) n 0
    refine zb230_38 (p := a) hT rfl hB (by omega) (by omega) (by omega) (fun x => ?_) (fun x => ?_)
    · rw [if_pos x] at h
      exact h
    · rw [if_neg x] at h
      refine z_wearer (n := n) hT hB (by omega) hn ?_
      refine zb230_51 (p := a) hT rfl (by omega) (by omega) (fun y => ?_) (fun y => ?_)
      · rw [if_pos y] at h
        exact h
      · rw [if_neg y] at h
        exact h
theorem w_wear (hT : zRules T) {p q : Int} (hp : isI p) (hq : isI q) : Way T 123 231 [(0, zr 1), (1, zi p), (2, zi q)] [(0, zr 74), (1, zi p), (2, zi q)] 4 4 B B True := by
  rintro D m sc ⟨n, k, hI⟩ κ hκ
  have hI0 := hI
  obtain ⟨i1, i2, i3, i4, i5, i6, i7, i8, i9, i10, i11⟩ := hI
  have hB1 : zB (zu m 74 12 0) := zB_u i1 trivial
  have hA12 : Agree coreK m (zu m 74 12 0) := .of (L := [(74, some 12)]) (zFr.refl.set rfl) rfl
  obtain ⟨⟨n1, n2⟩, ⟨k1, k2⟩, hh, hRel, hok⟩ := i4
  have b17 : 0 ≤ m 17 0 ∧ m 17 0 ≤ 6 := i1 17 0
  have b171 : 0 ≤ m 17 1 ∧ m 17 1 ≤ 8 := i1 17 1
  have hwv : ∀ M : zM, M 75 = m 75 → wfV n k (fun p => M 75 (p + 6)) p q = wfV n k (m 20) p q := fun M hM => by
    unfold wfV
    rw [wIx_congr n 0 (f := fun p => M 75 (p + 6)) (g := m 20) (fun i _ hi => by rw [hM]; exact (hRel.1 i (by omega)).2.symm)]
  have hvb := wfVB (n := n) (k := k) (g := m 20) (p := p) (c := q)
  refine zb123_0 hT i1 hp hq ?_
  refine z_wearFault hT i1 hp hq n1 k1 ?_
  refine zb123_9 hT rfl i1 hp hq (by omega) (fun h0 => ?_) (fun h0 => ?_)
  · obtain ⟨f1, f2⟩ := wfV_0 h0
    obtain ⟨a, rfl⟩ : ∃ a : Nat, p = (a : Int) := ⟨p.toNat, by omega⟩
    refine z_remC hT i1 (fun m1 hB2 hF1 hC => ?_)
    refine zb123_20 (p := a) hT rfl hB2 (by omega) (by omega) (fun hz => hκ _ _ (fun D2 κ2 h2 => ?_))
    refine zb231_0 hT hz hp hq (fun hz2 => ?_)
    generalize hM : (zu (zu m1 20 a q) 74 12 0) = M at hz2 ⊢
    have hFM : zFr (inL (remCL ++ [(20, none), (74, some 12)])) m M := by
      rw [← hM]
      exact ((hF1.sub (inL_sub (by decide))).set rfl).set rfl
    have e75 : M 75 = m 75 := funext fun j => hFM 75 j rfl
    refine z_refusesWear hT hz2 hp hq ((hFM 74 4 rfl).trans n2) ((hFM 74 6 rfl).trans k2) ?_
    rw [hwv M e75, h0]
    refine zb231_11 (v := 0) hT rfl hz2 hp hq (by omega) (fun _ => ?_) (fun x => by omega)
    refine z_remR_75 hT hz2 (fun m3 hB3 hF3 hR => ?_)
    rw [e75] at hR
    refine zb231_26 (p := a) hT rfl hB3 (by omega) (by omega) (fun hz4 => ?_)
    have hF3b : zFr (inL [(74, some 35), (87, none)]) M m3 := hF3.sub remWL
    have f75 : m3 75 = m 75 := (funext fun j => hF3b 75 j rfl).trans e75
    have hF : zFr (inL (remCL ++ [(20, none), (74, some 12), (74, some 35), (75, none), (87, none)])) m (zu m3 75 (a + 6) q) := ((hFM.sub (inL_sub (by decide))).trans (hF3b.sub (inL_sub (by decide)))).set rfl
    refine h2 _ _ (fun _ => ?_) ⟨n, k, ?_⟩
    · have : m1 20 a = m3 75 (a + 6) := by rw [hF1 20 a rfl, f75]; exact (hRel.1 a (by omega)).2
      rw [this]
    · have a20 : ∀ j, (zu m3 75 (a + 6) q) 20 j = if j = a then q else m 20 j := fun j => by
        rw [zu_dn (by omega), hF3b 20 j rfl, ← hM, zu_dn (by omega), zu_at, hF1 20 j rfl]
      have a75 : ∀ j, (zu m3 75 (a + 6) q) 75 j = if j = a + 6 then q else m 75 j := fun j => by
        rw [zu_at, f75]
      have hh' : HouseRel n k (zu m3 75 (a + 6) q) := by
        refine ⟨⟨(hF 17 0 rfl).trans n1, (hF 74 4 rfl).trans n2⟩, ⟨(hF 17 1 rfl).trans k1, (hF 74 6 rfl).trans k2⟩, fun p hp => ?_, ?_, ?_⟩
        · rw [hF 78 p rfl, hF 18 p rfl]
          exact hh p hp
        · obtain ⟨r1, r2, r3, r4, r5, r6⟩ := hRel
          refine ⟨fun p hp => ?_, fun c hc => ?_, ?_, fun i hi => ?_, ?_, ?_⟩
          · obtain ⟨s1, s2⟩ := r1 p hp
            rw [a20, a75, a75, hF 19 p rfl, if_neg (show ¬ p = a + 6 by omega)]
            refine ⟨s1, ?_⟩
            by_cases e : p = a
            · rw [if_pos e, if_pos (by omega)]
            · rw [if_neg e, if_neg (by omega)]
              exact s2
          · rw [hF 21 c rfl, hF 22 c rfl, hF 23 c rfl, a75, a75, a75, if_neg (by omega), if_neg (by omega), if_neg (by omega)]
            exact r2 c hc
          · rw [hF 25 2 rfl, a75, if_neg (by omega)]
            exact r3
          · rw [a75, if_neg (by omega)] at hi
            rw [hF 26 i rfl, a75, if_neg (by omega)]
            exact r4 i hi
          · rw [hF 17 11 rfl, a75, if_neg (by omega)]
            exact r5
          · rw [hF 17 10 rfl, a75, if_neg (by omega)]
            exact r6
        · refine ⟨fun p hp => ?_, ?_, ?_, fun c hc => ?_⟩
          · rw [a75, a75, if_neg (show ¬ p = a + 6 by omega)]
            refine ⟨(hok.1 p hp).1, ?_⟩
            split
            · omega
            · exact (hok.1 p hp).2
          · rw [a75, if_neg (by omega)]
            exact hok.2.1
          · rw [a75, if_neg (by omega)]
            exact hok.2.2.1
          · rw [a75, if_neg (by omega)]
            exact hok.2.2.2 c hc
      refine Inv_hu hI0 hz4 (.of hF rfl) hh' ?_ (by rw [a75, if_neg (by omega)]; exact i10)
      have a1 : Agree remCL m1 (zu m3 75 (a + 6) q) := by
        have b1 : zFr (inL [(20, none), (74, some 12)]) m1 M := by
          rw [← hM]
          exact (zFr.refl.set rfl).set rfl
        exact (Agree.of b1 rfl).trans ((Agree.of hF3b rfl).trans (.of (L := [(75, none)]) (zFr.refl.set rfl) rfl))
      exact Undo_rem (by omega) (by omega) i6 hRel hok i10 hC a1 (.of hFM rfl) (.of (L := [(75, none)]) (zFr.refl.set rfl) rfl) hR
  · refine hκ _ _ (fun D2 κ2 h2 => ?_)
    refine zb231_0 hT i1 hp hq (fun hz2 => ?_)
    refine z_refusesWear hT hz2 hp hq n2 k2 ?_
    rw [hwv (zu m 74 12 0) (zu_dnR (by omega))]
    refine zb231_11 hT rfl hz2 hp hq (by omega) (fun x => by omega) (fun _ => ?_)
    exact h2 _ _ (fun _ => rfl) ⟨n, k, Inv_fr hA12 hz2 hI0⟩
end ZWear
