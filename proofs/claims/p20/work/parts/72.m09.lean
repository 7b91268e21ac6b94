-- 72.rem.lean.txt
section
/-! What is remembered by both; one goes, one wears. -/
theorem RelM.congr {n k : Nat} {r g g2 : Nat → Int} (hn : n ≤ 6) (hk : k ≤ 8) (h20 : g 56 ≤ 20) (h : RelM n k r g) (e : ∀ j, j < 59 → g2 j = g j) : RelM n k r g2 := by
  obtain ⟨r1, r2, r3, r4, r5, r6⟩ := h
  refine ⟨fun p hp => ?_, fun c hc => ?_, ?_, fun i hi => ?_, ?_, ?_⟩
  · rw [e p (by omega), e (p + 6) (by omega)]
    exact r1 p hp
  · rw [e (c + 12) (by omega), e (c + 20) (by omega), e (c + 28) (by omega)]
    exact r2 c hc
  · rw [e 56 (by omega)]
    exact r3
  · rw [e 56 (by omega)] at hi
    rw [e (i + 36) (by omega)]
    exact r4 i hi
  · rw [e 57 (by omega)]
    exact r5
  · rw [e 58 (by omega)]
    exact r6
theorem okRow.congr {n k : Nat} {g g2 : Nat → Int} (hn : n ≤ 6) (hk : k ≤ 8) (h : okRow n k g) (e : ∀ j, j < 58 → g2 j = g j) : okRow n k g2 := by
  obtain ⟨r1, r2, r3, r4⟩ := h
  refine ⟨fun p hp => ?_, ?_, ?_, fun c hc => ?_⟩
  · rw [e p (by omega), e (p + 6) (by omega)]
    exact r1 p hp
  · rw [e 56 (by omega)]
    exact r2
  · rw [e 57 (by omega)]
    exact r3
  · rw [e (c + 20) (by omega)]
    exact r4 c hc
noncomputable def KRel : zLs := [(17, some 10), (17, some 11), (19, none), (20, none), (21, none), (22, none), (23, none), (25, some 2), (26, none)]
theorem Rel.fr {n k : Nat} {m m1 : zM} {g : Nat → Int} (h : Rel n k m g) (hA : Agree KRel m m1) : Rel n k m1 g := by
  have s1 : m1 17 10 = m 17 10 := hA 17 10 rfl
  have s2 : m1 17 11 = m 17 11 := hA 17 11 rfl
  have s3 : m1 25 2 = m 25 2 := hA 25 2 rfl
  have c19 : m1 19 = m 19 := funext fun j => hA 19 j rfl
  have c20 : m1 20 = m 20 := funext fun j => hA 20 j rfl
  have c21 : m1 21 = m 21 := funext fun j => hA 21 j rfl
  have c22 : m1 22 = m 22 := funext fun j => hA 22 j rfl
  have c23 : m1 23 = m 23 := funext fun j => hA 23 j rfl
  have c26 : m1 26 = m 26 := funext fun j => hA 26 j rfl
  unfold Rel
  rw [s1, s2, s3, c19, c20, c21, c22, c23, c26]
  exact h
theorem Rel.congr {n k : Nat} {m : zM} {g g2 : Nat → Int} (hn : n ≤ 6) (hk : k ≤ 8) (h20 : g 56 ≤ 20) (h : Rel n k m g) (e : ∀ j, j < 59 → g2 j = g j) : Rel n k m g2 := by
  obtain ⟨r1, r2, r3, r4, r5, r6⟩ := h
  refine ⟨fun p hp => ?_, fun c hc => ?_, ?_, fun i hi => ?_, ?_, ?_⟩
  · rw [e p (by omega), e (p + 6) (by omega)]
    exact r1 p hp
  · rw [e (c + 12) (by omega), e (c + 20) (by omega), e (c + 28) (by omega)]
    exact r2 c hc
  · rw [e 56 (by omega)]
    exact r3
  · rw [e 56 (by omega)] at hi
    rw [e (i + 36) (by omega)]
    exact r4 i hi
  · rw [e 57 (by omega)]
    exact r5
  · rw [e 58 (by omega)]
    exact r6
noncomputable def K2 : zLs := KT ++ (KL ++ (KM ++ (KK ++ (KS ++ (KJ ++ KX)))))
theorem Inv_hu {B : Int} {sc : zSc} {n k : Nat} {m M : zM} (hI : Inv B sc n k m) (hz : zB M) (h : Agree K2 m M) (h4 : HouseRel n k M) (h6 : UndoRel B n k M) (hN : M 75 57 ≤ B) : Inv B sc n k M := by
  obtain ⟨i1, i2, i3, i4, i5, i6, i7, i8, i9, i10, i11⟩ := hI
  have sb : ∀ {K : zLs}, (∀ q, q ∈ K → q ∈ K2) → Agree K m M := fun hs => h.sub hs
  have m1' : ∀ {L1 L2 : zLs} {q : Nat × Option Nat}, q ∈ L1 → q ∈ L1 ++ L2 := fun q => List.mem_append.mpr (Or.inl q)
  have m2' : ∀ {L1 L2 : zLs} {q : Nat × Option Nat}, q ∈ L2 → q ∈ L1 ++ L2 := fun q => List.mem_append.mpr (Or.inr q)
  exact ⟨hz, Text_fr (sb (fun q hq => m1' hq)) i2, (sb (fun q hq => m2' (m1' hq))).law.1 i3, h4, Term_fr (sb (fun q hq => m2' (m2' (m1' hq)))) i5, h6, Kept_fr (sb (fun q hq => m2' (m2' (m2' (m1' hq))))) i7, Seen_fr (sb (fun q hq => m2' (m2' (m2' (m2' (m1' hq)))))) i8, Job_fr (sb (fun q hq => m2' (m2' (m2' (m2' (m2' (m1' hq))))))) i9, hN, Scr_fr (sb (fun q hq => m2' (m2' (m2' (m2' (m2' (m2' hq))))))) i11⟩
noncomputable def remCL : zLs := [(28, some 4), (28, some 5), (30, none), (31, none), (32, none), (33, none), (34, none), (35, none), (36, none), (37, none), (38, none), (39, none), (40, none), (41, none), (42, none)]
theorem remCL_in {x : Nat} (hx : x < 13) (j : Nat) : inL remCL (30 + x) j = true := by
  match x, hx with
  | 0, _ => rfl
  | 1, _ => rfl
  | 2, _ => rfl
  | 3, _ => rfl
  | 4, _ => rfl
  | 5, _ => rfl
  | 6, _ => rfl
  | 7, _ => rfl
  | 8, _ => rfl
  | 9, _ => rfl
  | 10, _ => rfl
  | 11, _ => rfl
  | 12, _ => rfl
theorem remWL : ∀ c j, remW c j = true → inL [(74, some 35), (87, none)] c j = true := by
  intro c j h
  simp only [remW, Bool.or_eq_true, Bool.and_eq_true] at h
  rcases h with a | ⟨a, b⟩
  · have e1 := Nat.eq_of_beq_eq_true a
    subst e1
    rfl
  · have e1 := Nat.eq_of_beq_eq_true a
    have e2 := Nat.eq_of_beq_eq_true b
    subst e1 e2
    rfl
theorem frsE {m : zM} (hB : zB m) : frs m = ((m 28 4).toNat + (m 28 5).toNat) % 13 := by
  have b4 : 0 ≤ m 28 4 ∧ m 28 4 ≤ 12 := hB 28 4
  have b5 : 0 ≤ m 28 5 ∧ m 28 5 ≤ 12 := hB 28 5
  have h1 := frsB hB
  have h2 := Int.tmod_def (m 28 4 + m 28 5) 13
  unfold frs
  generalize Int.tdiv (m 28 4 + m 28 5) 13 = q at h2
  omega
noncomputable def RemC (m m1 : zM) : Prop := ∃ u s : Nat, m 28 5 = (u : Int) ∧ ((u = 12 ∧ s = 1) ∨ (u < 12 ∧ s = 0)) ∧ m1 28 5 = (u : Int) + 1 - s ∧ (m1 28 4).toNat % 13 = ((m 28 4).toNat + s) % 13 ∧ (∀ x, x < 13 → ¬ x = ((m 28 4).toNat + u) % 13 → m1 (30 + x) = m (30 + x)) ∧ ∀ j, j < 59 → m1 (30 + ((m 28 4).toNat + u) % 13) j = cmom m j
theorem Undo_rem {B : Int} {n k : Nat} {m m1 m3 m4 m5 : zM} (hn : n ≤ 6) (hk : k ≤ 8) (hU : UndoRel B n k m) (hR : Rel n k m (m 75)) (ho : okRow n k (m 75)) (hN : m 75 57 ≤ B) (hC : RemC m m1) (a1 : Agree remCL m1 m5) (a2 : Agree [(74, some 35), (87, none)] m m3) (a3 : Agree [(74, some 35), (87, none)] m4 m5) (hM : Rem m3 m4 (m 75)) : UndoRel B n k m5 := by
  obtain ⟨u, s, c1, c2, c3, c4, c5, c6⟩ := hC
  obtain ⟨u', s', r1, r2, r3, r4, r5⟩ := hM
  have e35 : m3 74 35 = m 74 35 := a2 74 35 rfl
  have eu : u' = u := by have := hU.1; omega
  have es : s' = s := by omega
  subst eu es
  have e285 : m5 28 5 = (u' : Int) + 1 - s' := by rw [a1 28 5 rfl]; exact c3
  have e284 : m5 28 4 = m1 28 4 := a1 28 4 rfl
  refine ⟨by rw [a3 74 35 rfl, r3, e285], fun i hi => ?_⟩
  rw [e285] at hi
  have esl : slt m5 i = ((m 28 4).toNat + s' + i) % 13 := by
    unfold slt
    rw [e284]
    omega
  have hsl : slt m5 i < 13 := by unfold slt; omega
  have e5 : m5 (30 + slt m5 i) = m1 (30 + slt m5 i) := funext fun j => a1 _ j (remCL_in hsl j)
  have e87 : ∀ j, m5 87 (59 * i + j) = m4 87 (59 * i + j) := fun j => a3 87 _ rfl
  have e87b : ∀ j, m3 87 j = m 87 j := fun j => a2 87 j rfl
  by_cases q : i + s' < u'
  · obtain ⟨g1, g2, g3⟩ := hU.2 (i + s') (by omega)
    have esl2 : slt m (i + s') = slt m5 i := by
      rw [esl]
      unfold slt
      omega
    have hne : ¬ slt m5 i = ((m 28 4).toNat + u') % 13 := by rw [esl]; omega
    have erow : ∀ j, j < 59 → m5 87 (59 * i + j) = m 87 (59 * (i + s') + j) := fun j hj => by
      rw [e87, r4 i j hj q, e87b]
    rw [e5, c5 _ hsl hne, ← esl2]
    exact ⟨g1.congr hn hk g2.2.1.2 erow, g2.congr hn hk (fun j hj => erow j (by omega)), by rw [erow 57 (by omega)]; exact g3⟩
  · have ei : i = u' - s' := by omega
    have erow : ∀ j, j < 59 → m5 87 (59 * i + j) = m 75 j := fun j hj => by
      rw [e87, ei]
      exact r5 j hj
    have esl3 : slt m5 i = ((m 28 4).toNat + u') % 13 := by rw [esl]; omega
    rw [e5, esl3]
    exact ⟨(RelM.of hn hk ho.2.1.2 hR c6).congr hn hk ho.2.1.2 erow, ho.congr hn hk (fun j hj => erow j (by omega)), by rw [erow 57 (by omega)]; exact hN⟩
section ZRemW
variable {T : Nat → Nat → zG → (Option zA → zM → Prop) → Prop} {B : Int}
theorem z_remC (hT : zRules T) {D : Nat} {κ : Option zA → zM → Prop} {m : zM} (hB : zB m) (h : ∀ m1, zB m1 → zFr (inL remCL) m m1 → RemC m m1 → κ none m1) : T (D + 3) 173 (0, [(0, zr 1)], [], m) κ := by
  have b4 : 0 ≤ m 28 4 ∧ m 28 4 ≤ 12 := hB 28 4
  have b5 : 0 ≤ m 28 5 ∧ m 28 5 ≤ 12 := hB 28 5
  have hf := frsE hB
  obtain ⟨u, hu⟩ : ∃ u : Nat, m 28 5 = (u : Int) := ⟨(m 28 5).toNat, by omega⟩
  rw [hu, Int.toNat_natCast] at hf
  refine zb173_0 hT hB ?_
  refine z_mark hT hB (fun m1 hB1 hF1 h1 => ?_)
  have hF : zFr (inL remCL) m m1 := hF1.sub (fun c j q => by
    have e := Nat.eq_of_beq_eq_true q
    subst e
    exact remCL_in (by omega) j)
  have g4 : m1 28 4 = m 28 4 := hF1 28 4 (by
    cases hb : rowW (30 + frs m) 28 4 with
    | false => rfl
    | true =>
      have := Nat.eq_of_beq_eq_true hb
      omega)
  have g5 : m1 28 5 = m 28 5 := hF1 28 5 (by
    cases hb : rowW (30 + frs m) 28 5 with
    | false => rfl
    | true =>
      have := Nat.eq_of_beq_eq_true hb
      omega)
  have goff : ∀ x, ¬ x = ((m 28 4).toNat + u) % 13 → m1 (30 + x) = m (30 + x) := fun x hx => funext fun j => hF1 _ j (by
    cases hb : rowW (30 + frs m) (30 + x) j with
    | false => rfl
    | true =>
      have := Nat.eq_of_beq_eq_true hb
      omega)
  rw [hf] at h1
  refine zb173_11 hT rfl hB1 (fun q hz => ?_) (fun q hz => ?_)
  · have h2 := Int.tmod_def (m 28 4 + 1) 13
    have h3 := z_tmodB (m 28 4 + 1) 13 12 (by omega) (by omega) (by omega)
    rw [g4] at hz ⊢
    refine h _ hz (hF.set rfl) ⟨u, 1, hu, by omega, ?_, ?_, fun x hx hne => ?_, fun j hj => ?_⟩
    · rw [zu_off (by omega), g5]
      omega
    · rw [zu_sm rfl]
      generalize Int.tdiv (m 28 4 + 1) 13 = q at h2
      omega
    · rw [zu_ne (by omega)]
      exact goff x hne
    · rw [zu_dn (by omega)]
      exact h1 j hj
  · rw [g5] at hz ⊢
    refine h _ hz (hF.set rfl) ⟨u, 0, hu, by omega, ?_, ?_, fun x hx hne => ?_, fun j hj => ?_⟩
    · rw [zu_sm rfl]
      omega
    · rw [zu_off (by omega), g4]
      rfl
    · rw [zu_ne (by omega)]
      exact goff x hne
    · rw [zu_dn (by omega)]
      exact h1 j hj
theorem w_go (hT : zRules T) {p q : Int} (hp : isI p) (hq : isI q) : Way T 124 232 [(0, zr 1), (1, zi p), (2, zi q)] [(0, zr 74), (1, zi p), (2, zi q)] 4 3 B B True := by
  rintro D m sc ⟨n, k, hI⟩ κ hκ
  have hI0 := hI
  obtain ⟨i1, i2, i3, i4, i5, i6, i7, i8, i9, i10, i11⟩ := hI
  have hB1 : zB (zu m 74 12 0) := zB_u i1 trivial
  have hA12 : Agree coreK m (zu m 74 12 0) := .of (L := [(74, some 12)]) (zFr.refl.set rfl) rfl
  obtain ⟨⟨n1, n2⟩, ⟨k1, k2⟩, hh, hRel, hok⟩ := i4
  have b17 : 0 ≤ m 17 0 ∧ m 17 0 ≤ 6 := i1 17 0
  have b171 : 0 ≤ m 17 1 ∧ m 17 1 ≤ 8 := i1 17 1
  have no : ¬ (0 ≤ p ∧ p < n ∧ 0 ≤ q ∧ q ≤ 3) → κ (some (zi (-1))) m := by
    intro hno
    refine hκ _ _ (fun D2 κ2 h2 => ?_)
    have fin : κ2 (some (zi (-1))) (zu m 74 12 0) := h2 _ _ (fun _ => rfl) ⟨n, k, Inv_fr hA12 hB1 hI0⟩
    exact zb232_0 hT i1 hp hq (fun _ _ => fin) (fun _ _ _ => fin) (fun _ _ _ _ => fin) (fun _ _ _ _ _ => fin) (fun q1 q2 q3 q4 => absurd ⟨by omega, by omega, by omega, by omega⟩ hno)
  refine zb124_0 hT i1 hp hq (fun q1 => no (by omega)) (fun q1 q2 => no (by omega)) (fun q1 q2 q3 => no (by omega)) (fun q1 q2 q3 q4 => no (by omega)) (fun q1 q2 q3 q4 => ?_)
  obtain ⟨a, rfl⟩ : ∃ a : Nat, p = (a : Int) := ⟨p.toNat, by omega⟩
  refine z_remC hT i1 (fun m1 hB2 hF1 hC => ?_)
  refine zb124_24 (p := a) hT rfl hB2 (by omega) (by omega) (fun hz => hκ _ _ (fun D2 κ2 h2 => ?_))
  have e4 : (zu m1 19 a q) 74 4 = (n : Int) := by rw [zu_dn (by omega), hF1 74 4 rfl]; exact n2
  refine zb232_0 hT hz hp hq (fun x => by omega) (fun _ x => by omega) (fun _ _ x => by omega) (fun _ _ _ x => by omega) (fun _ _ _ _ hz2 => ?_)
  generalize hM : (zu (zu m1 19 a q) 74 12 0) = M at hz2 ⊢
  have hFM : zFr (inL (remCL ++ [(19, none), (74, some 12)])) m M := by
    rw [← hM]
    exact ((hF1.sub (inL_sub (by decide))).set rfl).set rfl
  have e75 : M 75 = m 75 := funext fun j => hFM 75 j rfl
  refine z_remR_75 hT hz2 (fun m3 hB3 hF3 hR => ?_)
  rw [e75] at hR
  refine zb232_30 (p := a) hT rfl hB3 (by omega) (by omega) (fun hz4 => ?_)
  have hF3b : zFr (inL [(74, some 35), (87, none)]) M m3 := hF3.sub remWL
  have f75 : m3 75 = m 75 := (funext fun j => hF3b 75 j rfl).trans e75
  have hF : zFr (inL (remCL ++ [(19, none), (74, some 12), (74, some 35), (75, none), (87, none)])) m (zu m3 75 a q) := ((hFM.sub (inL_sub (by decide))).trans (hF3b.sub (inL_sub (by decide)))).set rfl
  refine h2 _ _ (fun _ => ?_) ⟨n, k, ?_⟩
  · have : m1 19 a = m3 75 a := by rw [hF1 19 a rfl, f75]; exact (hRel.1 a (by omega)).1
    rw [this]
  · have a19 : ∀ j, (zu m3 75 a q) 19 j = if j = a then q else m 19 j := fun j => by
      rw [zu_dn (by omega), hF3b 19 j rfl, ← hM, zu_dn (by omega), zu_at, hF1 19 j rfl]
    have a75 : ∀ j, (zu m3 75 a q) 75 j = if j = a then q else m 75 j := fun j => by
      rw [zu_at, f75]
    have hh' : HouseRel n k (zu m3 75 a q) := by
      refine ⟨⟨(hF 17 0 rfl).trans n1, (hF 74 4 rfl).trans n2⟩, ⟨(hF 17 1 rfl).trans k1, (hF 74 6 rfl).trans k2⟩, fun p hp => ?_, ?_, ?_⟩
      · rw [hF 78 p rfl, hF 18 p rfl]
        exact hh p hp
      · obtain ⟨r1, r2, r3, r4, r5, r6⟩ := hRel
        refine ⟨fun p hp => ?_, fun c hc => ?_, ?_, fun i hi => ?_, ?_, ?_⟩
        · obtain ⟨s1, s2⟩ := r1 p hp
          rw [a19, a75, a75, hF 20 p rfl, if_neg (show ¬ p + 6 = a by omega)]
          refine ⟨?_, s2⟩
          split
          · rfl
          · exact s1
        · rw [hF 21 c rfl, hF 22 c rfl, hF 23 c rfl, a75, a75, a75, if_neg (by omega), if_neg (by omega), if_neg (by omega)]
          exact r2 c hc
        · rw [hF 25 2 rfl, a75, if_neg (by omega)]
          exact r3
        · rw [a75, if_neg (by omega)] at hi
          rw [hF 26 i rfl, a75, if_neg (by omega)]
          exact r4 i hi
        · rw [hF 17 11 rfl, a75, if_neg (by omega)]
          exact r5
        · rw [hF 17 10 rfl, a75, if_neg (by omega)]
          exact r6
      · refine ⟨fun p hp => ?_, ?_, ?_, fun c hc => ?_⟩
        · rw [a75, a75, if_neg (show ¬ p + 6 = a by omega)]
          refine ⟨?_, (hok.1 p hp).2⟩
          split
          · omega
          · exact (hok.1 p hp).1
        · rw [a75, if_neg (by omega)]
          exact hok.2.1
        · rw [a75, if_neg (by omega)]
          exact hok.2.2.1
        · rw [a75, if_neg (by omega)]
          exact hok.2.2.2 c hc
    refine Inv_hu hI0 hz4 (.of hF rfl) hh' ?_ (by rw [a75, if_neg (by omega)]; exact i10)
    have a1 : Agree remCL m1 (zu m3 75 a q) := by
      have b1 : zFr (inL [(19, none), (74, some 12)]) m1 M := by
        rw [← hM]
        exact (zFr.refl.set rfl).set rfl
      exact (Agree.of b1 rfl).trans ((Agree.of hF3b rfl).trans (.of (L := [(75, none)]) (zFr.refl.set rfl) rfl))
    exact Undo_rem (by omega) (by omega) i6 hRel hok i10 hC a1 (.of hFM rfl) (.of (L := [(75, none)]) (zFr.refl.set rfl) rfl) hR
end ZRemW
section ZWear
variable {T : Nat → Nat → zG → (Option zA → zM → Prop) → Prop} {B : Int}
theorem wIx_b {f : Nat → Int} {c : Int} : ∀ (j p : Nat), wIx f c p j = -1 ∨ ((p : Int) ≤ wIx f c p j ∧ wIx f c p j < p + j)
  | 0, p => Or.inl rfl
  | j + 1, p => by
    rw [wIx]
    split
    · exact Or.inr ⟨Int.le_refl _, by omega⟩
    · rcases wIx_b (f := f) (c := c) j (p + 1) with h | h
      · exact Or.inl h
      · exact Or.inr ⟨by omega, by omega⟩
/-- what is at fault with wear() -/
noncomputable def wfV (n k : Nat) (g : Nat → Int) (p c : Int) : Int := if ¬ (0 ≤ p ∧ p < n) then -3 else if c = -1 then 0 else if ¬ (0 ≤ c ∧ c < k) then -3 else if wIx g c 0 n = -1 then 0 else if wIx g c 0 n = p then 0 else -2
theorem wfVB {n k : Nat} {g : Nat → Int} {p c : Int} : -3 ≤ wfV n k g p c ∧ wfV n k g p c ≤ 0 := by
  unfold wfV
  repeat' split
  all_goals omega
theorem wfV_0 {n k : Nat} {g : Nat → Int} {p c : Int} (h : wfV n k g p c = 0) : (0 ≤ p ∧ p < n) ∧ (c = -1 ∨ (0 ≤ c ∧ c < k)) := by
  unfold wfV at h
  by_cases q1 : 0 ≤ p ∧ p < n
  · rw [if_neg (fun x => x q1)] at h
    refine ⟨q1, ?_⟩
    by_cases q2 : c = -1
    · exact Or.inl q2
    · rw [if_neg q2] at h
      by_cases q3 : 0 ≤ c ∧ c < k
      · exact Or.inr q3
      · rw [if_pos q3] at h
        omega
  · rw [if_pos q1] at h
    omega
theorem z_wearFault (hT : zRules T) {D : Nat} {κ : Option zA → zM → Prop} {m : zM} {n k : Nat} {p c : Int} (hB : zB m) (hp : isI p) (hc : isI c) (hn : m 17 0 = (n : Int)) (hk : m 17 1 = (k : Int)) (h : κ (some (zi (wfV n k (m 20) p c))) m) : T (D + 3) 30 (0, [(0, zr 17), (1, zi p), (2, zi c)], [], m) κ := by
  have b17 : 0 ≤ m 17 0 ∧ m 17 0 ≤ 6 := hB 17 0
  have b171 : 0 ≤ m 17 1 ∧ m 17 1 ≤ 8 := hB 17 1
  have v3 : ∀ q : ¬ (0 ≤ p ∧ p < n), κ (some (zi (-3))) m := fun q => by
    unfold wfV at h
    rw [if_pos q] at h
    exact h
  refine zb30_0 hT hB hp hc (fun q1 => v3 (by omega)) (fun q1 q2 => v3 (by omega)) (fun q1 q2 q3 => ?_) (fun q1 q2 q3 q4 => ?_) (fun q1 q2 q3 q4 q5 => ?_) (fun q1 q2 q3 q4 q5 => ?_)
  · unfold wfV at h
    rw [if_neg (fun x => x (by omega)), if_pos q3] at h
    exact h
  · unfold wfV at h
    rw [if_neg (fun x => x (by omega)), if_neg q3, if_pos (by omega)] at h
    exact h
  · unfold wfV at h
    rw [if_neg (fun x => x (by omega)), if_neg q3, if_pos (by omega)] at h
    exact h
  · unfold wfV at h
    rw [if_neg (fun x => x (by omega)), if_neg q3, if_neg (fun x => x (by omega))] at h
    refine z_wearerOf (n := n) hT hB (by omega) hn ?_
    obtain ⟨a, rfl⟩ : ∃ a : Nat, p = (a : Int) := ⟨p.toNat, by omega⟩
    have hw := wIx_b (f := m 20) (c := c) n 0
    refine zb30_38 (p := a) hT rfl (by omega) (by omega) (fun x => ?_) (fun x y => ?_) (fun x y => ?_)
    · rw [if_pos x] at h
      exact h
    · rw [if_neg x, if_neg y] at h
      exact h
    · rw [if_neg x, if_pos y] at h
      exact h
theorem z_refusesWear (hT : zRules T) {D : Nat} {κ : Option zA → zM → Prop} {m : zM} {n k : Nat} {p c : Int} (hB : zB m) (hp : isI p) (hc : isI c) (hn : m 74 4 = (n : Int)) (hk : m 74 6 = (k : Int)) (h : κ (some (zi (wfV n k (fun p => m 75 (p + 6)) p c))) m) : T (D + 3) 230 (0, [(0, zr 74), (1, zi p), (2, zi c)], [], m) κ := by
  have b17 : 0 ≤ m 74 4 ∧ m 74 4 ≤ 6 := hB 74 4
  have b171 : 0 ≤ m 74 6 ∧ m 74 6 ≤ 8 := hB 74 6
  have v3 : ∀ q : ¬ (0 ≤ p ∧ p < n), κ (some (zi (-3))) m := fun q => by
    unfold wfV at h
    rw [if_pos q] at h
    exact h
  refine zb230_0 hT hB hp hc (fun q1 => v3 (by omega)) (fun q1 q2 => v3 (by omega)) (fun q1 q2 q3 => ?_) (fun q1 q2 q3 q4 => ?_) (fun q1 q2 q3 q4 q5 => ?_) (fun q1 q2 q3 q4 q5 => ?_)
  · unfold wfV at h
    rw [if_neg (fun x => x (by omega)), if_pos q3] at h
    exact h
  · unfold wfV at h
    rw [if_neg (fun x => x (by omega)), if_neg q3, if_pos (by omega)] at h
    exact h
  · unfold wfV at h
    rw [if_neg (fun x => x (by omega)), if_neg q3, if_pos (by omega)] at h
    exact h
  · unfold wfV at h
    rw [if_neg (fun x => x (by omega)), if_neg q3, if_neg (fun x => x (by omega))] at h
    refine z_wearer (n := n) hT hB (by omega) hn ?_
    obtain ⟨a, rfl⟩ : ∃ a : Nat, p = (a : Int) := ⟨p.toNat, by omega⟩
    have hw := wIx_b (f := fun p => m 75 (p + 6)) (c := c) n 0
    refine zb230_38 (p := a) hT rfl hB (by omega) (by omega) (by omega) (fun x => ?_) (fun x => ?_)
    · rw [if_pos x] at h
      exact h
    · rw [if_neg x] at h
      refine z_wearer (n := n) hT hB (by omega) hn ?_
      refine zb230_51 (p := a) hT rfl (by omega) (by omega) (fun y => ?_) (fun y => ?_)
      · rw [if_pos y] at h
        exact h
      · rw [if_neg y] at h
        exact h
theorem w_wear (hT : zRules T) {p q : Int} (hp : isI p) (hq : isI q) : Way T 123 231 [(0, zr 1), (1, zi p), (2, zi q)] [(0, zr 74), (1, zi p), (2, zi q)] 4 4 B B True := by
  rintro D m sc ⟨n, k, hI⟩ κ hκ
  have hI0 := hI
  obtain ⟨i1, i2, i3, i4, i5, i6, i7, i8, i9, i10, i11⟩ := hI
  have hB1 : zB (zu m 74 12 0) := zB_u i1 trivial
  have hA12 : Agree coreK m (zu m 74 12 0) := .of (L := [(74, some 12)]) (zFr.refl.set rfl) rfl
  obtain ⟨⟨n1, n2⟩, ⟨k1, k2⟩, hh, hRel, hok⟩ := i4
  have b17 : 0 ≤ m 17 0 ∧ m 17 0 ≤ 6 := i1 17 0
  have b171 : 0 ≤ m 17 1 ∧ m 17 1 ≤ 8 := i1 17 1
  have hwv : ∀ M : zM, M 75 = m 75 → wfV n k (fun p => M 75 (p + 6)) p q = wfV n k (m 20) p q := fun M hM => by
    unfold wfV
    rw [wIx_congr n 0 (f := fun p => M 75 (p + 6)) (g := m 20) (fun i _ hi => by rw [hM]; exact (hRel.1 i (by omega)).2.symm)]
  have hvb := wfVB (n := n) (k := k) (g := m 20) (p := p) (c := q)
  refine zb123_0 hT i1 hp hq ?_
  refine z_wearFault hT i1 hp hq n1 k1 ?_
  refine zb123_9 hT rfl i1 hp hq (by omega) (fun h0 => ?_) (fun h0 => ?_)
  · obtain ⟨f1, f2⟩ := wfV_0 h0
    obtain ⟨a, rfl⟩ : ∃ a : Nat, p = (a : Int) := ⟨p.toNat, by omega⟩
    refine z_remC hT i1 (fun m1 hB2 hF1 hC => ?_)
    refine zb123_20 (p := a) hT rfl hB2 (by omega) (by omega) (fun hz => hκ _ _ (fun D2 κ2 h2 => ?_))
    refine zb231_0 hT hz hp hq (fun hz2 => ?_)
    generalize hM : (zu (zu m1 20 a q) 74 12 0) = M at hz2 ⊢
    have hFM : zFr (inL (remCL ++ [(20, none), (74, some 12)])) m M := by
      rw [← hM]
      exact ((hF1.sub (inL_sub (by decide))).set rfl).set rfl
    have e75 : M 75 = m 75 := funext fun j => hFM 75 j rfl
    refine z_refusesWear hT hz2 hp hq ((hFM 74 4 rfl).trans n2) ((hFM 74 6 rfl).trans k2) ?_
    rw [hwv M e75, h0]
    refine zb231_11 (v := 0) hT rfl hz2 hp hq (by omega) (fun _ => ?_) (fun x => by omega)
    refine z_remR_75 hT hz2 (fun m3 hB3 hF3 hR => ?_)
    rw [e75] at hR
    refine zb231_26 (p := a) hT rfl hB3 (by omega) (by omega) (fun hz4 => ?_)
    have hF3b : zFr (inL [(74, some 35), (87, none)]) M m3 := hF3.sub remWL
    have f75 : m3 75 = m 75 := (funext fun j => hF3b 75 j rfl).trans e75
    have hF : zFr (inL (remCL ++ [(20, none), (74, some 12), (74, some 35), (75, none), (87, none)])) m (zu m3 75 (a + 6) q) := ((hFM.sub (inL_sub (by decide))).trans (hF3b.sub (inL_sub (by decide)))).set rfl
    refine h2 _ _ (fun _ => ?_) ⟨n, k, ?_⟩
    · have : m1 20 a = m3 75 (a + 6) := by rw [hF1 20 a rfl, f75]; exact (hRel.1 a (by omega)).2
      rw [this]
    · have a20 : ∀ j, (zu m3 75 (a + 6) q) 20 j = if j = a then q else m 20 j := fun j => by
        rw [zu_dn (by omega), hF3b 20 j rfl, ← hM, zu_dn (by omega), zu_at, hF1 20 j rfl]
      have a75 : ∀ j, (zu m3 75 (a + 6) q) 75 j = if j = a + 6 then q else m 75 j := fun j => by
        rw [zu_at, f75]
      have hh' : HouseRel n k (zu m3 75 (a + 6) q) := by
        refine ⟨⟨(hF 17 0 rfl).trans n1, (hF 74 4 rfl).trans n2⟩, ⟨(hF 17 1 rfl).trans k1, (hF 74 6 rfl).trans k2⟩, fun p hp => ?_, ?_, ?_⟩
        · rw [hF 78 p rfl, hF 18 p rfl]
          exact hh p hp
        · obtain ⟨r1, r2, r3, r4, r5, r6⟩ := hRel
          refine ⟨fun p hp => ?_, fun c hc => ?_, ?_, fun i hi => ?_, ?_, ?_⟩
          · obtain ⟨s1, s2⟩ := r1 p hp
            rw [a20, a75, a75, hF 19 p rfl, if_neg (show ¬ p = a + 6 by omega)]
            refine ⟨s1, ?_⟩
            by_cases e : p = a
            · rw [if_pos e, if_pos (by omega)]
            · rw [if_neg e, if_neg (by omega)]
              exact s2
          · rw [hF 21 c rfl, hF 22 c rfl, hF 23 c rfl, a75, a75, a75, if_neg (by omega), if_neg (by omega), if_neg (by omega)]
            exact r2 c hc
          · rw [hF 25 2 rfl, a75, if_neg (by omega)]
            exact r3
          · rw [a75, if_neg (by omega)] at hi
            rw [hF 26 i rfl, a75, if_neg (by omega)]
            exact r4 i hi
          · rw [hF 17 11 rfl, a75, if_neg (by omega)]
            exact r5
          · rw [hF 17 10 rfl, a75, if_neg (by omega)]
            exact r6
        · refine ⟨fun p hp => ?_, ?_, ?_, fun c hc => ?_⟩
          · rw [a75, a75, if_neg (show ¬ p = a + 6 by omega)]
            refine ⟨(hok.1 p hp).1, ?_⟩
            split
            · omega
            · exact (hok.1 p hp).2
          · rw [a75, if_neg (by omega)]
            exact hok.2.1
          · rw [a75, if_neg (by omega)]
            exact hok.2.2.1
          · rw [a75, if_neg (by omega)]
            exact hok.2.2.2 c hc
      refine Inv_hu hI0 hz4 (.of hF rfl) hh' ?_ (by rw [a75, if_neg (by omega)]; exact i10)
      have a1 : Agree remCL m1 (zu m3 75 (a + 6) q) := by
        have b1 : zFr (inL [(20, none), (74, some 12)]) m1 M := by
          rw [← hM]
          exact (zFr.refl.set rfl).set rfl
        exact (Agree.of b1 rfl).trans ((Agree.of hF3b rfl).trans (.of (L := [(75, none)]) (zFr.refl.set rfl) rfl))
      exact Undo_rem (by omega) (by omega) i6 hRel hok i10 hC a1 (.of hFM rfl) (.of (L := [(75, none)]) (zFr.refl.set rfl) rfl) hR
  · refine hκ _ _ (fun D2 κ2 h2 => ?_)
    refine zb231_0 hT i1 hp hq (fun hz2 => ?_)
    refine z_refusesWear hT hz2 hp hq n2 k2 ?_
    rw [hwv (zu m 74 12 0) (zu_dnR (by omega))]
    refine zb231_11 hT rfl hz2 hp hq (by omega) (fun x => by omega) (fun _ => ?_)
    exact h2 _ _ (fun _ => rfl) ⟨n, k, Inv_fr hA12 hz2 hI0⟩
end ZWear
end
-- 73.weeksw.lean.txt
section
/-! Cloths are made, WEEKS go by: both pay. -/
noncomputable def tlL : zLs := [(17, some 12), (17, some 13), (17, some 14), (21, none), (22, none), (23, none), (25, some 2), (26, none)]
theorem tlWL : ∀ c j, tlW c j = true → inL tlL c j = true := by
  intro c j h
  simp only [tlW, Bool.or_eq_true, Bool.and_eq_true] at h
  rcases h with ⟨a, b | b | b⟩ | a | a | a | ⟨a, b⟩ | a
  · have e1 := Nat.eq_of_beq_eq_true a
    have e2 := Nat.eq_of_beq_eq_true b
    subst e1 e2
    rfl
  · have e1 := Nat.eq_of_beq_eq_true a
    have e2 := Nat.eq_of_beq_eq_true b
    subst e1 e2
    rfl
  · have e1 := Nat.eq_of_beq_eq_true a
    have e2 := Nat.eq_of_beq_eq_true b
    subst e1 e2
    rfl
  · have e1 := Nat.eq_of_beq_eq_true a
    subst e1
    rfl
  · have e1 := Nat.eq_of_beq_eq_true a
    subst e1
    rfl
  · have e1 := Nat.eq_of_beq_eq_true a
    subst e1
    rfl
  · have e1 := Nat.eq_of_beq_eq_true a
    have e2 := Nat.eq_of_beq_eq_true b
    subst e1 e2
    rfl
  · have e1 := Nat.eq_of_beq_eq_true a
    subst e1
    rfl
noncomputable def pwLs : zLs := (13, none) :: (17, some 11) :: tlL
theorem pwWL : ∀ c j, pwW c j = true → inL pwLs c j = true := by
  intro c j h
  simp only [pwW, Bool.or_eq_true, Bool.and_eq_true] at h
  rcases h with a | a | ⟨a, b⟩
  · have := tlWL c j a
    unfold inL at this ⊢
    unfold pwLs
    simp only [List.any_cons, Bool.or_eq_true]
    exact Or.inr (Or.inr this)
  · have e1 := Nat.eq_of_beq_eq_true a
    subst e1
    rfl
  · have e1 := Nat.eq_of_beq_eq_true a
    have e2 := Nat.eq_of_beq_eq_true b
    subst e1 e2
    rfl
noncomputable def mkL (q : Nat) : zLs := [(q, none), (74, some 31), (74, some 32), (74, some 33)]
theorem mkWL {q : Nat} : ∀ c j, mkW q c j = true → inL (mkL q) c j = true := by
  intro c j h
  simp only [mkW, Bool.or_eq_true, Bool.and_eq_true] at h
  unfold inL mkL
  simp only [List.any_cons, Bool.or_eq_true, Bool.and_eq_true]
  rcases h with a | ⟨a, b | b | b⟩
  · have e1 := Nat.eq_of_beq_eq_true a
    exact Or.inl ⟨by rw [e1]; exact Nat.beq_refl _, trivial⟩
  · have e1 := Nat.eq_of_beq_eq_true a
    have e2 := Nat.eq_of_beq_eq_true b
    subst e1 e2
    exact Or.inr (Or.inl ⟨rfl, rfl⟩)
  · have e1 := Nat.eq_of_beq_eq_true a
    have e2 := Nat.eq_of_beq_eq_true b
    subst e1 e2
    exact Or.inr (Or.inr (Or.inl ⟨rfl, rfl⟩))
  · have e1 := Nat.eq_of_beq_eq_true a
    have e2 := Nat.eq_of_beq_eq_true b
    subst e1 e2
    exact Or.inr (Or.inr (Or.inr (Or.inl ⟨rfl, rfl⟩)))
noncomputable def lbL : zLs := [(74, some 13), (74, some 14), (74, some 15), (74, some 16), (74, some 17), (74, some 26), (74, some 27), (74, some 28), (74, some 29), (74, some 30)]
theorem gwWL {q : Nat} : ∀ c j, gwW q c j = true → inL (mkL q ++ lbL) c j = true := by
  intro c j h
  simp only [gwW, Bool.or_eq_true] at h
  unfold inL
  rw [List.any_append, Bool.or_eq_true]
  rcases h with a | a
  · exact Or.inl (mkWL c j a)
  · exact Or.inr (lbWL c j a)
noncomputable def payR (M : zM) : zM := (zu (zu (zu (zu (zu (zu (zu (zu M 75 58 ((M 75 58) - wr (((M 79 1) * (M 74 31)) + ((M 79 2) * (M 74 32))))) 74 11 0) 81 0 (M 74 31)) 74 11 1) 81 1 (M 74 32)) 74 11 2) 81 2 (M 74 33)) 74 11 3)
noncomputable def costR (M : zM) : Int := wr (((M 79 1) * (M 74 31)) + ((M 79 2) * (M 74 32)))
noncomputable def payC (M : zM) : zM := (zu (zu (zu (zu (zu M 72 1 3) 73 0 (M 17 12)) 73 1 (M 17 13)) 73 2 (M 17 14)) 17 10 ((M 17 10) - wr (((M 17 12) * (M 24 1)) + ((M 17 13) * (M 24 2)))))
noncomputable def costC (M : zM) : Int := wr (((M 17 12) * (M 24 1)) + ((M 17 13) * (M 24 2)))
theorem payR_75 {M : zM} (j : Nat) : payR M 75 j = if j = 58 then M 75 58 - costR M else M 75 j := by
  unfold payR
  rw [zu_dn (by omega), zu_dn (by omega), zu_dn (by omega), zu_dn (by omega), zu_dn (by omega), zu_dn (by omega), zu_dn (by omega), zu_at]
  rfl
theorem payR_fr {M : zM} : zFr (inL [(74, some 11), (75, none), (81, none)]) M (payR M) := (((((((zFr.refl.set rfl).set rfl).set rfl).set rfl).set rfl).set rfl).set rfl).set rfl
theorem payC_fr {M : zM} : zFr (inL [(17, some 10), (72, some 1), (73, none)]) M (payC M) := ((((zFr.refl.set rfl).set rfl).set rfl).set rfl).set rfl
theorem payC_10 {M : zM} : payC M 17 10 = M 17 10 - costC M := by
  unfold payC
  rw [zu_sm rfl]
  rfl
theorem House_pay {n k : Nat} {m m3 M : zM} {g : Nat → Int} {x : Int} (hn : n ≤ 6) (hk : k ≤ 8) (h4 : HouseRel n k m) (hA0 : Agree [(17, some 0), (17, some 1), (18, none), (74, some 4), (74, some 6), (78, none)] m M) (hR : Rel n k m3 g) (hA : Agree [(17, some 11), (19, none), (20, none), (21, none), (22, none), (23, none), (25, some 2), (26, none)] m3 M) (h10 : M 17 10 = g 58 - x) (h75 : ∀ j, M 75 j = if j = 58 then g 58 - x else g j) (ho : okRow n k g) : HouseRel n k M := by
  obtain ⟨⟨n1, n2⟩, ⟨k1, k2⟩, hh, -, -⟩ := h4
  obtain ⟨r1, r2, r3, r4, r5, r6⟩ := hR
  have h20 := ho.2.1.2
  have e75 : ∀ j, j < 58 → M 75 j = g j := fun j hj => by rw [h75, if_neg (by omega)]
  refine ⟨⟨(hA0 17 0 rfl).trans n1, (hA0 74 4 rfl).trans n2⟩, ⟨(hA0 17 1 rfl).trans k1, (hA0 74 6 rfl).trans k2⟩, fun p hp => ?_, ⟨fun p hp => ?_, fun c hc => ?_, ?_, fun i hi => ?_, ?_, ?_⟩, ho.congr hn hk e75⟩
  · rw [hA0 78 p rfl, hA0 18 p rfl]
    exact hh p hp
  · rw [hA 19 p rfl, hA 20 p rfl, e75 p (by omega), e75 (p + 6) (by omega)]
    exact r1 p hp
  · rw [hA 21 c rfl, hA 22 c rfl, hA 23 c rfl, e75 (c + 12) (by omega), e75 (c + 20) (by omega), e75 (c + 28) (by omega)]
    exact r2 c hc
  · rw [hA 25 2 rfl, e75 56 (by omega)]
    exact r3
  · rw [e75 56 (by omega)] at hi
    rw [hA 26 i rfl, e75 (i + 36) (by omega)]
    exact r4 i hi
  · rw [hA 17 11 rfl, e75 57 (by omega)]
    exact r5
  · rw [h10, h75, if_pos rfl]
theorem wkP_congr {L L2 : Nat → Int → Int → Int} {h : Int} : ∀ (j p : Nat) (a : zS), (∀ i, p ≤ i → i < p + j → L i = L2 i) → wkP L h a p j = wkP L2 h a p j
  | 0, p, a, _ => rfl
  | j + 1, p, a, he => by
    rw [wkP, wkP, he p (Nat.le_refl p) (by omega)]
    exact wkP_congr j (p + 1) _ (fun i h1 h2 => he i (by omega) (by omega))
theorem wksA_congr {L L2 : Nat → Int → Int → Int} {h : Int} {n : Nat} (he : ∀ i, i < n → L i = L2 i) : ∀ (t : Nat) (a : zS), wksA L h n a t = wksA L2 h n a t
  | 0, a => rfl
  | t + 1, a => by
    have e : wkA L h n a = wkA L2 h n a := by
      unfold wkA
      rw [wkP_congr n 0 a (fun i _ h2 => he i (by omega))]
    rw [wksA, wksA, e]
    exact wksA_congr he t _
section ZWeeksW
variable {T : Nat → Nat → zG → (Option zA → zM → Prop) → Prop} {B : Int}
theorem w_make (hT : zRules T) {p v : Int} (hp : isI p) (hv : isI v) : Way T 125 234 [(0, zr 1), (1, zi p), (2, zi v)] [(0, zr 74), (1, zi p), (2, zi v)] 4 3 B B True := by
  rintro D m sc ⟨n, k, hI⟩ κ hκ
  have hI0 := hI
  obtain ⟨i1, i2, i3, i4, i5, i6, i7, i8, i9, i10, i11⟩ := hI
  have i40 := i4
  have hB1 : zB (zu m 74 12 0) := zB_u i1 trivial
  have hA12 : Agree coreK m (zu m 74 12 0) := .of (L := [(74, some 12)]) (zFr.refl.set rfl) rfl
  obtain ⟨⟨n1, n2⟩, ⟨k1, k2⟩, hh, hRel, hok⟩ := i4
  have b17 : 0 ≤ m 17 0 ∧ m 17 0 ≤ 6 := i1 17 0
  have b171 : 0 ≤ m 17 1 ∧ m 17 1 ≤ 8 := i1 17 1
  have no : ¬ (0 ≤ p ∧ p < k ∧ 0 ≤ v ∧ v ≤ 99) → κ (some (zi (-1))) m := by
    intro hno
    refine hκ _ _ (fun D2 κ2 h2 => ?_)
    have fin : κ2 (some (zi (-1))) (zu m 74 12 0) := h2 _ _ (fun _ => rfl) ⟨n, k, Inv_fr hA12 hB1 hI0⟩
    exact zb234_0 hT i1 hp hv (fun _ _ => fin) (fun _ _ _ => fin) (fun _ _ _ _ => fin) (fun _ _ _ _ _ => fin) (fun q1 q2 q3 q4 => absurd ⟨by omega, by omega, by omega, by omega⟩ hno)
  refine zb125_0 hT i1 hp hv (fun q1 => no (by omega)) (fun q1 q2 => no (by omega)) (fun q1 q2 q3 => no (by omega)) (fun q1 q2 q3 q4 => no (by omega)) (fun q1 q2 q3 q4 => ?_)
  obtain ⟨c, rfl⟩ : ∃ a : Nat, p = (a : Int) := ⟨p.toNat, by omega⟩
  refine z_remC hT i1 (fun m1 hB2 hF1 hC => ?_)
  refine zb125_24 (c := c) hT rfl hB2 (by omega) (by omega) (fun hz => ?_)
  generalize hm2 : (zu (zu (zu m1 17 12 0) 17 13 0) 17 14 0) = m2 at hz ⊢
  have hF2 : zFr (inL (remCL ++ [(17, some 12), (17, some 13), (17, some 14)])) m m2 := by
    rw [← hm2]
    exact (((hF1.sub (inL_sub (by decide))).set rfl).set rfl).set rfl
  have hR2 : RelA n k m2 (m 75, 0, 0, 0) := ⟨hRel.fr (.of hF2 rfl), by rw [← hm2]; simp (disch := omega) only [zu_off, zu_sm], by rw [← hm2]; simp (disch := omega) only [zu_off, zu_sm], by rw [← hm2]; simp (disch := omega) only [zu_sm]⟩
  refine z_tailor (n := n) (k := k) hT hz (by omega) (by omega) (by omega) (by omega) hR2 (fun m3 hB3 hF3 hR3 => ?_)
  rw [hF2 24 0 rfl] at hR3
  obtain ⟨hR3, d1, d2, d3⟩ := hR3
  have hA0 : okRow n k (mkA (m 24 0) (m 75, 0, 0, 0) c v).1 := hok.mk (by omega) (by omega) (i1 24 0).1 (by omega)
  have hA57 : (mkA (m 24 0) (m 75, 0, 0, 0) c v).1 57 = m 75 57 := mkA_keep (by omega) hok.2.1 (by omega)
  generalize hA : mkA (m 24 0) (m 75, 0, 0, 0) c v = A at hR3 d1 d2 d3 hA0 hA57
  have hF3b : zFr (inL (remCL ++ tlL)) m m3 := (hF2.sub (inL_sub (by decide))).trans ((hF3.sub tlWL).sub (inL_sub (by decide)))
  refine zb125_40 hT rfl hB3 (fun hz4 => hκ _ _ (fun D2 κ2 h2 => ?_))
  have e24 : ∀ j, m3 24 j = m 24 j := fun j => hF3b 24 j rfl
  have ecost : wr (((m3 17 12) * (m3 24 1)) + ((m3 17 13) * (m3 24 2))) = wr (A.2.1 * m 24 1 + A.2.2.1 * m 24 2) := by rw [d1, d2, e24, e24]
  have hz4 : zB (payC m3) := hz4
  show T (D2 + 3) 234 (0, _, [], payC m3) κ2
  have hFc : zFr (inL (remCL ++ (tlL ++ [(17, some 10), (72, some 1), (73, none)]))) m (payC m3) := (hF3b.sub (inL_sub (by decide))).trans (payC_fr.sub (inL_sub (by decide)))
  have e6 : (payC m3) 74 6 = (k : Int) := (hFc 74 6 rfl).trans k2
  refine zb234_0 hT hz4 hp hv (fun x => by omega) (fun _ x => by omega) (fun _ _ x => by omega) (fun _ _ _ x => by omega) (fun _ _ _ _ hz5 => ?_)
  have e75 : (zu (payC m3) 74 12 0) 75 = m 75 := funext fun j => by rw [zu_dn (by omega), hFc 75 j rfl]
  refine z_remR_75 hT hz5 (fun m4 hB4 hF4 hR4 => ?_)
  rw [e75] at hR4
  have hF4b : zFr (inL [(74, some 35), (87, none)]) (zu (payC m3) 74 12 0) m4 := hF4.sub remWL
  refine zb234_33 (c := c) hT rfl hB4 (by omega) (by omega) (fun hz6 => ?_)
  generalize hm5 : (zu (zu (zu m4 74 31 0) 74 32 0) 74 33 0) = m5 at hz6 ⊢
  have hF5 : zFr (inL [(74, some 31), (74, some 32), (74, some 33), (74, some 35), (87, none)]) (zu (payC m3) 74 12 0) m5 := by
    rw [← hm5]
    exact (((hF4b.sub (inL_sub (by decide))).set rfl).set rfl).set rfl
  have hR5 : RelR 75 m5 (m 75, 0, 0, 0) := ⟨(funext fun j => hF5 75 j rfl).trans e75, by rw [← hm5]; simp (disch := omega) only [zu_off, zu_sm], by rw [← hm5]; simp (disch := omega) only [zu_off, zu_sm], by rw [← hm5]; simp (disch := omega) only [zu_sm]⟩
  refine z_makes_75 hT hz6 (by omega) (by omega) hR5 (fun m6 hB6 hF6 hR6 => ?_)
  have e79 : ∀ j, j < 3 → m5 79 j = m 24 j := fun j hj => by
    rw [hF5 79 j rfl, zu_dn (by omega), hFc 79 j rfl]
    exact i5 j hj
  rw [e79 0 (by omega), hA] at hR6
  obtain ⟨g1, g2, g3, g4⟩ := hR6
  have hF6b : zFr (inL (mkL 75)) m5 m6 := hF6.sub mkWL
  refine zb234_47 hT rfl hB6 (fun hz7 => ?_)
  have f79 : ∀ j, j < 3 → m6 79 j = m 24 j := fun j hj => by rw [hF6b 79 j rfl, e79 j hj]
  have ecost2 : costR m6 = wr (A.2.1 * m 24 1 + A.2.2.1 * m 24 2) := by
    unfold costR
    rw [f79 1 (by omega), f79 2 (by omega), g2, g3, Int.mul_comm (m 24 1), Int.mul_comm (m 24 2)]
  have hz7 : zB (payR m6) := hz7
  show κ2 (some (zi (costR m6))) (payR m6)
  have hFr : zFr (inL [(74, some 11), (74, some 12), (74, some 31), (74, some 32), (74, some 33), (74, some 35), (75, none), (81, none), (87, none)]) (payC m3) (payR m6) := (((zFr.refl (m := payC m3)).set (q := 74) (i := 12) (v := 0) rfl).trans (hF5.sub (inL_sub (by decide)))).trans ((hF6b.sub (inL_sub (by decide))).trans (payR_fr.sub (inL_sub (by decide))))
  have hFall : zFr (inL (remCL ++ (tlL ++ [(17, some 10), (72, some 1), (73, none), (74, some 11), (74, some 12), (74, some 31), (74, some 32), (74, some 33), (74, some 35), (75, none), (81, none), (87, none)]))) m (payR m6) := (hFc.sub (inL_sub (by decide))).trans (hFr.sub (inL_sub (by decide)))
  have f75 : ∀ j, payR m6 75 j = if j = 58 then A.1 58 - wr (A.2.1 * m 24 1 + A.2.2.1 * m 24 2) else A.1 j := fun j => by
    rw [payR_75, ecost2, g1]
  have f10 : payR m6 17 10 = A.1 58 - wr (A.2.1 * m 24 1 + A.2.2.1 * m 24 2) := by
    rw [hFr 17 10 rfl, payC_10]
    unfold costC
    rw [ecost, hR3.2.2.2.2.2]
  refine h2 _ _ (fun _ => ?_) ⟨n, k, ?_⟩
  · rw [ecost, ecost2]
  · refine Inv_hu hI0 hz7 (.of hFall rfl) (House_pay (g := A.1) (m3 := m3) (by omega) (by omega) i40 (.of hFall rfl) hR3 ((Agree.of payC_fr rfl).trans (.of hFr rfl)) f10 f75 hA0) ?_ (by rw [f75, if_neg (by omega), hA57]; exact i10)
    have hF1b : zFr (inL (tlL ++ [(17, some 10), (72, some 1), (73, none)])) m1 (payC m3) := by
      have t1 : zFr (inL tlL) m1 m2 := by
        rw [← hm2]
        exact ((zFr.refl.set rfl).set rfl).set rfl
      exact ((t1.trans (hF3.sub tlWL)).sub (inL_sub (by decide))).trans (payC_fr.sub (inL_sub (by decide)))
    have a1 : Agree remCL m1 (payR m6) := (Agree.of hF1b rfl).trans (.of hFr rfl)
    have a2 : Agree [(74, some 35), (87, none)] m (zu (payC m3) 74 12 0) := (Agree.of hFc rfl).trans (.of (L := [(74, some 12)]) (zFr.refl.set rfl) rfl)
    have t3 : zFr (inL (mkL 75 ++ [(74, some 11), (81, none)])) m4 (payR m6) := by
      have t4 : zFr (inL (mkL 75)) m4 m5 := by
        rw [← hm5]
        exact ((zFr.refl.set rfl).set rfl).set rfl
      exact ((t4.trans hF6b).sub (inL_sub (by decide))).trans (payR_fr.sub (inL_sub (by decide)))
    exact Undo_rem (by omega) (by omega) i6 hRel hok i10 hC a1 a2 (.of t3 rfl) hR4
end ZWeeksW
end
-- 74.weeks2.lean.txt
section
/-! week(), weeks(), undo(), keep(), again(). -/
/-- a moment was written ahead of its call, and counts not yet -/
noncomputable def MarkC (m m1 : zM) : Prop := m1 28 4 = m 28 4 ∧ m1 28 5 = m 28 5 ∧ ∀ x, x < 13 → ¬ x = ((m 28 4).toNat + (m 28 5).toNat) % 13 → m1 (30 + x) = m (30 + x)
theorem Undo_mark {B : Int} {n k : Nat} {m m1 m5 : zM} (hB : zB m) (hn : n ≤ 6) (hk : k ≤ 8) (hU : UndoRel B n k m) (hC : MarkC m m1) (a1 : Agree remCL m1 m5) (a2 : Agree [(74, some 35), (87, none)] m m5) : UndoRel B n k m5 := by
  obtain ⟨c1, c2, c3⟩ := hC
  have b4 : 0 ≤ m 28 4 ∧ m 28 4 ≤ 12 := hB 28 4
  have b5 : 0 ≤ m 28 5 ∧ m 28 5 ≤ 12 := hB 28 5
  have e5 : m5 28 5 = m 28 5 := by rw [a1 28 5 rfl, c2]
  have e4 : m5 28 4 = m 28 4 := by rw [a1 28 4 rfl, c1]
  refine ⟨by rw [a2 74 35 rfl, e5]; exact hU.1, fun i hi => ?_⟩
  rw [e5] at hi
  obtain ⟨g1, g2, g3⟩ := hU.2 i hi
  have esl : slt m5 i = slt m i := by
    unfold slt
    rw [e4]
  have hsl : slt m i < 13 := by unfold slt; omega
  have hne : ¬ slt m i = ((m 28 4).toNat + (m 28 5).toNat) % 13 := by
    unfold slt
    omega
  have er : m5 (30 + slt m5 i) = m (30 + slt m i) := by
    rw [esl, ← c3 _ hsl hne]
    exact funext fun j => a1 _ j (remCL_in hsl j)
  have e87 : m5 87 = m 87 := funext fun j => a2 87 j rfl
  rw [er, e87]
  exact ⟨g1, g2, g3⟩
theorem z_markF {m m1 : zM} (hB : zB m) (hF1 : zFr (rowW (30 + frs m)) m m1) : zFr (inL remCL) m m1 ∧ MarkC m m1 := by
  have b4 : 0 ≤ m 28 4 ∧ m 28 4 ≤ 12 := hB 28 4
  have b5 : 0 ≤ m 28 5 ∧ m 28 5 ≤ 12 := hB 28 5
  have hf := frsE hB
  refine ⟨hF1.sub (fun c j q => ?_), hF1 28 4 ?_, hF1 28 5 ?_, fun x hx hne => funext fun j => hF1 _ j ?_⟩
  · have e := Nat.eq_of_beq_eq_true q
    subst e
    exact remCL_in (by omega) j
  · cases hb : rowW (30 + frs m) 28 4 with
    | false => rfl
    | true =>
      have := Nat.eq_of_beq_eq_true hb
      omega
  · cases hb : rowW (30 + frs m) 28 5 with
    | false => rfl
    | true =>
      have := Nat.eq_of_beq_eq_true hb
      omega
  · cases hb : rowW (30 + frs m) (30 + x) j with
    | false => rfl
    | true =>
      have := Nat.eq_of_beq_eq_true hb
      omega
section ZWeeks2
variable {T : Nat → Nat → zG → (Option zA → zM → Prop) → Prop} {B : Int}
theorem z_weeksL (hT : zRules T) {D : Nat} {κ : Option zA → zM → Prop} {m0 : zM} {n k nn : Nat} (hn : m0 74 4 = (n : Int)) (hn6 : n ≤ 6) (hk8 : k ≤ 8) (hLR : LawRel m0) (hnn : nn ≤ 60) : ∀ (j t : Nat) (b : zS) (M : zM), t + j = nn → zB M → zFr (inL (mkL 75 ++ lbL)) m0 M → RelR 75 M b → okRow n k b.1 → b.1 57 + j ≤ 400000 → (∀ M1, zB M1 → zFr (inL (mkL 75 ++ lbL)) m0 M1 → RelR 75 M1 (wksA (lawR m0) (m0 79 0) n b j) → zB (payR M1) → κ (some (zi (costR M1))) (payR M1)) → T (D + 172) 237 (35, [(0, zr 74), (1, zi (nn : Int)), (2, zi (t : Int))], [], M) κ := by
  intro j
  induction j with
  | zero =>
    intro t b M ht hBM hF hR ho hb hk
    exact zb237_35 (D := D + 169) (n := nn) (k := t) hT rfl hBM hnn (by omega) (fun _ hz => hk M hBM hF hR hz) (fun q => by omega)
  | succ j ih =>
    intro t b M ht hBM hF hR ho hb hk
    have hA : Agree KL m0 M := .of hF rfl
    have e78 : M 78 = m0 78 := funext fun j => hF 78 j rfl
    have eL : lawR M = lawR m0 := by
      unfold lawR
      rw [hA.law.2, e78]
    have hok := wkA_ok (L := lawR m0) (h := m0 79 0) hn6 hk8 (by have := (hBM 79 0).1; rw [hF 79 0 rfl] at this; exact this) ho
    refine zb237_35 (D := D + 169) (n := nn) (k := t) hT rfl hBM hnn (by omega) (fun q => by omega) (fun _ => ?_)
    refine z_goWeek_75 (D := D) (n := n) (k := k) hT hBM ((hF 74 4 rfl).trans hn) hk8 (hA.law.1 hLR) hR ho (by omega) (fun M1 hB1 hF1 hR1 => ?_)
    rw [eL, hF 79 0 rfl] at hR1
    refine zb237_48 (D := D + 169) (n := nn) (k := t) hT rfl hB1 hnn (by omega) ?_
    exact ih (t + 1) _ M1 (by omega) hB1 (hF.trans (hF1.sub gwWL)) hR1 hok.1 (by rw [hok.2]; omega) (fun M2 h1 h2 h3 h4 => hk M2 h1 h2 (by rw [wksA]; exact h3) h4)
/-- so many WEEKS, by both -/
theorem z_weeksPair (hT : zRules T) {D : Nat} {m : zM} {sc : zSc} {n k nn : Nat} {κ : Option zA → zM → Prop} (hI : Inv B sc n k m) (hB4 : B + 60 ≤ 400000) (hnn : nn ≤ 60)
    (hκ : ∀ v m1, wr v = v → zB m1 → (∀ (D2 : Nat) (κ2 : Option zA → zM → Prop), (∀ m2, Inv (B + 60) sc n k m2 → κ2 (some (zi v)) m2) → T (D2 + 172) 237 (0, [(0, zr 74), (1, zi (nn : Int))], [], m1) κ2) → κ (some (zi v)) m1) : T (D + 6) 174 (0, [(0, zr 1), (1, zi (nn : Int))], [], m) κ := by
  have hI0 := hI.up (show B ≤ B + 60 by omega)
  have i10' := hI.2.2.2.2.2.2.2.2.2.1
  obtain ⟨i1, i2, i3, i4, i5, i6, i7, i8, i9, i10, i11⟩ := hI0
  have hI0 := hI.up (show B ≤ B + 60 by omega)
  have i40 := i4
  obtain ⟨⟨n1, n2⟩, ⟨k1, k2⟩, hh, hRel, hok⟩ := i4
  have b17 : 0 ≤ m 17 0 ∧ m 17 0 ≤ 6 := i1 17 0
  have b171 : 0 ≤ m 17 1 ∧ m 17 1 ≤ 8 := i1 17 1
  have h75 : 0 ≤ m 75 57 := hok.2.2.1
  -- behind the class's passing: m1 remembers, m2 has its bill at 0
  have go : ∀ m1 m2, (nn = 0 ∧ MarkC m m1 ∨ 0 < nn ∧ RemC m m1) → zFr (inL remCL) m m1 → zB m2 → m2 = zu (zu (zu m1 17 12 0) 17 13 0) 17 14 0 → T (D + 5) 175 (0, [(0, zr 1), (1, zi (nn : Int))], [], m2) (fun r m1 => T (D + 6) 174 (34, [(0, zr 1), (1, zi (nn : Int))], r.toList ++ [], m1) κ) := by
    intro m1 m2 hC hF1 hz hm2
    have hF2 : zFr (inL (remCL ++ [(17, some 12), (17, some 13), (17, some 14)])) m m2 := by
      rw [hm2]
      exact (((hF1.sub (inL_sub (by decide))).set rfl).set rfl).set rfl
    have hR2 : RelA n k m2 (m 75, 0, 0, 0) := ⟨hRel.fr (.of hF2 rfl), by rw [hm2]; simp (disch := omega) only [zu_off, zu_sm], by rw [hm2]; simp (disch := omega) only [zu_off, zu_sm], by rw [hm2]; simp (disch := omega) only [zu_sm]⟩
    have hA2 : Agree KL m m2 := .of hF2 rfl
    have eL : lawM m2 = lawM m := by
      unfold lawM
      rw [hA2.law.2, show m2 18 = m 18 from funext fun j => hF2 18 j rfl]
    have e1711 : m2 17 11 = m 75 57 := (hF2 17 11 rfl).trans hRel.2.2.2.2.1
    refine z_passWeeks (n := n) (k := k) (a := (m 75, 0, 0, 0)) hT hz hnn ((hF2 17 0 rfl).trans n1) ((hF2 17 1 rfl).trans k1) (fun p hp => by rw [hF2 18 p rfl]; have := (hh p hp).2; omega) (hA2.law.1 i3).1 hR2 hok (by omega) (fun m3 hB3 hF3 hR3 hA0 hA57 => ?_)
    rw [eL, hF2 24 0 rfl] at hR3 hA0 hA57
    have eLL : wksA (lawM m) (m 24 0) n (m 75, 0, 0, 0) nn = wksA (lawR m) (m 24 0) n (m 75, 0, 0, 0) nn := wksA_congr (fun i hi => by
      unfold lawM lawR
      rw [(hh i hi).1]) nn _
    have hA57 : (wksA (lawM m) (m 24 0) n (m 75, 0, 0, 0) nn).1 57 = m 75 57 + nn := hA57
    obtain ⟨hR3, d1, d2, d3⟩ := hR3
    generalize hA : wksA (lawM m) (m 24 0) n (m 75, 0, 0, 0) nn = A at hR3 d1 d2 d3 hA0 hA57 eLL
    have hF3b : zFr (inL (remCL ++ pwLs)) m m3 := (hF2.sub (inL_sub (by decide))).trans ((hF3.sub pwWL).sub (inL_sub (by decide)))
    refine zb174_34 hT rfl hB3 (fun hz4 => ?_)
    have hz4 : zB (payC m3) := hz4
    show κ (some (zi (costC m3))) (payC m3)
    have e24 : ∀ j, m3 24 j = m 24 j := fun j => hF3b 24 j rfl
    have ecost : costC m3 = wr (A.2.1 * m 24 1 + A.2.2.1 * m 24 2) := by
      unfold costC
      rw [d1, d2, e24, e24]
    have hFc : zFr (inL (remCL ++ (pwLs ++ [(17, some 10), (72, some 1), (73, none)]))) m (payC m3) := (hF3b.sub (inL_sub (by decide))).trans (payC_fr.sub (inL_sub (by decide)))
    refine hκ _ _ (by unfold costC; exact wr_wr _) hz4 (fun D2 κ2 h2 => ?_)
    -- the reference from where its bill is 0
    have ref : ∀ m4 m5, zB m5 → m5 = zu (zu (zu m4 74 31 0) 74 32 0) 74 33 0 → zFr (inL [(74, some 12), (74, some 35), (87, none)]) (payC m3) m4 → (nn = 0 ∧ Agree [(74, some 35), (87, none)] (payC m3) m4 ∨ 0 < nn ∧ Rem (zu (payC m3) 74 12 0) m4 (m 75)) → T (D2 + 172) 237 (35, [(0, zr 74), (1, zi (nn : Int)), (2, zi 0)], [], m5) κ2 := by
      intro m4 m5 hz6 hm5 hF4 hM
      have hF5 : zFr (inL [(74, some 12), (74, some 31), (74, some 32), (74, some 33), (74, some 35), (87, none)]) (payC m3) m5 := by
        rw [hm5]
        exact (((hF4.sub (inL_sub (by decide))).set rfl).set rfl).set rfl
      have hF5b : zFr (inL (remCL ++ (pwLs ++ [(17, some 10), (72, some 1), (73, none), (74, some 12), (74, some 31), (74, some 32), (74, some 33), (74, some 35), (87, none)]))) m m5 := (hFc.sub (inL_sub (by decide))).trans (hF5.sub (inL_sub (by decide)))
      have hR5 : RelR 75 m5 (m 75, 0, 0, 0) := ⟨funext fun j => hF5b 75 j rfl, by rw [hm5]; simp (disch := omega) only [zu_off, zu_sm], by rw [hm5]; simp (disch := omega) only [zu_off, zu_sm], by rw [hm5]; simp (disch := omega) only [zu_sm]⟩
      have hA5 : Agree KL m m5 := .of hF5b rfl
      have eL5 : lawR m5 = lawR m := by
        unfold lawR
        rw [hA5.law.2, show m5 78 = m 78 from funext fun j => hF5b 78 j rfl]
      have e79 : ∀ j, j < 3 → m5 79 j = m 24 j := fun j hj => by
        rw [hF5b 79 j rfl]
        exact i5 j hj
      refine z_weeksL hT ((hF5b 74 4 rfl).trans n2) (by omega) (by omega) (hA5.law.1 i3) hnn nn 0 (m 75, 0, 0, 0) m5 (by omega) hz6 zFr.refl hR5 hok (by dsimp only; omega) (fun m6 hB6 hF6 hR6 hz7 => ?_)
      rw [eL5, e79 0 (by omega), ← eLL] at hR6
      obtain ⟨g1, g2, g3, g4⟩ := hR6
      have f79 : ∀ j, j < 3 → m6 79 j = m 24 j := fun j hj => by rw [hF6 79 j rfl, e79 j hj]
      have ecost2 : costR m6 = wr (A.2.1 * m 24 1 + A.2.2.1 * m 24 2) := by
        unfold costR
        rw [f79 1 (by omega), f79 2 (by omega), g2, g3, Int.mul_comm (m 24 1), Int.mul_comm (m 24 2)]
      rw [ecost2, ← ecost]
      have hFr : zFr (inL ([(74, some 11), (74, some 12), (74, some 31), (74, some 32), (74, some 33), (74, some 35), (75, none), (81, none), (87, none)] ++ lbL)) (payC m3) (payR m6) := (hF5.sub (inL_sub (by decide))).trans ((hF6.sub (inL_sub (by decide))).trans (payR_fr.sub (inL_sub (by decide))))
      have hFall : zFr (inL (remCL ++ (pwLs ++ ([(17, some 10), (72, some 1), (73, none), (74, some 11), (74, some 12), (74, some 31), (74, some 32), (74, some 33), (74, some 35), (75, none), (81, none), (87, none)] ++ lbL)))) m (payR m6) := (hFc.sub (inL_sub (by decide))).trans (hFr.sub (inL_sub (by decide)))
      have f75 : ∀ j, payR m6 75 j = if j = 58 then A.1 58 - wr (A.2.1 * m 24 1 + A.2.2.1 * m 24 2) else A.1 j := fun j => by
        rw [payR_75, ecost2, g1]
      have f10 : payR m6 17 10 = A.1 58 - wr (A.2.1 * m 24 1 + A.2.2.1 * m 24 2) := by
        rw [hFr 17 10 rfl, payC_10, ecost, hR3.2.2.2.2.2]
      refine h2 _ (Inv_hu hI0 hz7 (.of hFall rfl) (House_pay (g := A.1) (m3 := m3) (by omega) (by omega) i40 (.of hFall rfl) hR3 ((Agree.of payC_fr rfl).trans (.of hFr rfl)) f10 f75 hA0) ?_ (by rw [f75, if_neg (by omega), hA57]; omega))
      have hF1b : zFr (inL (pwLs ++ [(17, some 10), (72, some 1), (73, none)])) m1 (payC m3) := by
        have t1 : zFr (inL pwLs) m1 m2 := by
          rw [hm2]
          exact ((zFr.refl.set rfl).set rfl).set rfl
        exact ((t1.trans (hF3.sub pwWL)).sub (inL_sub (by decide))).trans (payC_fr.sub (inL_sub (by decide)))
      have a1 : Agree remCL m1 (payR m6) := (Agree.of hF1b rfl).trans (.of hFr rfl)
      have t3 : zFr (inL (mkL 75 ++ (lbL ++ [(74, some 11), (81, none)]))) m4 (payR m6) := by
        have t4 : zFr (inL (mkL 75 ++ lbL)) m4 m5 := by
          rw [hm5]
          exact ((zFr.refl.set rfl).set rfl).set rfl
        exact ((t4.trans hF6).sub (inL_sub (by decide))).trans (payR_fr.sub (inL_sub (by decide)))
      rcases hC with ⟨h0, hC⟩ | ⟨h0, hC⟩
      · rcases hM with ⟨_, hM⟩ | ⟨h1, _⟩
        · exact Undo_mark i1 (by omega) (by omega) i6 hC a1 ((Agree.of hFc rfl).trans (hM.trans (.of t3 rfl)))
        · omega
      · rcases hM with ⟨h1, _⟩ | ⟨_, hM⟩
        · omega
        · exact Undo_rem (by omega) (by omega) i6 hRel hok i10 hC a1 ((Agree.of hFc rfl).trans (.of (L := [(74, some 12)]) (zFr.refl.set rfl) rfl)) (.of t3 rfl) hM
    refine zb237_0 (D := D2 + 169) hT hz4 (by omega) (fun x => by omega) (fun _ x => by omega) (fun _ _ x hz5 => ?_) (fun _ _ x hz5 => ?_)
    · refine ref (zu (payC m3) 74 12 0) _ hz5 rfl (zFr.refl.set rfl) (Or.inl ⟨by omega, .of (L := [(74, some 12)]) (zFr.refl.set rfl) rfl⟩)
    · refine z_remR_75 hT hz5 (fun m4 hB4 hF4 hR4 => ?_)
      have e75 : (zu (payC m3) 74 12 0) 75 = m 75 := funext fun j => by rw [zu_dn (by omega), hFc 75 j rfl]
      rw [e75] at hR4
      refine zb237_29 (D := D2 + 169) (n := nn) hT rfl hB4 hnn (fun hz6 => ?_)
      refine ref m4 _ hz6 rfl ?_ (Or.inr ⟨by omega, hR4⟩)
      exact ((zFr.refl (m := payC m3)).set (q := 74) (i := 12) (v := 0) rfl).trans ((hF4.sub remWL).sub (inL_sub (by decide)))
  refine zb174_0 hT i1 hnn ?_
  refine z_mark hT i1 (fun m1 hB1 hF1 h1 => ?_)
  obtain ⟨hFm, hMk⟩ := z_markF i1 hF1
  obtain ⟨g4, g5, goff⟩ := hMk
  have b4 : 0 ≤ m 28 4 ∧ m 28 4 ≤ 12 := i1 28 4
  have b5 : 0 ≤ m 28 5 ∧ m 28 5 ≤ 12 := i1 28 5
  have hf := frsE i1
  obtain ⟨u, hu⟩ : ∃ u : Nat, m 28 5 = (u : Int) := ⟨(m 28 5).toNat, by omega⟩
  rw [hu, Int.toNat_natCast] at hf goff
  rw [hf] at h1
  refine zb174_11 hT rfl hB1 hnn (fun q hz => ?_) (fun q1 q2 hz => ?_) (fun q1 q2 hz => ?_)
  · exact go m1 _ (Or.inl ⟨by omega, g4, g5, by rw [hu, Int.toNat_natCast]; exact goff⟩) hFm hz rfl
  · have h2 := Int.tmod_def (m 28 4 + 1) 13
    have h3 := z_tmodB (m 28 4 + 1) 13 12 (by omega) (by omega) (by omega)
    rw [g4] at hz ⊢
    refine go (zu m1 28 4 (Int.tmod (m 28 4 + 1) 13)) _ (Or.inr ⟨by omega, u, 1, hu, by omega, ?_, ?_, fun x hx hne => ?_, fun j hj => ?_⟩) (hFm.set rfl) hz rfl
    · rw [zu_off (by omega), g5]
      omega
    · rw [zu_sm rfl]
      generalize Int.tdiv (m 28 4 + 1) 13 = q at h2
      omega
    · rw [zu_ne (by omega)]
      exact goff x hx hne
    · rw [zu_dn (by omega)]
      exact h1 j hj
  · rw [g5] at hz ⊢
    refine go (zu m1 28 5 (m 28 5 + 1)) _ (Or.inr ⟨by omega, u, 0, hu, by omega, ?_, ?_, fun x hx hne => ?_, fun j hj => ?_⟩) (hFm.set rfl) hz rfl
    · rw [zu_sm rfl]
      omega
    · rw [zu_off (by omega), g4]
      rfl
    · rw [zu_ne (by omega)]
      exact goff x hx hne
    · rw [zu_dn (by omega)]
      exact h1 j hj
theorem w_week (hT : zRules T) (hB4 : B + 60 ≤ 400000) : Way T 126 236 [(0, zr 1)] [(0, zr 74)] 7 173 B (B + 60) True := by
  rintro D m sc ⟨n, k, hI⟩ κ hκ
  refine zb126_0 hT hI.1 ?_
  refine z_weeksPair (nn := 1) hT hI hB4 (by omega) (fun v m1 hv hz1 h1 => ?_)
  refine zb126_5 hT rfl ?_
  rw [hv]
  refine hκ _ _ (fun D2 κ2 h2 => ?_)
  refine zb236_0 (D := D2 + 171) hT hz1 ?_
  exact h1 D2 _ (fun m2 h => zb236_5 (D := D2 + 171) hT rfl (by rw [hv]; exact h2 _ _ (fun _ => rfl) ⟨n, k, h⟩))
theorem w_weeks (hT : zRules T) (hB4 : B + 60 ≤ 400000) {v : Int} (hv : isI v) : Way T 127 237 [(0, zr 1), (1, zi v)] [(0, zr 74), (1, zi v)] 7 172 B (B + 60) True := by
  rintro D m sc ⟨n, k, hI⟩ κ hκ
  have hI0 := hI
  obtain ⟨i1, i2, i3, i4, i5, i6, i7, i8, i9, i10, i11⟩ := hI
  have hB1 : zB (zu m 74 12 0) := zB_u i1 trivial
  have hA12 : Agree coreK m (zu m 74 12 0) := .of (L := [(74, some 12)]) (zFr.refl.set rfl) rfl
  have no : ¬ (0 ≤ v ∧ v ≤ 60) → κ (some (zi (-1))) m := by
    intro hno
    refine hκ _ _ (fun D2 κ2 h2 => ?_)
    have fin : κ2 (some (zi (-1))) (zu m 74 12 0) := h2 _ _ (fun _ => rfl) ⟨n, k, (Inv_fr hA12 hB1 hI0).up (by omega)⟩
    exact zb237_0 (D := D2 + 169) hT i1 hv (fun _ _ => fin) (fun _ _ _ => fin) (fun q1 q2 => absurd ⟨by omega, by omega⟩ hno) (fun q1 q2 => absurd ⟨by omega, by omega⟩ hno)
  refine zb127_0 hT i1 hv (fun q => no (by omega)) (fun q1 q2 => ?_) (fun q1 q2 => no (by omega))
  obtain ⟨nn, rfl⟩ : ∃ a : Nat, v = (a : Int) := ⟨v.toNat, by omega⟩
  refine z_weeksPair (nn := nn) hT hI0 hB4 (by omega) (fun w m1 hw _ h1 => ?_)
  refine zb127_19 hT rfl ?_
  rw [hw]
  refine hκ _ _ (fun D2 κ2 h2 => ?_)
  exact h1 D2 κ2 (fun m2 h => h2 _ _ (fun _ => rfl) ⟨n, k, h⟩)
end ZWeeks2
end
-- 75.kept.lean.txt
section
/-! undo(), keep(), again(). -/
noncomputable def momL : zLs := [(30, none), (31, none), (32, none), (33, none), (34, none), (35, none), (36, none), (37, none), (38, none), (39, none), (40, none), (41, none), (42, none)]
theorem momL_in {x : Nat} (hx : x < 13) (j : Nat) : inL momL (30 + x) j = true := by
  match x, hx with
  | 0, _ => rfl
  | 1, _ => rfl
  | 2, _ => rfl
  | 3, _ => rfl
  | 4, _ => rfl
  | 5, _ => rfl
  | 6, _ => rfl
  | 7, _ => rfl
  | 8, _ => rfl
  | 9, _ => rfl
  | 10, _ => rfl
  | 11, _ => rfl
  | 12, _ => rfl
section ZKept
variable {T : Nat → Nat → zG → (Option zA → zM → Prop) → Prop} {B : Int}
theorem z_undoCopy (hT : zRules T) {D : Nat} {κ : Option zA → zM → Prop} {M : zM} {u : Nat} (hB : zB M) (hu : M 74 35 = (u : Int)) (hu11 : u ≤ 11) (h : ∀ M1, zB M1 → zFr (inL [(75, none)]) M M1 → (∀ j, j < 59 → M1 75 j = M 87 (59 * u + j)) → κ (some (zi (u : Int))) M1) : T (D + 1) 241 (26, [(0, zr 74), (1, zi 0)], [], M) κ := by
  have key : ∀ (j k : Nat) (N : zM), k + j = 59 → zB N → zFr (inL [(75, none)]) M N → (∀ i, i < k → N 75 i = M 87 (59 * u + i)) → T (D + 1) 241 (26, [(0, zr 74), (1, zi (k : Int))], [], N) κ := by
    intro j
    induction j with
    | zero =>
      intro k N hk hBN hF g
      have e35 : N 74 35 = (u : Int) := (hF 74 35 rfl).trans hu
      refine zb241_26 hT rfl hBN (by omega) (by omega) (fun _ => ?_) (fun q => by omega)
      rw [e35]
      exact h N hBN hF (fun i hi => g i (by omega))
    | succ j ih =>
      intro k N hk hBN hF g
      have e35 : N 74 35 = (u : Int) := (hF 74 35 rfl).trans hu
      refine zb241_26 hT rfl hBN (by omega) (by omega) (fun q => by omega) (fun _ => ?_)
      rw [show ((59 * N 74 35) + (k : Int)).toNat = 59 * u + k by omega]
      refine ih (k + 1) _ (by omega) (zB_u hBN (zbd7587 (u := u) (by omega) (hBN 87 (59 * u + k)))) (hF.set rfl) (fun i hi => ?_)
      by_cases e : i = k
      · subst e
        rw [zu_sm rfl, hF 87 _ rfl]
      · rw [zu_off e]
        exact g i (by omega)
  exact key 59 0 M (by omega) hB zFr.refl (fun i hi => by omega)
theorem z_againCopy (hT : zRules T) {D : Nat} {κ : Option zA → zM → Prop} {M : zM} {i : Nat} (hB : zB M) (hi : i ≤ 1) (h : ∀ M1, zB (zu M1 74 35 0) → zFr (inL [(75, none)]) M M1 → (∀ j, j < 59 → M1 75 j = M 106 (59 * i + j)) → κ (some (zi 1)) (zu M1 74 35 0)) : T (D + 2) 288 (40, [(0, zr 74), (1, zi (i : Int)), (2, zi 0)], [], M) κ := by
  have key : ∀ (j k : Nat) (N : zM), k + j = 59 → zB N → zFr (inL [(75, none)]) M N → (∀ x, x < k → N 75 x = M 106 (59 * i + x)) → T (D + 2) 288 (40, [(0, zr 74), (1, zi (i : Int)), (2, zi (k : Int))], [], N) κ := by
    intro j
    induction j with
    | zero =>
      intro k N hk hBN hF g
      exact zb288_40 hT rfl hBN hi (by omega) (fun _ hz => h N hz hF (fun x hx => g x (by omega))) (fun q => by omega)
    | succ j ih =>
      intro k N hk hBN hF g
      refine zb288_40 hT rfl hBN hi (by omega) (fun q => by omega) (fun _ => ?_)
      refine ih (k + 1) _ (by omega) (zB_u hBN (zbd75106 (u := i) (by omega) (hBN 106 (59 * i + k)))) (hF.set rfl) (fun x hx => ?_)
      by_cases e : x = k
      · subst e
        rw [zu_sm rfl, hF 106 _ rfl]
      · rw [zu_off e]
        exact g x (by omega)
  exact key 59 0 M (by omega) hB zFr.refl (fun i hi => by omega)
noncomputable def rtL : zLs := [(17, some 10), (17, some 11), (19, none), (20, none), (21, none), (22, none), (23, none), (25, some 2), (26, none)]
theorem rtWL : ∀ c j, rtW c j = true → inL rtL c j = true := by
  intro c j h
  simp only [rtW, Bool.or_eq_true, Bool.and_eq_true] at h
  rcases h with (a | a | a | a | a | a) | ⟨a, b⟩ | ⟨a, b | b⟩
  all_goals (have e1 := Nat.eq_of_beq_eq_true a)
  · subst e1
    rfl
  · subst e1
    rfl
  · subst e1
    rfl
  · subst e1
    rfl
  · subst e1
    rfl
  · subst e1
    rfl
  · have e2 := Nat.eq_of_beq_eq_true b
    subst e1 e2
    rfl
  · have e2 := Nat.eq_of_beq_eq_true b
    subst e1 e2
    rfl
  · have e2 := Nat.eq_of_beq_eq_true b
    subst e1 e2
    rfl
/-- the house as it was brought back by both -/
theorem House_back {n k : Nat} {m m1 M : zM} {r g : Nat → Int} (hn : n ≤ 6) (hk : k ≤ 8) (h4 : HouseRel n k m) (hA0 : Agree [(17, some 0), (17, some 1), (18, none), (74, some 4), (74, some 6), (78, none)] m M) (hb : Brought m1 r) (hA : Agree KRel m1 M) (hR : RelM n k r g) (ho : okRow n k g) (h75 : ∀ j, j < 59 → M 75 j = g j) : HouseRel n k M := by
  obtain ⟨⟨n1, n2⟩, ⟨k1, k2⟩, hh, -, -⟩ := h4
  have h20 := ho.2.1.2
  refine ⟨⟨(hA0 17 0 rfl).trans n1, (hA0 74 4 rfl).trans n2⟩, ⟨(hA0 17 1 rfl).trans k1, (hA0 74 6 rfl).trans k2⟩, fun p hp => ?_, ((hb.rel hn hk h20 hR).fr hA).congr hn hk h20 h75, ho.congr hn hk (fun j hj => h75 j (by omega))⟩
  rw [hA0 78 p rfl, hA0 18 p rfl]
  exact hh p hp
theorem w_undo (hT : zRules T) : Way T 129 241 [(0, zr 1)] [(0, zr 74)] 3 1 B B True := by
  rintro D m sc ⟨n, k, hI⟩ κ hκ
  have hI0 := hI
  obtain ⟨i1, i2, i3, i4, i5, i6, i7, i8, i9, i10, i11⟩ := hI
  have i40 := i4
  obtain ⟨⟨n1, n2⟩, ⟨k1, k2⟩, hh, hRel, hok⟩ := i4
  have b17 : 0 ≤ m 17 0 ∧ m 17 0 ≤ 6 := i1 17 0
  have b171 : 0 ≤ m 17 1 ∧ m 17 1 ≤ 8 := i1 17 1
  have b4 : 0 ≤ m 28 4 ∧ m 28 4 ≤ 12 := i1 28 4
  have b5 : 0 ≤ m 28 5 ∧ m 28 5 ≤ 12 := i1 28 5
  have hA12 : Agree coreK m (zu m 74 12 0) := .of (L := [(74, some 12)]) (zFr.refl.set rfl) rfl
  refine zb129_0 hT i1 (fun q hz => ?_) (fun q => ?_)
  · obtain ⟨u, hu⟩ : ∃ u : Nat, m 28 5 = (u : Int) + 1 := ⟨(m 28 5 - 1).toNat, by omega⟩
    obtain ⟨g1, g2, g3⟩ := i6.2 u (by omega)
    have hfr : frs (zu m 28 5 (m 28 5 - 1)) = slt m u := by
      rw [frsE hz, zu_off (by omega), zu_sm rfl, hu]
      unfold slt
      omega
    have hsl : slt m u < 13 := by unfold slt; omega
    refine z_back hT hz (fun m1 hB1 hF1 hb => ?_)
    rw [hfr, zu_ne (by omega)] at hb
    have hF1b : zFr (inL ((28, some 5) :: rtL)) m m1 := ((zFr.refl (m := m)).set (q := 28) (i := 5) (v := m 28 5 - 1) rfl).trans ((hF1.sub rtWL).sub (inL_sub (by decide)))
    have e285 : m1 28 5 = (u : Int) := by
      rw [(hF1.sub rtWL) 28 5 rfl, zu_sm rfl]
      omega
    refine zb129_31 hT rfl hB1 ?_
    rw [e285]
    refine hκ _ _ (fun D2 κ2 h2 => ?_)
    have e35 : m1 74 35 = (u : Int) + 1 := by rw [hF1b 74 35 rfl, i6.1, hu]
    refine zb241_0 hT hB1 (fun _ hz2 => ?_) (fun x => by omega)
    generalize hM : (zu (zu m1 74 12 0) 74 35 (m1 74 35 - 1)) = M at hz2 ⊢
    have eM35 : M 74 35 = (u : Int) := by
      rw [← hM, zu_sm rfl]
      omega
    have hFM : zFr (inL ((28, some 5) :: ((74, some 12) :: ((74, some 35) :: rtL)))) m M := by
      rw [← hM]
      exact ((hF1b.sub (inL_sub (by decide))).set rfl).set rfl
    refine z_undoCopy hT hz2 eM35 (by omega) (fun M1 hB2 hF2 h75 => ?_)
    have hF : zFr (inL ((28, some 5) :: ((74, some 12) :: ((74, some 35) :: ((75, none) :: rtL))))) m M1 := (hFM.sub (inL_sub (by decide))).trans (hF2.sub (inL_sub (by decide)))
    have t1 : zFr (inL [(74, some 12), (74, some 35), (75, none)]) m1 M1 := by
      rw [← hM] at hF2
      exact (((zFr.refl (m := m1)).set (q := 74) (i := 12) (v := 0) rfl).set rfl).trans (hF2.sub (inL_sub (by decide)))
    have e87 : ∀ j, M 87 j = m 87 j := fun j => hFM 87 j rfl
    have f75 : ∀ j, j < 59 → M1 75 j = m 87 (59 * u + j) := fun j hj => by rw [h75 j hj, e87]
    refine h2 _ _ (fun _ => rfl) ⟨n, k, Inv_hu hI0 hB2 (.of hF rfl) (House_back (by omega) (by omega) i40 (.of hF rfl) hb (.of t1 rfl) g1 g2 f75) ⟨?_, fun i hi => ?_⟩ ?_⟩
    · rw [hF2 74 35 rfl, eM35, t1 28 5 rfl, e285]
    · rw [t1 28 5 rfl, e285] at hi
      obtain ⟨c1, c2, c3⟩ := i6.2 i (by omega)
      have esl : slt M1 i = slt m i := by
        unfold slt
        rw [hF 28 4 rfl]
      have hsi : slt m i < 13 := by unfold slt; omega
      have er : M1 (30 + slt m i) = m (30 + slt m i) := funext fun j => hF _ j (dj_ok (K := momL) rfl (momL_in hsi j))
      have e87b : M1 87 = m 87 := funext fun j => hF 87 j rfl
      rw [esl, er, e87b]
      exact ⟨c1, c2, c3⟩
    · rw [f75 57 (by omega)]
      exact g3
  · refine hκ _ _ (fun D2 κ2 h2 => ?_)
    have e35 := i6.1
    exact zb241_0 hT i1 (fun x => by omega) (fun _ hz => h2 _ _ (fun _ => rfl) ⟨n, k, Inv_fr hA12 hz hI0⟩)
theorem w_keep (hT : zRules T) {v : Int} (hv : isI v) : Way T 159 287 [(0, zr 1), (1, zi v)] [(0, zr 74), (1, zi v)] 4 2 B B True := by
  rintro D m sc ⟨n, k, hI⟩ κ hκ
  have hI0 := hI
  obtain ⟨i1, i2, i3, i4, i5, i6, i7, i8, i9, i10, i11⟩ := hI
  have hA12 : Agree coreK m (zu m 74 12 0) := .of (L := [(74, some 12)]) (zFr.refl.set rfl) rfl
  obtain ⟨⟨n1, n2⟩, ⟨k1, k2⟩, hh, hRel, hok⟩ := i4
  have i40 : HouseRel n k m := ⟨⟨n1, n2⟩, ⟨k1, k2⟩, hh, hRel, hok⟩
  have b17 : 0 ≤ m 17 0 ∧ m 17 0 ≤ 6 := i1 17 0
  have b171 : 0 ≤ m 17 1 ∧ m 17 1 ≤ 8 := i1 17 1
  have no : ¬ (0 ≤ v ∧ v ≤ 1) → T (D + 4) 159 (12, [(0, zr 1), (1, zi v)], [zi 0], m) κ := by
    intro hno
    refine zb159_12 hT rfl (by omega) ?_
    refine hκ _ _ (fun D2 κ2 h2 => ?_)
    have fin : zB (zu m 74 12 0) → κ2 (some (zi 0)) (zu m 74 12 0) := fun hz => h2 _ _ (fun _ => rfl) ⟨n, k, Inv_fr hA12 hz hI0⟩
    exact zb287_0 hT i1 hv (fun _ hz => fin hz) (fun _ _ hz => fin hz) (fun q1 q2 => absurd ⟨by omega, by omega⟩ hno)
  -- kept under the number a
  have go : ∀ (a : Nat) (m1 : zM), a ≤ 1 → v = (a : Int) → zB m1 → zFr (rowW (44 + a)) m m1 → (∀ j, j < 59 → m1 (44 + a) j = cmom m j) → T (D + 3) 21 (21, [(0, zr 28), (1, zi v), (2, zr 17)], [], m1) (fun r m1 => T (D + 4) 159 (12, [(0, zr 1), (1, zi v)], r.toList ++ [], m1) κ) := by
    intro a m1 ha hva hB1 hF1 h1
    subst hva
    have hF1n : ∀ c j, c ≠ 44 + a → m1 c j = m c j := fun c j hc => hF1 c j (by
      cases hb : rowW (44 + a) c j with
      | false => rfl
      | true => exact absurd (Nat.eq_of_beq_eq_true hb) hc)
    refine zb21_21 (i := a) hT rfl hB1 ha (fun hz => ?_)
    refine zb159_12 hT rfl (by omega) ?_
    rw [hF1n 17 0 (by omega), hF1n 17 1 (by omega), n1, k1] at hz ⊢
    refine hκ _ _ (fun D2 κ2 h2 => ?_)
    refine zb287_0 hT hz hv (fun x => by omega) (fun _ x => by omega) (fun _ _ hz2 => ?_)
    rw [Int.toNat_natCast] at hz2 ⊢
    generalize hM : (zu (zu (zu (zu (zu m1 46 a (n : Int)) 47 a (k : Int)) 74 12 0) 107 a 1) 108 a ((zu (zu m1 46 a (n : Int)) 47 a (k : Int)) 74 62)) = M at hz2 ⊢
    rw [show (59 : Int) * (a : Int) = ((59 * a : Nat) : Int) by omega]
    refine z_lay_75_106 hT (by omega) ?_
    refine zb287_48 hT rfl ?_
    have hz3 : zB (z_cp M 75 106 0 (59 * a) 59) := by
      refine zB_cp hz2 (fun j j1 j2 => ?_)
      obtain ⟨t, rfl⟩ : ∃ t, j = 59 * a + t := ⟨j - 59 * a, by omega⟩
      rw [show 0 + (59 * a + t - 59 * a) = t by omega]
      exact zbd10675 (by omega) (hz2 75 t)
    -- what stands where
    have eM : ∀ c j, c ≠ 44 + a → c ≠ 46 → c ≠ 47 → ¬ (c = 74 ∧ j = 12) → c ≠ 107 → c ≠ 108 → M c j = m c j := fun c j c1 c2 c3 c4 c5 c6 => by
      rw [← hM, zu_dn c6, zu_dn c5]
      by_cases e : c = 74
      · subst e
        rw [zu_off (fun x => c4 ⟨rfl, x⟩), zu_dn (by omega), zu_dn (by omega)]
        exact hF1n 74 j (by omega)
      · rw [zu_dn e, zu_dn c3, zu_dn c2]
        exact hF1n c j c1
    have eN : ∀ c j, c ≠ 106 → z_cp M 75 106 0 (59 * a) 59 c j = M c j := fun c j hc => z_cp_dn hc
    have hA : Agree (KT ++ (KL ++ (KH ++ (KM ++ (KU ++ (KS ++ (KJ ++ KX))))))) m (z_cp M 75 106 0 (59 * a) 59) := fun c j hc => by
      have hd : c ≠ 44 ∧ c ≠ 45 ∧ c ≠ 46 ∧ c ≠ 47 ∧ ¬ (c = 74 ∧ j = 12) ∧ c ≠ 106 ∧ c ≠ 107 ∧ c ≠ 108 := by
        refine ⟨?_, ?_, ?_, ?_, ?_, ?_, ?_, ?_⟩
        · rintro rfl; cases hc
        · rintro rfl; cases hc
        · rintro rfl; cases hc
        · rintro rfl; cases hc
        · rintro ⟨rfl, rfl⟩; cases hc
        · rintro rfl; cases hc
        · rintro rfl; cases hc
        · rintro rfl; cases hc
      rw [eN c j hd.2.2.2.2.2.1]
      exact eM c j (by omega) (by omega) (by omega) hd.2.2.2.2.1 (by omega) (by omega)
    generalize hN : z_cp M 75 106 0 (59 * a) 59 = N at hz3 eN hA ⊢
    have sb : ∀ {K : zLs}, (∀ q, q ∈ K → q ∈ KT ++ (KL ++ (KH ++ (KM ++ (KU ++ (KS ++ (KJ ++ KX))))))) → Agree K m N := fun hs => hA.sub hs
    have m1' : ∀ {L1 L2 : zLs} {q : Nat × Option Nat}, q ∈ L1 → q ∈ L1 ++ L2 := fun q => List.mem_append.mpr (Or.inl q)
    have m2' : ∀ {L1 L2 : zLs} {q : Nat × Option Nat}, q ∈ L2 → q ∈ L1 ++ L2 := fun q => List.mem_append.mpr (Or.inr q)
    have e7462 : N 74 62 = m 74 62 := by
      rw [eN 74 62 (by omega)]
      exact eM 74 62 (by omega) (by omega) (by omega) (fun x => by omega) (by omega) (by omega)
    have eM108 : ∀ i, M 108 i = if i = a then m 74 62 else m 108 i := fun i => by
      have e62 : (zu (zu m1 46 a (n : Int)) 47 a (k : Int)) 74 62 = m 74 62 := by
        rw [zu_dn (by omega), zu_dn (by omega)]
        exact hF1n 74 62 (by omega)
      rw [← hM, zu_at, e62]
      split
      · rfl
      · rw [zu_dn (by omega), zu_dn (by omega), zu_dn (by omega), zu_dn (by omega)]
        exact hF1n 108 i (by omega)
    have eM107 : ∀ i, M 107 i = if i = a then 1 else m 107 i := fun i => by
      rw [← hM, zu_dn (by omega), zu_at]
      split
      · rfl
      · rw [zu_dn (by omega), zu_dn (by omega), zu_dn (by omega)]
        exact hF1n 107 i (by omega)
    have eM46 : ∀ i, M 46 i = if i = a then (n : Int) else m 46 i := fun i => by
      rw [← hM, zu_dn (by omega), zu_dn (by omega), zu_dn (by omega), zu_dn (by omega), zu_at]
      split
      · rfl
      · exact hF1n 46 i (by omega)
    have eM47 : ∀ i, M 47 i = if i = a then (k : Int) else m 47 i := fun i => by
      rw [← hM, zu_dn (by omega), zu_dn (by omega), zu_dn (by omega), zu_at]
      split
      · rfl
      · rw [zu_dn (by omega)]
        exact hF1n 47 i (by omega)
    have eM44 : ∀ i, i < 2 → M (44 + i) = m1 (44 + i) := fun i hi => funext fun j => by
      rw [← hM, zu_dn (by omega), zu_dn (by omega), zu_dn (by omega), zu_dn (by omega), zu_dn (by omega)]
    refine h2 _ _ (fun _ => rfl) ⟨n, k, hz3, Text_fr (sb (fun q hq => m1' hq)) i2, (sb (fun q hq => m2' (m1' hq))).law.1 i3, House_fr (sb (fun q hq => m2' (m2' (m1' hq)))) i40, Term_fr (sb (fun q hq => m2' (m2' (m2' (m1' hq))))) i5, Undo_fr (sb (fun q hq => m2' (m2' (m2' (m2' (m1' hq)))))) i6, ⟨by rw [e7462]; exact i7.1, fun i hi => ?_⟩, Seen_fr (sb (fun q hq => m2' (m2' (m2' (m2' (m2' (m1' hq))))))) i8, Job_fr (sb (fun q hq => m2' (m2' (m2' (m2' (m2' (m2' (m1' hq)))))))) i9, Now_fr (sb (fun q hq => m2' (m2' (m1' hq)))) i10, Scr_fr (sb (fun q hq => m2' (m2' (m2' (m2' (m2' (m2' (m2' hq)))))))) i11⟩
    rw [eN 107 i (by omega), eN 46 i (by omega), eN 47 i (by omega), eN 108 i (by omega), e7462, eM107, eM46, eM47, eM108, show N (44 + i) = M (44 + i) from funext fun j => eN _ j (by omega), eM44 i hi]
    by_cases e : i = a
    · subst e
      have erow : ∀ j, j < 59 → N 106 (59 * i + j) = m 75 j := fun j hj => by
        rw [← hN, z_cp_in (by omega), show 0 + (59 * i + j - 59 * i) = j by omega]
        exact eM 75 j (by omega) (by omega) (by omega) (fun x => by omega) (by omega) (by omega)
      rw [if_pos rfl, if_pos rfl, if_pos rfl, if_pos rfl]
      exact Or.inr ⟨rfl, n, k, ⟨rfl, rfl⟩, ⟨Nat.le_refl _, Nat.le_refl _⟩, ⟨i7.1.1, Int.le_refl _⟩, fun _ => ⟨rfl, rfl⟩, fun x => by omega, (RelM.of (by omega) (by omega) hok.2.1.2 hRel h1).congr (by omega) (by omega) hok.2.1.2 erow, hok.congr (by omega) (by omega) (fun j hj => erow j (by omega)), by rw [erow 57 (by omega)]; exact i10⟩
    · have erow : ∀ j, j < 59 → N 106 (59 * i + j) = m 106 (59 * i + j) := fun j hj => by
        rw [← hN, z_cp_of (by omega)]
        exact eM 106 _ (by omega) (by omega) (by omega) (fun x => by omega) (by omega) (by omega)
      have e44 : m1 (44 + i) = m (44 + i) := funext fun j => hF1n _ j (by omega)
      rw [if_neg e, if_neg e, if_neg e, if_neg e, e44]
      rcases i7.2 i hi with x | ⟨x1, kp, kc, x2, x3, x4, x5, x6, x7, x8, x9⟩
      · exact Or.inl x
      · exact Or.inr ⟨x1, kp, kc, x2, x3, x4, x5, x6, x7.congr (by omega) (by omega) x8.2.1.2 erow, x8.congr (by omega) (by omega) (fun j hj => erow j (by omega)), by rw [erow 57 (by omega)]; exact x9⟩
  refine zb159_0 hT i1 hv ?_
  refine zb21_0 hT i1 hv (fun q => no (by omega)) (fun q1 q2 q3 => ?_) (fun q1 q2 q3 => ?_) (fun q1 q2 => no (by omega))
  · exact z_wt44 hT i1 (fun m1 hB1 hF1 h1 => go 0 m1 (by omega) (by omega) hB1 hF1 h1)
  · exact z_wt45 hT i1 (fun m1 hB1 hF1 h1 => go 1 m1 (by omega) (by omega) hB1 hF1 h1)
theorem w_again (hT : zRules T) {v : Int} (hv : isI v) : Way T 160 288 [(0, zr 1), (1, zi v)] [(0, zr 74), (1, zi v)] 4 2 B B True := by
  rintro D m sc ⟨n, k, hI⟩ κ hκ
  have hI0 := hI
  obtain ⟨i1, i2, i3, i4, i5, i6, i7, i8, i9, i10, i11⟩ := hI
  have hA12 : Agree coreK m (zu m 74 12 0) := .of (L := [(74, some 12)]) (zFr.refl.set rfl) rfl
  have i40 := i4
  obtain ⟨⟨n1, n2⟩, ⟨k1, k2⟩, hh, hRel, hok⟩ := i4
  have b17 : 0 ≤ m 17 0 ∧ m 17 0 ≤ 6 := i1 17 0
  have b171 : 0 ≤ m 17 1 ∧ m 17 1 ≤ 8 := i1 17 1
  -- which are refused
  have hdec : ∀ a : Nat, a < 2 → (wr (m 46 a) = m 17 0 ∧ wr (m 47 a) = m 17 1 ↔ ¬ m 107 a = 0 ∧ wr (m 108 a) = wr (m 74 62)) := fun a ha => by
    rcases i7.2 a ha with ⟨x1, x2⟩ | ⟨x1, kp, kc, ⟨x2, x2'⟩, x3, x4, x5, x6, x7, x8, x9⟩
    · rw [x1, x2]
      constructor
      · rintro ⟨y, -⟩
        have : wr (-1) = -1 := rfl
        omega
      · rintro ⟨y, -⟩
        exact absurd rfl y
    · have h62 := i7.1
      rw [x1, x2, x2', wr_id (by omega) (by omega), wr_id (by omega) (by omega), wr_id (by omega) (by omega), wr_id (by omega) (by omega)]
      constructor
      · rintro ⟨y1, y2⟩
        refine ⟨by omega, ?_⟩
        by_cases z : m 108 a < m 74 62
        · have := x6 z
          omega
        · omega
      · rintro ⟨-, y⟩
        obtain ⟨z1, z2⟩ := x5 y
        omega
  have no : ¬ (0 ≤ v ∧ v < 2 ∧ wr (m 46 v.toNat) = m 17 0 ∧ wr (m 47 v.toNat) = m 17 1) → κ (some (zi 0)) m := by
    intro hno
    refine hκ _ _ (fun D2 κ2 h2 => ?_)
    have fin : zB (zu m 74 12 0) → κ2 (some (zi 0)) (zu m 74 12 0) := fun hz => h2 _ _ (fun _ => rfl) ⟨n, k, Inv_fr hA12 hz hI0⟩
    refine zb288_0 hT i1 hv (fun _ hz => fin hz) (fun _ _ hz => fin hz) (fun _ _ _ hz => fin hz) (fun q1 q2 q3 q4 hz => ?_) (fun _ _ _ _ hz => fin hz)
    have := (hdec v.toNat (by omega)).mpr ⟨q3, q4⟩
    exact absurd ⟨by omega, by omega, this.1, this.2⟩ hno
  refine zb160_0 hT i1 hv (fun q => no (fun x => by omega)) (fun q1 q2 => no (fun x => by omega)) (fun q1 q2 q3 => no (fun x => q3 x.2.2.1)) (fun q1 q2 q3 q4 => no (fun x => q4 x.2.2.2)) (fun q1 q2 q3 q4 => ?_)
  obtain ⟨a, rfl⟩ : ∃ a : Nat, v = (a : Int) := ⟨v.toNat, by omega⟩
  rw [Int.toNat_natCast] at q3 q4
  obtain ⟨y1, y2⟩ := (hdec a (by omega)).mp ⟨q3, q4⟩
  have hk7 := i7.2 a (by omega)
  have hk7b : ∃ g : Nat → Int, g = (fun j => m 106 (59 * a + j)) ∧ RelM n k (m (44 + a)) g ∧ okRow n k g ∧ g 57 ≤ B := by
    rcases hk7 with ⟨x1, x2⟩ | ⟨x1, kp, kc, ⟨x2, x2'⟩, x3, x4, x5, x6, x7, x8, x9⟩
    · exact absurd x1 y1
    · have h62 := i7.1
      rw [wr_id (by omega) (by omega), wr_id (by omega) (by omega)] at y2
      obtain ⟨z1, z2⟩ := x5 y2
      subst z1 z2
      exact ⟨_, rfl, x7, x8, x9⟩
  obtain ⟨g, hg, hRM, hokg, hgB⟩ := hk7b
  have go : ∀ m1, zB m1 → zFr rtW m m1 → Brought m1 (m (44 + a)) → T (D + 3) 23 (10, [(0, zr 28), (1, zi (a : Int)), (2, zr 17)], [], m1) (fun r m1 => T (D + 4) 160 (29, [(0, zr 1), (1, zi (a : Int))], r.toList ++ [], m1) κ) := by
    intro m1 hB1 hF1 hb
    refine zb23_10 hT rfl ?_
    refine zb160_29 hT rfl hB1 (fun hz => ?_)
    refine hκ _ _ (fun D2 κ2 h2 => ?_)
    have hF1b : zFr (inL ((28, some 5) :: rtL)) m (zu m1 28 5 0) := ((hF1.sub rtWL).sub (inL_sub (by decide))).set rfl
    have e107 : (zu m1 28 5 0) 107 a = m 107 a := hF1b 107 a rfl
    have e108 : (zu m1 28 5 0) 108 a = m 108 a := hF1b 108 a rfl
    have e62 : (zu m1 28 5 0) 74 62 = m 74 62 := hF1b 74 62 rfl
    refine zb288_0 hT hz hv (fun x => by omega) (fun _ x => by omega) (fun _ _ x => absurd (by rw [← e107]; exact x) y1) (fun _ _ _ _ hz2 => ?_) (fun _ _ _ x => absurd (by rw [Int.toNat_natCast, e108, e62]; exact y2) x)
    refine z_againCopy hT hz2 (by omega) (fun M1 hB2 hF2 h75 => ?_)
    have hF : zFr (inL ((28, some 5) :: ((74, some 12) :: ((74, some 35) :: ((75, none) :: rtL))))) m (zu M1 74 35 0) := (((hF1b.sub (inL_sub (by decide))).set (q := 74) (i := 12) (v := 0) rfl).trans (hF2.sub (inL_sub (by decide)))).set rfl
    have t1 : zFr (inL [(28, some 5), (74, some 12), (74, some 35), (75, none)]) m1 (zu M1 74 35 0) := ((((zFr.refl (m := m1)).set (q := 28) (i := 5) (v := 0) rfl).set (q := 74) (i := 12) (v := 0) rfl).trans (hF2.sub (inL_sub (by decide)))).set rfl
    have f75 : ∀ j, j < 59 → (zu M1 74 35 0) 75 j = g j := fun j hj => by
      rw [zu_dn (by omega), h75 j hj, hg]
      show (zu (zu m1 28 5 0) 74 12 0) 106 _ = _
      rw [zu_dn (by omega)]
      exact hF1b 106 _ rfl
    have e285 : (zu M1 74 35 0) 28 5 = 0 := by
      rw [zu_dn (by omega), hF2 28 5 rfl, zu_dn (by omega), zu_sm rfl]
    refine h2 _ _ (fun _ => rfl) ⟨n, k, Inv_hu hI0 hB2 (.of hF rfl) (House_back (by omega) (by omega) i40 (.of hF rfl) hb (.of t1 rfl) hRM hokg f75) ⟨?_, fun i hi => ?_⟩ ?_⟩
    · rw [zu_sm rfl, e285]
    · rw [e285] at hi
      omega
    · rw [f75 57 (by omega)]
      exact hgB
  refine zb23_0 (i := a) hT i1 (by omega) (fun x => ?_) (fun x => ?_)
  · have ea : a = 0 := by omega
    subst ea
    exact z_rt44 hT i1 go
  · have ea : a = 1 := by omega
    subst ea
    exact z_rt45 hT i1 go
end ZKept
end
-- 76.b11.lean.txt
section
section ZBlocks
variable {T : Nat → Nat → zG → (Option zA → zM → Prop) → Prop}
theorem zb218_0nr (hT : zRules T) {D : Nat} {κ : Option zA → zM → Prop} {m : zM} {p : Nat} {w : Int} 
    (o1 : wr (p : Int) < 0 → False)
    (o2 : ¬ wr (p : Int) < 0 → wr ((m 74 4) - 1) < wr (p : Int) → κ (some (zi 0)) (zu (zu m 74 12 0) 74 12 1))
    (o3 : ¬ wr (p : Int) < 0 → ¬ wr ((m 74 4) - 1) < wr (p : Int) → wr w < 0 → κ (some (zi 0)) (zu (zu m 74 12 0) 74 12 1))
    (o4 : ¬ wr (p : Int) < 0 → ¬ wr ((m 74 4) - 1) < wr (p : Int) → ¬ wr w < 0 → 4 < wr w → κ (some (zi 0)) (zu (zu m 74 12 0) 74 12 1))
    (o5 : ¬ wr (p : Int) < 0 → ¬ wr ((m 74 4) - 1) < wr (p : Int) → ¬ wr w < 0 → ¬ 4 < wr w → (0 ≤ wr (6 + (p : Int)) ∧ wr (6 + (p : Int)) < 59))
    (o6 : ¬ wr (p : Int) < 0 → ¬ wr ((m 74 4) - 1) < wr (p : Int) → ¬ wr w < 0 → ¬ 4 < wr w → wr w = 0 → (0 ≤ wr (p : Int) ∧ wr (p : Int) < 6))
    (o7 : ¬ wr (p : Int) < 0 → ¬ wr ((m 74 4) - 1) < wr (p : Int) → ¬ wr w < 0 → ¬ 4 < wr w → wr w = 0 → κ (some (zi (wr (m 78 ((wr (p : Int)).toNat))))) (zu m 74 12 0))
    (o8 : ¬ wr (p : Int) < 0 → ¬ wr ((m 74 4) - 1) < wr (p : Int) → ¬ wr w < 0 → ¬ 4 < wr w → ¬ wr w = 0 → wr w = 1 → (0 ≤ wr (p : Int) ∧ wr (p : Int) < 59))
    (o9 : ¬ wr (p : Int) < 0 → ¬ wr ((m 74 4) - 1) < wr (p : Int) → ¬ wr w < 0 → ¬ 4 < wr w → ¬ wr w = 0 → wr w = 1 → κ (some (zi (wr (m 75 ((wr (p : Int)).toNat))))) (zu m 74 12 0))
    (o10 : ¬ wr (p : Int) < 0 → ¬ wr ((m 74 4) - 1) < wr (p : Int) → ¬ wr w < 0 → ¬ 4 < wr w → ¬ wr w = 0 → ¬ wr w = 1 → wr w = 2 → κ (some (zi (wr (m 75 ((wr (6 + (p : Int))).toNat))))) (zu m 74 12 0))
    (o11 : ¬ wr (p : Int) < 0 → ¬ wr ((m 74 4) - 1) < wr (p : Int) → ¬ wr w < 0 → ¬ 4 < wr w → ¬ wr w = 0 → ¬ wr w = 1 → ¬ wr w = 2 → wr w = 3 → T (D + 4) 216 (0, [(0, zr 74), (1, zi (p : Int)), (2, zi 0)], [], (zu m 74 12 0)) (fun r m1 => T (D + 5) 218 (90, [(0, zr 74), (1, zi (p : Int)), (2, zi w), (3, zi (m 75 ((wr (6 + (p : Int))).toNat)))], r.toList ++ [], m1) κ))
    (o12 : ¬ wr (p : Int) < 0 → ¬ wr ((m 74 4) - 1) < wr (p : Int) → ¬ wr w < 0 → ¬ 4 < wr w → ¬ wr w = 0 → ¬ wr w = 1 → ¬ wr w = 2 → ¬ wr w = 3 → wr (m 75 ((wr (6 + (p : Int))).toNat)) = (-1) → κ (some (zi 0)) (zu m 74 12 0))
    (o13 : ¬ wr (p : Int) < 0 → ¬ wr ((m 74 4) - 1) < wr (p : Int) → ¬ wr w < 0 → ¬ 4 < wr w → ¬ wr w = 0 → ¬ wr w = 1 → ¬ wr w = 2 → ¬ wr w = 3 → ¬ wr (m 75 ((wr (6 + (p : Int))).toNat)) = (-1) → (0 ≤ wr (12 + (m 75 ((wr (6 + (p : Int))).toNat))) ∧ wr (12 + (m 75 ((wr (6 + (p : Int))).toNat))) < 59))
    (o14 : ¬ wr (p : Int) < 0 → ¬ wr ((m 74 4) - 1) < wr (p : Int) → ¬ wr w < 0 → ¬ 4 < wr w → ¬ wr w = 0 → ¬ wr w = 1 → ¬ wr w = 2 → ¬ wr w = 3 → ¬ wr (m 75 ((wr (6 + (p : Int))).toNat)) = (-1) → T (D + 4) 216 (0, [(0, zr 74), (1, zi (p : Int)), (2, zi 0)], [], (zu m 74 12 0)) (fun r m1 => T (D + 5) 218 (111, [(0, zr 74), (1, zi (p : Int)), (2, zi w), (3, zi (m 75 ((wr (6 + (p : Int))).toNat)))], r.toList ++ [zi (m 75 ((wr (12 + (m 75 ((wr (6 + (p : Int))).toNat)))).toNat))], m1) κ)) :
    T (D + 5) 218 (0, [(0, zr 74), (1, zi (p : Int)), (2, zi w)], [], m) κ :=
  hT.1 [] 6 (D + 5) 218 _ κ (And.intro trivial (hT.1 [] 6 (D + 4) 190 _ _ (hT.1 [] 6 (D + 4) 190 (8, [(0, zr 74), (1, zi (p : Int))], [zi ((m 74 4) - 1), zi 0, zi (p : Int)], (zu m 74 12 0)) _ (hT.1 [] 6 (D + 3) 186 _ _ (And.intro (fun a1 => (o1 a1).elim) (fun a2 => (And.intro (fun a3 => (hT.1 [] 6 (D + 3) 186 (14, [(0, zi (p : Int)), (1, zi 0), (2, zi ((m 74 4) - 1))], [], (zu m 74 12 0)) _ (And.intro (z_b01L rfl) (hT.1 [] 6 (D + 4) 190 _ _ (And.intro (z_b01L rfl) (hT.1 [] 6 (D + 5) 218 _ _ (And.intro (fun _ => (hT.1 [] 6 (D + 4) 188 _ _ (And.intro trivial (hT.1 [] 6 (D + 5) 218 _ _ (o2 a2 a3))))) (fun a5 => (a5 (z_litT rfl)).elim)))))))) (fun a4 => (hT.1 [] 6 (D + 3) 186 (10, [(0, zi (p : Int)), (1, zi 0), (2, zi ((m 74 4) - 1))], [], (zu m 74 12 0)) _ (And.intro (z_b01L rfl) (hT.1 [] 6 (D + 4) 190 _ _ (And.intro (z_b01L rfl) (hT.1 [] 6 (D + 5) 218 _ _ (And.intro (fun a6 => (z_litF a6 rfl).elim) (fun _ => (hT.1 [] 6 (D + 4) 186 _ _ (And.intro (fun a7 => (And.intro (z_b01L rfl) (hT.1 [] 6 (D + 5) 218 _ _ (And.intro (fun a9 => (z_litF a9 rfl).elim) (fun _ => (hT.1 [] 6 (D + 4) 188 _ _ (And.intro trivial (hT.1 [] 6 (D + 5) 218 _ _ (o3 a2 a4 a7))))))))) (fun a8 => (And.intro (fun a10 => (hT.1 [] 6 (D + 4) 186 (14, [(0, zi w), (1, zi 0), (2, zi 4)], [], (zu m 74 12 0)) _ (And.intro (z_b01L rfl) (hT.1 [] 6 (D + 5) 218 _ _ (And.intro (fun a12 => (z_litF a12 rfl).elim) (fun _ => (hT.1 [] 6 (D + 4) 188 _ _ (And.intro trivial (hT.1 [] 6 (D + 5) 218 _ _ (o4 a2 a4 a8 a10)))))))))) (fun a11 => (hT.1 [] 6 (D + 4) 186 (10, [(0, zi w), (1, zi 0), (2, zi 4)], [], (zu m 74 12 0)) _ (And.intro (z_b01L rfl) (hT.1 [] 6 (D + 5) 218 _ _ (And.intro (fun _ => (hT.1 [] 6 (D + 5) 218 (35, [(0, zr 74), (1, zi (p : Int)), (2, zi w)], [zi (6 + (p : Int)), zr 75], (zu m 74 12 0)) _ (And.intro (o5 a2 a4 a8 a11) (And.intro (fun a14 => (hT.1 [] 6 (D + 5) 218 (72, [(0, zr 74), (1, zi (p : Int)), (2, zi w), (3, zi (m 75 ((wr (6 + (p : Int))).toNat)))], [zr 78], (zu m 74 12 0)) _ (And.intro (o6 a2 a4 a8 a11 a14) (o7 a2 a4 a8 a11 a14)))) (fun a15 => (And.intro (fun a16 => (hT.1 [] 6 (D + 5) 218 (79, [(0, zr 74), (1, zi (p : Int)), (2, zi w), (3, zi (m 75 ((wr (6 + (p : Int))).toNat)))], [zr 75], (zu m 74 12 0)) _ (And.intro (o8 a2 a4 a8 a11 a15 a16) (o9 a2 a4 a8 a11 a15 a16)))) (fun a17 => (And.intro (fun a18 => (o10 a2 a4 a8 a11 a15 a17 a18)) (fun a19 => (And.intro (fun a20 => (hT.1 [] 6 (D + 5) 218 (86, [(0, zr 74), (1, zi (p : Int)), (2, zi w), (3, zi (m 75 ((wr (6 + (p : Int))).toNat)))], [zi (p : Int), zr 74], (zu m 74 12 0)) _ (o11 a2 a4 a8 a11 a15 a17 a19 a20))) (fun a21 => (hT.1 [] 6 (D + 5) 218 (93, [(0, zr 74), (1, zi (p : Int)), (2, zi w), (3, zi (m 75 ((wr (6 + (p : Int))).toNat)))], [zi (-1), zi (m 75 ((wr (6 + (p : Int))).toNat))], (zu m 74 12 0)) _ (And.intro (fun a22 => (o12 a2 a4 a8 a11 a15 a17 a19 a21 a22)) (fun a23 => (hT.1 [] 6 (D + 5) 218 (104, [(0, zr 74), (1, zi (p : Int)), (2, zi w), (3, zi (m 75 ((wr (6 + (p : Int))).toNat)))], [zi (12 + (m 75 ((wr (6 + (p : Int))).toNat))), zr 75], (zu m 74 12 0)) _ (And.intro (o13 a2 a4 a8 a11 a15 a17 a19 a21 a23) (o14 a2 a4 a8 a11 a15 a17 a19 a21 a23))))))))))))))))) (fun a13 => (a13 (z_litT rfl)).elim)))))))))))))))))))))))))
theorem zb218_0n (hT : zRules T) {D : Nat} {κ : Option zA → zM → Prop} {m : zM} {p : Nat} {w : Int}  (hB : zB m) (h_p : p ≤ 5) (h_w : (-2147483648) ≤ w ∧ w ≤ 2147483647) 
    (k1 : ((m 74 4) - 1) < (p : Int) → zB (zu (zu m 74 12 0) 74 12 1) → κ (some (zi 0)) (zu (zu m 74 12 0) 74 12 1))
    (k2 : ¬ ((m 74 4) - 1) < (p : Int) → w < 0 → zB (zu (zu m 74 12 0) 74 12 1) → κ (some (zi 0)) (zu (zu m 74 12 0) 74 12 1))
    (k3 : ¬ ((m 74 4) - 1) < (p : Int) → ¬ w < 0 → 4 < w → zB (zu (zu m 74 12 0) 74 12 1) → κ (some (zi 0)) (zu (zu m 74 12 0) 74 12 1))
    (k4 : ¬ ((m 74 4) - 1) < (p : Int) → ¬ w < 0 → ¬ 4 < w → w = 0 → zB (zu m 74 12 0) → κ (some (zi (m 78 p))) (zu m 74 12 0))
    (k5 : ¬ ((m 74 4) - 1) < (p : Int) → ¬ w < 0 → ¬ 4 < w → ¬ w = 0 → w = 1 → zB (zu m 74 12 0) → κ (some (zi (m 75 p))) (zu m 74 12 0))
    (k6 : ¬ ((m 74 4) - 1) < (p : Int) → ¬ w < 0 → ¬ 4 < w → ¬ w = 0 → ¬ w = 1 → w = 2 → zB (zu m 74 12 0) → κ (some (zi (m 75 (p + 6)))) (zu m 74 12 0))
    (k7 : ¬ ((m 74 4) - 1) < (p : Int) → ¬ w < 0 → ¬ 4 < w → ¬ w = 0 → ¬ w = 1 → ¬ w = 2 → w = 3 → zB (zu m 74 12 0) → T (D + 4) 216 (0, [(0, zr 74), (1, zi (p : Int)), (2, zi 0)], [], (zu m 74 12 0)) (fun r m1 => T (D + 5) 218 (90, [(0, zr 74), (1, zi (p : Int)), (2, zi w), (3, zi (m 75 (p + 6)))], r.toList ++ [], m1) κ))
    (k8 : ¬ ((m 74 4) - 1) < (p : Int) → ¬ w < 0 → ¬ 4 < w → ¬ w = 0 → ¬ w = 1 → ¬ w = 2 → ¬ w = 3 → (m 75 (p + 6)) = (-1) → zB (zu m 74 12 0) → κ (some (zi 0)) (zu m 74 12 0))
    (k9 : ¬ ((m 74 4) - 1) < (p : Int) → ¬ w < 0 → ¬ 4 < w → ¬ w = 0 → ¬ w = 1 → ¬ w = 2 → ¬ w = 3 → ¬ (m 75 (p + 6)) = (-1) → zB (zu m 74 12 0) → T (D + 4) 216 (0, [(0, zr 74), (1, zi (p : Int)), (2, zi 0)], [], (zu m 74 12 0)) (fun r m1 => T (D + 5) 218 (111, [(0, zr 74), (1, zi (p : Int)), (2, zi w), (3, zi (m 75 (p + 6)))], r.toList ++ [zi (m 75 ((12 + (m 75 (p + 6))).toNat))], m1) κ)) :
    T (D + 5) 218 (0, [(0, zr 74), (1, zi (p : Int)), (2, zi w)], [], m) κ := by
  have hb2 : 0 ≤ (m 74 4) ∧ (m 74 4) ≤ 6 := hB 74 4
  have hb3 : (-1) ≤ (m 75 (p + 6)) ∧ (m 75 (p + 6)) ≤ 7 := zSg hB 75 6 12 (-1) 7 rfl (p + 6) (by omega) (by omega)
  have hb4 : 0 ≤ (m 78 p) ∧ (m 78 p) ≤ 99 := hB 78 p
  have hb5 : 0 ≤ (m 75 p) ∧ (m 75 p) ≤ 3 := zSg hB 75 0 6 0 3 rfl p (by omega) (by omega)
  have hb6 : (-1) ≤ (m 75 ((12 + (m 75 (p + 6))).toNat)) ∧ (m 75 ((12 + (m 75 (p + 6))).toNat)) ≤ 99 := zSg hB 75 6 20 (-1) 99 rfl ((12 + (m 75 (p + 6))).toNat) (by omega) (by omega)
  have he0 : wr (p : Int) = (p : Int) := wr_id (by omega) (by omega)
  have he1 : wr ((m 74 4) - 1) = ((m 74 4) - 1) := wr_id (by omega) (by omega)
  have he2 : wr w = w := wr_id (by omega) (by omega)
  have he3 : wr (6 + (p : Int)) = (6 + (p : Int)) := wr_id (by omega) (by omega)
  have he4 : (6 + (p : Int)).toNat = p + 6 := by omega
  have he5 : (p : Int).toNat = p := by omega
  have he6 : wr (m 78 p) = (m 78 p) := wr_id (by omega) (by omega)
  have he7 : wr (m 75 p) = (m 75 p) := wr_id (by omega) (by omega)
  have he8 : wr (m 75 (p + 6)) = (m 75 (p + 6)) := wr_id (by omega) (by omega)
  have he9 : wr (12 + (m 75 (p + 6))) = (12 + (m 75 (p + 6))) := wr_id (by omega) (by omega)
  have key := @zb218_0nr T hT D κ m p w
  simp only [he0, he1, he2, he3, he4, he5, he6, he7, he8, he9, Int.toNat_natCast] at key
  exact key
    (fun x0 => by omega)
    (fun x0 x1 => k1 x1 (zB_u (zB_u hB trivial) trivial))
    (fun x0 x1 x2 => k2 x1 x2 (zB_u (zB_u hB trivial) trivial))
    (fun x0 x1 x2 x3 => k3 x1 x2 x3 (zB_u (zB_u hB trivial) trivial))
    (fun x0 x1 x2 x3 => by refine ⟨?_, ?_⟩ <;> omega)
    (fun x0 x1 x2 x3 x4 => by refine ⟨?_, ?_⟩ <;> omega)
    (fun x0 x1 x2 x3 x4 => k4 x1 x2 x3 x4 (zB_u hB trivial))
    (fun x0 x1 x2 x3 x4 x5 => by refine ⟨?_, ?_⟩ <;> omega)
    (fun x0 x1 x2 x3 x4 x5 => k5 x1 x2 x3 x4 x5 (zB_u hB trivial))
    (fun x0 x1 x2 x3 x4 x5 x6 => k6 x1 x2 x3 x4 x5 x6 (zB_u hB trivial))
    (fun x0 x1 x2 x3 x4 x5 x6 x7 => k7 x1 x2 x3 x4 x5 x6 x7 (zB_u hB trivial))
    (fun x0 x1 x2 x3 x4 x5 x6 x7 x8 => k8 x1 x2 x3 x4 x5 x6 x7 x8 (zB_u hB trivial))
    (fun x0 x1 x2 x3 x4 x5 x6 x7 x8 => by refine ⟨?_, ?_⟩ <;> omega)
    (fun x0 x1 x2 x3 x4 x5 x6 x7 x8 => k9 x1 x2 x3 x4 x5 x6 x7 x8 (zB_u hB trivial))
theorem zb219_0nr (hT : zRules T) {D : Nat} {κ : Option zA → zM → Prop} {m : zM} {c : Nat} {w : Int} 
    (o1 : wr (c : Int) < 0 → False)
    (o2 : ¬ wr (c : Int) < 0 → wr ((m 74 6) - 1) < wr (c : Int) → κ (some (zi 0)) (zu (zu m 74 12 0) 74 12 1))
    (o3 : ¬ wr (c : Int) < 0 → ¬ wr ((m 74 6) - 1) < wr (c : Int) → wr w < 0 → κ (some (zi 0)) (zu (zu m 74 12 0) 74 12 1))
    (o4 : ¬ wr (c : Int) < 0 → ¬ wr ((m 74 6) - 1) < wr (c : Int) → ¬ wr w < 0 → 4 < wr w → κ (some (zi 0)) (zu (zu m 74 12 0) 74 12 1))
    (o5 : ¬ wr (c : Int) < 0 → ¬ wr ((m 74 6) - 1) < wr (c : Int) → ¬ wr w < 0 → ¬ 4 < wr w → wr w = 0 → (0 ≤ wr (12 + (c : Int)) ∧ wr (12 + (c : Int)) < 59))
    (o6 : ¬ wr (c : Int) < 0 → ¬ wr ((m 74 6) - 1) < wr (c : Int) → ¬ wr w < 0 → ¬ 4 < wr w → wr w = 0 → κ (some (zi (wr (m 75 ((wr (12 + (c : Int))).toNat))))) (zu m 74 12 0))
    (o7 : ¬ wr (c : Int) < 0 → ¬ wr ((m 74 6) - 1) < wr (c : Int) → ¬ wr w < 0 → ¬ 4 < wr w → ¬ wr w = 0 → wr w = 1 → (0 ≤ wr (20 + (c : Int)) ∧ wr (20 + (c : Int)) < 59))
    (o8 : ¬ wr (c : Int) < 0 → ¬ wr ((m 74 6) - 1) < wr (c : Int) → ¬ wr w < 0 → ¬ 4 < wr w → ¬ wr w = 0 → wr w = 1 → κ (some (zi (wr (m 75 ((wr (20 + (c : Int))).toNat))))) (zu m 74 12 0))
    (o9 : ¬ wr (c : Int) < 0 → ¬ wr ((m 74 6) - 1) < wr (c : Int) → ¬ wr w < 0 → ¬ 4 < wr w → ¬ wr w = 0 → ¬ wr w = 1 → wr w = 2 → (0 ≤ wr (12 + (c : Int)) ∧ wr (12 + (c : Int)) < 59))
    (o10 : ¬ wr (c : Int) < 0 → ¬ wr ((m 74 6) - 1) < wr (c : Int) → ¬ wr w < 0 → ¬ 4 < wr w → ¬ wr w = 0 → ¬ wr w = 1 → wr w = 2 → (0 ≤ wr (20 + (c : Int)) ∧ wr (20 + (c : Int)) < 59))
    (o11 : ¬ wr (c : Int) < 0 → ¬ wr ((m 74 6) - 1) < wr (c : Int) → ¬ wr w < 0 → ¬ 4 < wr w → ¬ wr w = 0 → ¬ wr w = 1 → wr w = 2 → κ (some (zi (wr ((m 75 ((wr (12 + (c : Int))).toNat)) + (m 75 ((wr (20 + (c : Int))).toNat)))))) (zu m 74 12 0))
    (o12 : ¬ wr (c : Int) < 0 → ¬ wr ((m 74 6) - 1) < wr (c : Int) → ¬ wr w < 0 → ¬ 4 < wr w → ¬ wr w = 0 → ¬ wr w = 1 → ¬ wr w = 2 → wr w = 3 → (0 ≤ wr (28 + (c : Int)) ∧ wr (28 + (c : Int)) < 59))
    (o13 : ¬ wr (c : Int) < 0 → ¬ wr ((m 74 6) - 1) < wr (c : Int) → ¬ wr w < 0 → ¬ 4 < wr w → ¬ wr w = 0 → ¬ wr w = 1 → ¬ wr w = 2 → wr w = 3 → κ (some (zi (wr (m 75 ((wr (28 + (c : Int))).toNat))))) (zu m 74 12 0))
    (o14 : ¬ wr (c : Int) < 0 → ¬ wr ((m 74 6) - 1) < wr (c : Int) → ¬ wr w < 0 → ¬ 4 < wr w → ¬ wr w = 0 → ¬ wr w = 1 → ¬ wr w = 2 → ¬ wr w = 3 → T (D + 2) 217 (0, [(0, zr 74), (1, zr 75), (2, zi (c : Int))], [], (zu m 74 12 0)) (fun r m1 => T (D + 3) 219 (119, [(0, zr 74), (1, zi (c : Int)), (2, zi w)], r.toList ++ [], m1) κ)) :
    T (D + 3) 219 (0, [(0, zr 74), (1, zi (c : Int)), (2, zi w)], [], m) κ :=
  hT.1 [] 6 (D + 3) 219 _ κ (And.intro trivial (hT.1 [] 6 (D + 2) 191 _ _ (hT.1 [] 6 (D + 2) 191 (8, [(0, zr 74), (1, zi (c : Int))], [zi ((m 74 6) - 1), zi 0, zi (c : Int)], (zu m 74 12 0)) _ (hT.1 [] 6 (D + 1) 186 _ _ (And.intro (fun a1 => (o1 a1).elim) (fun a2 => (And.intro (fun a3 => (hT.1 [] 6 (D + 1) 186 (14, [(0, zi (c : Int)), (1, zi 0), (2, zi ((m 74 6) - 1))], [], (zu m 74 12 0)) _ (And.intro (z_b01L rfl) (hT.1 [] 6 (D + 2) 191 _ _ (And.intro (z_b01L rfl) (hT.1 [] 6 (D + 3) 219 _ _ (And.intro (fun _ => (hT.1 [] 6 (D + 2) 188 _ _ (And.intro trivial (hT.1 [] 6 (D + 3) 219 _ _ (o2 a2 a3))))) (fun a5 => (a5 (z_litT rfl)).elim)))))))) (fun a4 => (hT.1 [] 6 (D + 1) 186 (10, [(0, zi (c : Int)), (1, zi 0), (2, zi ((m 74 6) - 1))], [], (zu m 74 12 0)) _ (And.intro (z_b01L rfl) (hT.1 [] 6 (D + 2) 191 _ _ (And.intro (z_b01L rfl) (hT.1 [] 6 (D + 3) 219 _ _ (And.intro (fun a6 => (z_litF a6 rfl).elim) (fun _ => (hT.1 [] 6 (D + 2) 186 _ _ (And.intro (fun a7 => (And.intro (z_b01L rfl) (hT.1 [] 6 (D + 3) 219 _ _ (And.intro (fun a9 => (z_litF a9 rfl).elim) (fun _ => (hT.1 [] 6 (D + 2) 188 _ _ (And.intro trivial (hT.1 [] 6 (D + 3) 219 _ _ (o3 a2 a4 a7))))))))) (fun a8 => (And.intro (fun a10 => (hT.1 [] 6 (D + 2) 186 (14, [(0, zi w), (1, zi 0), (2, zi 4)], [], (zu m 74 12 0)) _ (And.intro (z_b01L rfl) (hT.1 [] 6 (D + 3) 219 _ _ (And.intro (fun a12 => (z_litF a12 rfl).elim) (fun _ => (hT.1 [] 6 (D + 2) 188 _ _ (And.intro trivial (hT.1 [] 6 (D + 3) 219 _ _ (o4 a2 a4 a8 a10)))))))))) (fun a11 => (hT.1 [] 6 (D + 2) 186 (10, [(0, zi w), (1, zi 0), (2, zi 4)], [], (zu m 74 12 0)) _ (And.intro (z_b01L rfl) (hT.1 [] 6 (D + 3) 219 _ _ (And.intro (fun _ => (And.intro (fun a14 => (hT.1 [] 6 (D + 3) 219 (66, [(0, zr 74), (1, zi (c : Int)), (2, zi w)], [zi 12, zr 75], (zu m 74 12 0)) _ (And.intro (o5 a2 a4 a8 a11 a14) (o6 a2 a4 a8 a11 a14)))) (fun a15 => (And.intro (fun a16 => (hT.1 [] 6 (D + 3) 219 (76, [(0, zr 74), (1, zi (c : Int)), (2, zi w)], [zi 20, zr 75], (zu m 74 12 0)) _ (And.intro (o7 a2 a4 a8 a11 a15 a16) (o8 a2 a4 a8 a11 a15 a16)))) (fun a17 => (And.intro (fun a18 => (hT.1 [] 6 (D + 3) 219 (86, [(0, zr 74), (1, zi (c : Int)), (2, zi w)], [zi 12, zr 75], (zu m 74 12 0)) _ (And.intro (o9 a2 a4 a8 a11 a15 a17 a18) (hT.1 [] 6 (D + 3) 219 (95, [(0, zr 74), (1, zi (c : Int)), (2, zi w)], [zi 20, zr 75, zi (m 75 ((wr (12 + (c : Int))).toNat))], (zu m 74 12 0)) _ (And.intro (o10 a2 a4 a8 a11 a15 a17 a18) (o11 a2 a4 a8 a11 a15 a17 a18)))))) (fun a19 => (And.intro (fun a20 => (hT.1 [] 6 (D + 3) 219 (106, [(0, zr 74), (1, zi (c : Int)), (2, zi w)], [zi 28, zr 75], (zu m 74 12 0)) _ (And.intro (o12 a2 a4 a8 a11 a15 a17 a19 a20) (o13 a2 a4 a8 a11 a15 a17 a19 a20)))) (fun a21 => (hT.1 [] 6 (D + 3) 219 (115, [(0, zr 74), (1, zi (c : Int)), (2, zi w)], [zr 75, zr 74], (zu m 74 12 0)) _ (o14 a2 a4 a8 a11 a15 a17 a19 a21))))))))))) (fun a13 => (a13 (z_litT rfl)).elim)))))))))))))))))))))))))
theorem zb219_0n (hT : zRules T) {D : Nat} {κ : Option zA → zM → Prop} {m : zM} {c : Nat} {w : Int}  (hB : zB m) (h_c : c ≤ 7) (h_w : (-2147483648) ≤ w ∧ w ≤ 2147483647) 
    (k1 : ((m 74 6) - 1) < (c : Int) → zB (zu (zu m 74 12 0) 74 12 1) → κ (some (zi 0)) (zu (zu m 74 12 0) 74 12 1))
    (k2 : ¬ ((m 74 6) - 1) < (c : Int) → w < 0 → zB (zu (zu m 74 12 0) 74 12 1) → κ (some (zi 0)) (zu (zu m 74 12 0) 74 12 1))
    (k3 : ¬ ((m 74 6) - 1) < (c : Int) → ¬ w < 0 → 4 < w → zB (zu (zu m 74 12 0) 74 12 1) → κ (some (zi 0)) (zu (zu m 74 12 0) 74 12 1))
    (k4 : ¬ ((m 74 6) - 1) < (c : Int) → ¬ w < 0 → ¬ 4 < w → w = 0 → zB (zu m 74 12 0) → κ (some (zi (m 75 (c + 12)))) (zu m 74 12 0))
    (k5 : ¬ ((m 74 6) - 1) < (c : Int) → ¬ w < 0 → ¬ 4 < w → ¬ w = 0 → w = 1 → zB (zu m 74 12 0) → κ (some (zi (m 75 (c + 20)))) (zu m 74 12 0))
    (k6 : ¬ ((m 74 6) - 1) < (c : Int) → ¬ w < 0 → ¬ 4 < w → ¬ w = 0 → ¬ w = 1 → w = 2 → zB (zu m 74 12 0) → κ (some (zi ((m 75 (c + 12)) + (m 75 (c + 20))))) (zu m 74 12 0))
    (k7 : ¬ ((m 74 6) - 1) < (c : Int) → ¬ w < 0 → ¬ 4 < w → ¬ w = 0 → ¬ w = 1 → ¬ w = 2 → w = 3 → zB (zu m 74 12 0) → κ (some (zi (wr (m 75 (c + 28))))) (zu m 74 12 0))
    (k8 : ¬ ((m 74 6) - 1) < (c : Int) → ¬ w < 0 → ¬ 4 < w → ¬ w = 0 → ¬ w = 1 → ¬ w = 2 → ¬ w = 3 → zB (zu m 74 12 0) → T (D + 2) 217 (0, [(0, zr 74), (1, zr 75), (2, zi (c : Int))], [], (zu m 74 12 0)) (fun r m1 => T (D + 3) 219 (119, [(0, zr 74), (1, zi (c : Int)), (2, zi w)], r.toList ++ [], m1) κ)) :
    T (D + 3) 219 (0, [(0, zr 74), (1, zi (c : Int)), (2, zi w)], [], m) κ := by
  have hb2 : 0 ≤ (m 74 6) ∧ (m 74 6) ≤ 8 := hB 74 6
  have hb3 : (-1) ≤ (m 75 (c + 12)) ∧ (m 75 (c + 12)) ≤ 99 := zSg hB 75 12 20 (-1) 99 rfl (c + 12) (by omega) (by omega)
  have hb4 : (-1) ≤ (m 75 (c + 20)) ∧ (m 75 (c + 20)) ≤ 9 := zSg hB 75 20 28 (-1) 9 rfl (c + 20) (by omega) (by omega)
  have hb5 : (-2147483648) ≤ wr (m 75 (c + 28)) ∧ wr (m 75 (c + 28)) ≤ 2147483647 := wrB (m 75 (c + 28))
  have he0 : wr (c : Int) = (c : Int) := wr_id (by omega) (by omega)
  have he1 : wr ((m 74 6) - 1) = ((m 74 6) - 1) := wr_id (by omega) (by omega)
  have he2 : wr w = w := wr_id (by omega) (by omega)
  have he3 : wr (12 + (c : Int)) = (12 + (c : Int)) := wr_id (by omega) (by omega)
  have he4 : (12 + (c : Int)).toNat = c + 12 := by omega
  have he5 : wr (m 75 (c + 12)) = (m 75 (c + 12)) := wr_id (by omega) (by omega)
  have he6 : wr (20 + (c : Int)) = (20 + (c : Int)) := wr_id (by omega) (by omega)
  have he7 : (20 + (c : Int)).toNat = c + 20 := by omega
  have he8 : wr (m 75 (c + 20)) = (m 75 (c + 20)) := wr_id (by omega) (by omega)
  have he9 : wr ((m 75 (c + 12)) + (m 75 (c + 20))) = ((m 75 (c + 12)) + (m 75 (c + 20))) := wr_id (by omega) (by omega)
  have he10 : wr (28 + (c : Int)) = (28 + (c : Int)) := wr_id (by omega) (by omega)
  have he11 : (28 + (c : Int)).toNat = c + 28 := by omega
  have key := @zb219_0nr T hT D κ m c w
  simp only [he0, he1, he2, he3, he4, he5, he6, he7, he8, he9, he10, he11, Int.toNat_natCast] at key
  exact key
    (fun x0 => by omega)
    (fun x0 x1 => k1 x1 (zB_u (zB_u hB trivial) trivial))
    (fun x0 x1 x2 => k2 x1 x2 (zB_u (zB_u hB trivial) trivial))
    (fun x0 x1 x2 x3 => k3 x1 x2 x3 (zB_u (zB_u hB trivial) trivial))
    (fun x0 x1 x2 x3 x4 => by refine ⟨?_, ?_⟩ <;> omega)
    (fun x0 x1 x2 x3 x4 => k4 x1 x2 x3 x4 (zB_u hB trivial))
    (fun x0 x1 x2 x3 x4 x5 => by refine ⟨?_, ?_⟩ <;> omega)
    (fun x0 x1 x2 x3 x4 x5 => k5 x1 x2 x3 x4 x5 (zB_u hB trivial))
    (fun x0 x1 x2 x3 x4 x5 x6 => by refine ⟨?_, ?_⟩ <;> omega)
    (fun x0 x1 x2 x3 x4 x5 x6 => by refine ⟨?_, ?_⟩ <;> omega)
    (fun x0 x1 x2 x3 x4 x5 x6 => k6 x1 x2 x3 x4 x5 x6 (zB_u hB trivial))
    (fun x0 x1 x2 x3 x4 x5 x6 x7 => by refine ⟨?_, ?_⟩ <;> omega)
    (fun x0 x1 x2 x3 x4 x5 x6 x7 => k7 x1 x2 x3 x4 x5 x6 x7 (zB_u hB trivial))
    (fun x0 x1 x2 x3 x4 x5 x6 x7 => k8 x1 x2 x3 x4 x5 x6 x7 (zB_u hB trivial))
theorem zb242_0nr (hT : zRules T) {D : Nat} {κ : Option zA → zM → Prop} {m : zM} {i : Nat} 
    (o1 : wr (i : Int) < 0 → False)
    (o2 : ¬ wr (i : Int) < 0 → wr ((m 75 56) - 1) < wr (i : Int) → κ (some (zi 0)) (zu (zu m 74 12 0) 74 12 1))
    (o3 : ¬ wr (i : Int) < 0 → ¬ wr ((m 75 56) - 1) < wr (i : Int) → (0 ≤ wr (36 + (i : Int)) ∧ wr (36 + (i : Int)) < 59))
    (o4 : ¬ wr (i : Int) < 0 → ¬ wr ((m 75 56) - 1) < wr (i : Int) → κ (some (zi (wr (m 75 ((wr (36 + (i : Int))).toNat))))) (zu m 74 12 0)) :
    T (D + 2) 242 (0, [(0, zr 74), (1, zi (i : Int))], [], m) κ :=
  hT.1 [] 6 (D + 2) 242 _ κ (And.intro trivial (hT.1 [] 6 (D + 2) 242 (8, [(0, zr 74), (1, zi (i : Int))], [zr 74, zi 0, zi (i : Int)], (zu m 74 12 0)) _ (And.intro (z_ixL rfl) (hT.1 [] 6 (D + 1) 186 _ _ (And.intro (fun a1 => (o1 a1).elim) (fun a2 => (And.intro (fun a3 => (hT.1 [] 6 (D + 1) 186 (14, [(0, zi (i : Int)), (1, zi 0), (2, zi ((m 75 56) - 1))], [], (zu m 74 12 0)) _ (And.intro (z_b01L rfl) (hT.1 [] 6 (D + 2) 242 _ _ (And.intro (fun _ => (hT.1 [] 6 (D + 1) 188 _ _ (And.intro trivial (hT.1 [] 6 (D + 2) 242 _ _ (o2 a2 a3))))) (fun a5 => (a5 (z_litT rfl)).elim)))))) (fun a4 => (hT.1 [] 6 (D + 1) 186 (10, [(0, zi (i : Int)), (1, zi 0), (2, zi ((m 75 56) - 1))], [], (zu m 74 12 0)) _ (And.intro (z_b01L rfl) (hT.1 [] 6 (D + 2) 242 _ _ (And.intro (fun a6 => (z_litF a6 rfl).elim) (fun _ => (hT.1 [] 6 (D + 2) 242 (30, [(0, zr 74), (1, zi (i : Int))], [zi (36 + (i : Int)), zr 75], (zu m 74 12 0)) _ (And.intro (o3 a2 a4) (o4 a2 a4))))))))))))))))
theorem zb242_0n (hT : zRules T) {D : Nat} {κ : Option zA → zM → Prop} {m : zM} {i : Nat}  (hB : zB m) (h_i : i ≤ 19) 
    (k1 : ((m 75 56) - 1) < (i : Int) → zB (zu (zu m 74 12 0) 74 12 1) → κ (some (zi 0)) (zu (zu m 74 12 0) 74 12 1))
    (k2 : ¬ ((m 75 56) - 1) < (i : Int) → zB (zu m 74 12 0) → κ (some (zi (m 75 (i + 36)))) (zu m 74 12 0)) :
    T (D + 2) 242 (0, [(0, zr 74), (1, zi (i : Int))], [], m) κ := by
  have hb1 : 0 ≤ (m 75 56) ∧ (m 75 56) ≤ 20 := hB 75 56
  have hb2 : 0 ≤ (m 75 (i + 36)) ∧ (m 75 (i + 36)) ≤ 108 := zSg hB 75 36 56 0 108 rfl (i + 36) (by omega) (by omega)
  have he0 : wr (i : Int) = (i : Int) := wr_id (by omega) (by omega)
  have he1 : wr ((m 75 56) - 1) = ((m 75 56) - 1) := wr_id (by omega) (by omega)
  have he2 : wr (36 + (i : Int)) = (36 + (i : Int)) := wr_id (by omega) (by omega)
  have he3 : (36 + (i : Int)).toNat = i + 36 := by omega
  have he4 : wr (m 75 (i + 36)) = (m 75 (i + 36)) := wr_id (by omega) (by omega)
  have key := @zb242_0nr T hT D κ m i
  simp only [he0, he1, he2, he3, he4, Int.toNat_natCast] at key
  exact key
    (fun x0 => by omega)
    (fun x0 x1 => k1 x1 (zB_u (zB_u hB trivial) trivial))
    (fun x0 x1 => by refine ⟨?_, ?_⟩ <;> omega)
    (fun x0 x1 => k2 x1 (zB_u hB trivial))
theorem zb118_0nr (hT : zRules T) {D : Nat} {κ : Option zA → zM → Prop} {m : zM} {c : Nat} {w : Int} 
    (o1 : wr (c : Int) < 0 → False)
    (o2 : ¬ wr (c : Int) < 0 → ¬ wr (c : Int) < wr (m 17 1) → κ none m)
    (o3 : ¬ wr (c : Int) < 0 → wr (c : Int) < wr (m 17 1) → wr w = 0 → (0 ≤ wr (c : Int) ∧ wr (c : Int) < 8))
    (o4 : ¬ wr (c : Int) < 0 → wr (c : Int) < wr (m 17 1) → wr w = 0 → κ (some (zi (wr (m 21 ((wr (c : Int)).toNat))))) m)
    (o5 : ¬ wr (c : Int) < 0 → wr (c : Int) < wr (m 17 1) → ¬ wr w = 0 → wr w = 1 → (0 ≤ wr (c : Int) ∧ wr (c : Int) < 8))
    (o6 : ¬ wr (c : Int) < 0 → wr (c : Int) < wr (m 17 1) → ¬ wr w = 0 → wr w = 1 → κ (some (zi (wr (m 22 ((wr (c : Int)).toNat))))) m)
    (o7 : ¬ wr (c : Int) < 0 → wr (c : Int) < wr (m 17 1) → ¬ wr w = 0 → ¬ wr w = 1 → wr w = 2 → (0 ≤ wr (c : Int) ∧ wr (c : Int) < 8))
    (o8 : ¬ wr (c : Int) < 0 → wr (c : Int) < wr (m 17 1) → ¬ wr w = 0 → ¬ wr w = 1 → wr w = 2 → (0 ≤ wr (c : Int) ∧ wr (c : Int) < 8))
    (o9 : ¬ wr (c : Int) < 0 → wr (c : Int) < wr (m 17 1) → ¬ wr w = 0 → ¬ wr w = 1 → wr w = 2 → κ (some (zi (wr (wr ((m 21 ((wr (c : Int)).toNat)) + (m 22 ((wr (c : Int)).toNat))))))) m)
    (o10 : ¬ wr (c : Int) < 0 → wr (c : Int) < wr (m 17 1) → ¬ wr w = 0 → ¬ wr w = 1 → ¬ wr w = 2 → wr w = 3 → (0 ≤ wr (c : Int) ∧ wr (c : Int) < 8))
    (o11 : ¬ wr (c : Int) < 0 → wr (c : Int) < wr (m 17 1) → ¬ wr w = 0 → ¬ wr w = 1 → ¬ wr w = 2 → wr w = 3 → κ (some (zi (wr (m 23 ((wr (c : Int)).toNat))))) m)
    (o12 : ¬ wr (c : Int) < 0 → wr (c : Int) < wr (m 17 1) → ¬ wr w = 0 → ¬ wr w = 1 → ¬ wr w = 2 → ¬ wr w = 3 → wr w = 4 → T (D + 2) 29 (0, [(0, zr 17), (1, zi (c : Int))], [], m) (fun r m1 => T (D + 3) 118 (103, [(0, zr 1), (1, zi (c : Int)), (2, zi w)], r.toList ++ [], m1) κ))
    (o13 : ¬ wr (c : Int) < 0 → wr (c : Int) < wr (m 17 1) → ¬ wr w = 0 → ¬ wr w = 1 → ¬ wr w = 2 → ¬ wr w = 3 → ¬ wr w = 4 → κ none m) :
    T (D + 3) 118 (0, [(0, zr 1), (1, zi (c : Int)), (2, zi w)], [], m) κ :=
  hT.1 [] 6 (D + 3) 118 _ κ (hT.1 [] 6 (D + 2) 26 _ _ (And.intro (fun a1 => (o1 a1).elim) (fun a2 => (And.intro (fun a3 => (hT.1 [] 6 (D + 2) 26 (16, [(0, zr 17), (1, zi (c : Int))], [], m) _ (And.intro (z_b01L rfl) (hT.1 [] 6 (D + 3) 118 _ _ (And.intro (fun a5 => (z_litF a5 rfl).elim) (fun _ => (And.intro rfl (o2 a2 a3)))))))) (fun a4 => (hT.1 [] 6 (D + 2) 26 (12, [(0, zr 17), (1, zi (c : Int))], [], m) _ (And.intro (z_b01L rfl) (hT.1 [] 6 (D + 3) 118 _ _ (And.intro (fun _ => (And.intro (fun a7 => (hT.1 [] 6 (D + 3) 118 (63, [(0, zr 1), (1, zi (c : Int)), (2, zi w)], [zr 21], m) _ (And.intro (o3 a2 (Classical.byContradiction a4) a7) (o4 a2 (Classical.byContradiction a4) a7)))) (fun a8 => (And.intro (fun a9 => (hT.1 [] 6 (D + 3) 118 (73, [(0, zr 1), (1, zi (c : Int)), (2, zi w)], [zr 22], m) _ (And.intro (o5 a2 (Classical.byContradiction a4) a8 a9) (o6 a2 (Classical.byContradiction a4) a8 a9)))) (fun a10 => (And.intro (fun a11 => (hT.1 [] 6 (D + 3) 118 (81, [(0, zr 1), (1, zi (c : Int)), (2, zi w)], [zi (c : Int), zr 17], m) _ (hT.1 [] 6 (D + 2) 28 _ _ (And.intro (o7 a2 (Classical.byContradiction a4) a8 a10 a11) (hT.1 [] 6 (D + 2) 28 (10, [(0, zr 17), (1, zi (c : Int))], [zr 22, zi (m 21 ((wr (c : Int)).toNat))], m) _ (And.intro (o8 a2 (Classical.byContradiction a4) a8 a10 a11) (hT.1 [] 6 (D + 3) 118 _ _ (o9 a2 (Classical.byContradiction a4) a8 a10 a11)))))))) (fun a12 => (And.intro (fun a13 => (hT.1 [] 6 (D + 3) 118 (92, [(0, zr 1), (1, zi (c : Int)), (2, zi w)], [zr 23], m) _ (And.intro (o10 a2 (Classical.byContradiction a4) a8 a10 a12 a13) (o11 a2 (Classical.byContradiction a4) a8 a10 a12 a13)))) (fun a14 => (And.intro (fun a15 => (hT.1 [] 6 (D + 3) 118 (100, [(0, zr 1), (1, zi (c : Int)), (2, zi w)], [zi (c : Int), zr 17], m) _ (o12 a2 (Classical.byContradiction a4) a8 a10 a12 a14 a15))) (fun a16 => (And.intro rfl (o13 a2 (Classical.byContradiction a4) a8 a10 a12 a14 a16))))))))))))) (fun a6 => (a6 (z_litT rfl)).elim))))))))))
theorem zb118_0n (hT : zRules T) {D : Nat} {κ : Option zA → zM → Prop} {m : zM} {c : Nat} {w : Int}  (hB : zB m) (h_c : c ≤ 7) (h_w : (-2147483648) ≤ w ∧ w ≤ 2147483647) 
    (k1 : ¬ (c : Int) < (m 17 1) → κ none m)
    (k2 : (c : Int) < (m 17 1) → w = 0 → κ (some (zi (m 21 c))) m)
    (k3 : (c : Int) < (m 17 1) → ¬ w = 0 → w = 1 → κ (some (zi (m 22 c))) m)
    (k4 : (c : Int) < (m 17 1) → ¬ w = 0 → ¬ w = 1 → w = 2 → κ (some (zi ((m 21 c) + (m 22 c)))) m)
    (k5 : (c : Int) < (m 17 1) → ¬ w = 0 → ¬ w = 1 → ¬ w = 2 → w = 3 → κ (some (zi (wr (m 23 c)))) m)
    (k6 : (c : Int) < (m 17 1) → ¬ w = 0 → ¬ w = 1 → ¬ w = 2 → ¬ w = 3 → w = 4 → T (D + 2) 29 (0, [(0, zr 17), (1, zi (c : Int))], [], m) (fun r m1 => T (D + 3) 118 (103, [(0, zr 1), (1, zi (c : Int)), (2, zi w)], r.toList ++ [], m1) κ))
    (k7 : (c : Int) < (m 17 1) → ¬ w = 0 → ¬ w = 1 → ¬ w = 2 → ¬ w = 3 → ¬ w = 4 → κ none m) :
    T (D + 3) 118 (0, [(0, zr 1), (1, zi (c : Int)), (2, zi w)], [], m) κ := by
  have hb2 : 0 ≤ (m 17 1) ∧ (m 17 1) ≤ 8 := hB 17 1
  have hb3 : (-1) ≤ (m 21 c) ∧ (m 21 c) ≤ 99 := hB 21 c
  have hb4 : (-1) ≤ (m 22 c) ∧ (m 22 c) ≤ 9 := hB 22 c
  have hb5 : (-2147483648) ≤ wr (m 23 c) ∧ wr (m 23 c) ≤ 2147483647 := wrB (m 23 c)
  have he0 : wr (c : Int) = (c : Int) := wr_id (by omega) (by omega)
  have he1 : wr (m 17 1) = (m 17 1) := wr_id (by omega) (by omega)
  have he2 : wr w = w := wr_id (by omega) (by omega)
  have he3 : (c : Int).toNat = c := by omega
  have he4 : wr (m 21 c) = (m 21 c) := wr_id (by omega) (by omega)
  have he5 : wr (m 22 c) = (m 22 c) := wr_id (by omega) (by omega)
  have he6 : wr ((m 21 c) + (m 22 c)) = ((m 21 c) + (m 22 c)) := wr_id (by omega) (by omega)
  have key := @zb118_0nr T hT D κ m c w
  simp only [he0, he1, he2, he3, he4, he5, he6, Int.toNat_natCast] at key
  exact key
    (fun x0 => by omega)
    (fun x0 x1 => k1 x1)
    (fun x0 x1 x2 => by refine ⟨?_, ?_⟩ <;> omega)
    (fun x0 x1 x2 => k2 x1 x2)
    (fun x0 x1 x2 x3 => by refine ⟨?_, ?_⟩ <;> omega)
    (fun x0 x1 x2 x3 => k3 x1 x2 x3)
    (fun x0 x1 x2 x3 x4 => by refine ⟨?_, ?_⟩ <;> omega)
    (fun x0 x1 x2 x3 x4 => by refine ⟨?_, ?_⟩ <;> omega)
    (fun x0 x1 x2 x3 x4 => k4 x1 x2 x3 x4)
    (fun x0 x1 x2 x3 x4 x5 => by refine ⟨?_, ?_⟩ <;> omega)
    (fun x0 x1 x2 x3 x4 x5 => k5 x1 x2 x3 x4 x5)
    (fun x0 x1 x2 x3 x4 x5 x6 => k6 x1 x2 x3 x4 x5 x6)
    (fun x0 x1 x2 x3 x4 x5 x6 => k7 x1 x2 x3 x4 x5 x6)
theorem zb117_0nr (hT : zRules T) {D : Nat} {κ : Option zA → zM → Prop} {m : zM} {p : Nat} {w : Int} 
    (o1 : wr (p : Int) < 0 → False)
    (o2 : ¬ wr (p : Int) < 0 → ¬ wr (p : Int) < wr (m 17 0) → κ none m)
    (o3 : ¬ wr (p : Int) < 0 → wr (p : Int) < wr (m 17 0) → wr w = 0 → (0 ≤ wr (p : Int) ∧ wr (p : Int) < 6))
    (o4 : ¬ wr (p : Int) < 0 → wr (p : Int) < wr (m 17 0) → wr w = 0 → κ (some (zi (wr (m 18 ((wr (p : Int)).toNat))))) m)
    (o5 : ¬ wr (p : Int) < 0 → wr (p : Int) < wr (m 17 0) → ¬ wr w = 0 → wr w = 1 → (0 ≤ wr (p : Int) ∧ wr (p : Int) < 6))
    (o6 : ¬ wr (p : Int) < 0 → wr (p : Int) < wr (m 17 0) → ¬ wr w = 0 → wr w = 1 → κ (some (zi (wr (m 19 ((wr (p : Int)).toNat))))) m)
    (o7 : ¬ wr (p : Int) < 0 → wr (p : Int) < wr (m 17 0) → ¬ wr w = 0 → ¬ wr w = 1 → wr w = 2 → (0 ≤ wr (p : Int) ∧ wr (p : Int) < 6))
    (o8 : ¬ wr (p : Int) < 0 → wr (p : Int) < wr (m 17 0) → ¬ wr w = 0 → ¬ wr w = 1 → wr w = 2 → κ (some (zi (wr (m 20 ((wr (p : Int)).toNat))))) m)
    (o9 : ¬ wr (p : Int) < 0 → wr (p : Int) < wr (m 17 0) → ¬ wr w = 0 → ¬ wr w = 1 → ¬ wr w = 2 → wr w = 3 → T (D + 5) 171 (0, [(0, zr 1), (1, zi (p : Int))], [], m) (fun r m1 => T (D + 6) 117 (91, [(0, zr 1), (1, zi (p : Int)), (2, zi w)], r.toList ++ [], m1) κ))
    (o10 : ¬ wr (p : Int) < 0 → wr (p : Int) < wr (m 17 0) → ¬ wr w = 0 → ¬ wr w = 1 → ¬ wr w = 2 → ¬ wr w = 3 → wr w = 4 → T (D + 5) 172 (0, [(0, zr 1), (1, zi (p : Int))], [], m) (fun r m1 => T (D + 6) 117 (97, [(0, zr 1), (1, zi (p : Int)), (2, zi w)], r.toList ++ [], m1) κ))
    (o11 : ¬ wr (p : Int) < 0 → wr (p : Int) < wr (m 17 0) → ¬ wr w = 0 → ¬ wr w = 1 → ¬ wr w = 2 → ¬ wr w = 3 → ¬ wr w = 4 → κ none m) :
    T (D + 6) 117 (0, [(0, zr 1), (1, zi (p : Int)), (2, zi w)], [], m) κ :=
  hT.1 [] 6 (D + 6) 117 _ κ (hT.1 [] 6 (D + 5) 25 _ _ (And.intro (fun a1 => (o1 a1).elim) (fun a2 => (And.intro (fun a3 => (hT.1 [] 6 (D + 5) 25 (16, [(0, zr 17), (1, zi (p : Int))], [], m) _ (And.intro (z_b01L rfl) (hT.1 [] 6 (D + 6) 117 _ _ (And.intro (fun a5 => (z_litF a5 rfl).elim) (fun _ => (And.intro rfl (o2 a2 a3)))))))) (fun a4 => (hT.1 [] 6 (D + 5) 25 (12, [(0, zr 17), (1, zi (p : Int))], [], m) _ (And.intro (z_b01L rfl) (hT.1 [] 6 (D + 6) 117 _ _ (And.intro (fun _ => (And.intro (fun a7 => (hT.1 [] 6 (D + 6) 117 (63, [(0, zr 1), (1, zi (p : Int)), (2, zi w)], [zr 18], m) _ (And.intro (o3 a2 (Classical.byContradiction a4) a7) (o4 a2 (Classical.byContradiction a4) a7)))) (fun a8 => (And.intro (fun a9 => (hT.1 [] 6 (D + 6) 117 (73, [(0, zr 1), (1, zi (p : Int)), (2, zi w)], [zr 19], m) _ (And.intro (o5 a2 (Classical.byContradiction a4) a8 a9) (o6 a2 (Classical.byContradiction a4) a8 a9)))) (fun a10 => (And.intro (fun a11 => (hT.1 [] 6 (D + 6) 117 (83, [(0, zr 1), (1, zi (p : Int)), (2, zi w)], [zr 20], m) _ (And.intro (o7 a2 (Classical.byContradiction a4) a8 a10 a11) (o8 a2 (Classical.byContradiction a4) a8 a10 a11)))) (fun a12 => (And.intro (fun a13 => (o9 a2 (Classical.byContradiction a4) a8 a10 a12 a13)) (fun a14 => (And.intro (fun a15 => (o10 a2 (Classical.byContradiction a4) a8 a10 a12 a14 a15)) (fun a16 => (And.intro rfl (o11 a2 (Classical.byContradiction a4) a8 a10 a12 a14 a16))))))))))))) (fun a6 => (a6 (z_litT rfl)).elim))))))))))
theorem zb117_0n (hT : zRules T) {D : Nat} {κ : Option zA → zM → Prop} {m : zM} {p : Nat} {w : Int}  (hB : zB m) (h_p : p ≤ 5) (h_w : (-2147483648) ≤ w ∧ w ≤ 2147483647) 
    (k1 : ¬ (p : Int) < (m 17 0) → κ none m)
    (k2 : (p : Int) < (m 17 0) → w = 0 → κ (some (zi (m 18 p))) m)
    (k3 : (p : Int) < (m 17 0) → ¬ w = 0 → w = 1 → κ (some (zi (m 19 p))) m)
    (k4 : (p : Int) < (m 17 0) → ¬ w = 0 → ¬ w = 1 → w = 2 → κ (some (zi (m 20 p))) m)
    (k5 : (p : Int) < (m 17 0) → ¬ w = 0 → ¬ w = 1 → ¬ w = 2 → w = 3 → T (D + 5) 171 (0, [(0, zr 1), (1, zi (p : Int))], [], m) (fun r m1 => T (D + 6) 117 (91, [(0, zr 1), (1, zi (p : Int)), (2, zi w)], r.toList ++ [], m1) κ))
    (k6 : (p : Int) < (m 17 0) → ¬ w = 0 → ¬ w = 1 → ¬ w = 2 → ¬ w = 3 → w = 4 → T (D + 5) 172 (0, [(0, zr 1), (1, zi (p : Int))], [], m) (fun r m1 => T (D + 6) 117 (97, [(0, zr 1), (1, zi (p : Int)), (2, zi w)], r.toList ++ [], m1) κ))
    (k7 : (p : Int) < (m 17 0) → ¬ w = 0 → ¬ w = 1 → ¬ w = 2 → ¬ w = 3 → ¬ w = 4 → κ none m) :
    T (D + 6) 117 (0, [(0, zr 1), (1, zi (p : Int)), (2, zi w)], [], m) κ := by
  have hb2 : 0 ≤ (m 17 0) ∧ (m 17 0) ≤ 6 := hB 17 0
  have hb3 : (-1) ≤ (m 18 p) ∧ (m 18 p) ≤ 99 := hB 18 p
  have hb4 : (-1) ≤ (m 19 p) ∧ (m 19 p) ≤ 3 := hB 19 p
  have hb5 : (-1) ≤ (m 20 p) ∧ (m 20 p) ≤ 7 := hB 20 p
  have he0 : wr (p : Int) = (p : Int) := wr_id (by omega) (by omega)
  have he1 : wr (m 17 0) = (m 17 0) := wr_id (by omega) (by omega)
  have he2 : wr w = w := wr_id (by omega) (by omega)
  have he3 : (p : Int).toNat = p := by omega
  have he4 : wr (m 18 p) = (m 18 p) := wr_id (by omega) (by omega)
  have he5 : wr (m 19 p) = (m 19 p) := wr_id (by omega) (by omega)
  have he6 : wr (m 20 p) = (m 20 p) := wr_id (by omega) (by omega)
  have key := @zb117_0nr T hT D κ m p w
  simp only [he0, he1, he2, he3, he4, he5, he6, Int.toNat_natCast] at key
  exact key
    (fun x0 => by omega)
    (fun x0 x1 => k1 x1)
    (fun x0 x1 x2 => by refine ⟨?_, ?_⟩ <;> omega)
    (fun x0 x1 x2 => k2 x1 x2)
    (fun x0 x1 x2 x3 => by refine ⟨?_, ?_⟩ <;> omega)
    (fun x0 x1 x2 x3 => k3 x1 x2 x3)
    (fun x0 x1 x2 x3 x4 => by refine ⟨?_, ?_⟩ <;> omega)
    (fun x0 x1 x2 x3 x4 => k4 x1 x2 x3 x4)
    (fun x0 x1 x2 x3 x4 x5 => k5 x1 x2 x3 x4 x5)
    (fun x0 x1 x2 x3 x4 x5 x6 => k6 x1 x2 x3 x4 x5 x6)
    (fun x0 x1 x2 x3 x4 x5 x6 => k7 x1 x2 x3 x4 x5 x6)
end ZBlocks
end
-- 77.read.lean.txt
section
/-! person(), cloth(), piece(), row(), count(): what is read. -/
/-- as Way, of a call of the class that may throw: none then, and the reference's thrown is 1 -/
noncomputable def WayX (T : Nat → Nat → zG → (Option zA → zM → Prop) → Prop) (kC kR : Nat) (aC aR : zL) (dC dR : Nat) (B B2 : Int) (same : Prop) : Prop := ∀ (D : Nat) (m : zM) (sc : zSc), (∃ n k, Inv B sc n k m) → ∀ κ : Option zA → zM → Prop, (∀ r m1, (r = none ∨ ∃ v, r = some (zi v)) → (∀ (D2 : Nat) (κ2 : Option zA → zM → Prop), (∀ r2 m2, (same → (r = none ∧ m2 74 12 = 1) ∨ (¬ r = none ∧ r = r2 ∧ m2 74 12 = 0)) → (∃ n k, Inv B2 sc n k m2) → κ2 r2 m2) → T (D2 + dR) kR (0, aR, [], m1) κ2) → κ r m1) → T (D + dC) kC (0, aC, [], m) κ
noncomputable def bsum (f : Nat → Int) : Nat → Nat → Int
  | _, 0 => 0
  | i, j + 1 => f i + bsum f (i + 1) j
theorem bsum_congr {f g : Nat → Int} : ∀ (j i : Nat), (∀ x, i ≤ x → x < i + j → f x = g x) → bsum f i j = bsum g i j
  | 0, _, _ => rfl
  | j + 1, i, h => by
    rw [bsum, bsum, h i (by omega) (by omega), bsum_congr j (i + 1) (fun x h1 h2 => h x (by omega) (by omega))]
theorem bsum_B {f : Nat → Int} (h : ∀ x, x < 20 → 0 ≤ f x ∧ f x ≤ 108) : ∀ (j i : Nat), i + j ≤ 20 → 0 ≤ bsum f i j ∧ bsum f i j ≤ 108 * j
  | 0, i, _ => ⟨Int.le_refl 0, by rw [bsum]; omega⟩
  | j + 1, i, hj => by
    have := bsum_B h j (i + 1) (by omega)
    have := h i (by omega)
    rw [bsum]
    omega
section ZReadW
variable {T : Nat → Nat → zG → (Option zA → zM → Prop) → Prop} {B : Int}
theorem z_sumC (hT : zRules T) {D : Nat} {κ : Option zA → zM → Prop} {m : zM} {c : Nat} (hB : zB m) (hc : m 25 2 = (c : Int)) (h : κ (some (zi (bsum (m 26) 0 c))) m) : T (D + 1) 8 (0, [(0, zr 25)], [], m) κ := by
  have b2 : 0 ≤ m 25 2 ∧ m 25 2 ≤ 20 := hB 25 2
  have b26 : ∀ x, x < 20 → 0 ≤ m 26 x ∧ m 26 x ≤ 108 := fun x _ => hB 26 x
  have key : ∀ (j i : Nat) (s : Int), i + j = c → 0 ≤ s → s ≤ 108 * i → s + bsum (m 26) i j = bsum (m 26) 0 c → T (D + 1) 8 (4, [(0, zr 25), (1, zi s), (2, zi (i : Int))], [], m) κ := by
    intro j
    induction j with
    | zero =>
      intro i s hi h0 h1 h2
      rw [bsum] at h2
      refine zb8_4 hT rfl hB (by omega) (by omega) (fun _ => ?_) (fun q => by omega)
      rw [show s = bsum (m 26) 0 c by omega]
      exact h
    | succ j ih =>
      intro i s hi h0 h1 h2
      have := b26 i (by omega)
      rw [bsum] at h2
      refine zb8_4 hT rfl hB (by omega) (by omega) (fun q => by omega) (fun _ => ?_)
      exact ih (i + 1) _ (by omega) (by omega) (by omega) (by omega)
  exact zb8_0 hT hB (key c 0 0 (by omega) (by omega) (by omega) (by omega))
theorem z_sumR (hT : zRules T) {D : Nat} {κ : Option zA → zM → Prop} {m : zM} {c : Nat} (hB : zB m) (hc : m 75 56 = (c : Int)) (h : κ (some (zi (bsum (fun i => m 75 (i + 36)) 0 c))) m) : T (D + 1) 289 (0, [(0, zr 74)], [], m) κ := by
  have b2 : 0 ≤ m 75 56 ∧ m 75 56 ≤ 20 := hB 75 56
  have b26 : ∀ x, x < 20 → 0 ≤ m 75 (x + 36) ∧ m 75 (x + 36) ≤ 108 := fun x hx => zSg hB 75 36 56 0 108 rfl (x + 36) (by omega) (by omega)
  have key : ∀ (j i : Nat) (s : Int), i + j = c → 0 ≤ s → s ≤ 108 * i → s + bsum (fun i => m 75 (i + 36)) i j = bsum (fun i => m 75 (i + 36)) 0 c → T (D + 1) 289 (4, [(0, zr 74), (1, zi s), (2, zi (i : Int))], [], m) κ := by
    intro j
    induction j with
    | zero =>
      intro i s hi h0 h1 h2
      rw [bsum] at h2
      refine zb289_4 hT rfl hB (by omega) (by omega) (fun _ => ?_) (fun q => by omega)
      rw [show s = bsum (fun i => m 75 (i + 36)) 0 c by omega]
      exact h
    | succ j ih =>
      intro i s hi h0 h1 h2
      have := b26 i (by omega)
      rw [bsum] at h2
      refine zb289_4 hT rfl hB (by omega) (by omega) (fun q => by omega) (fun _ => ?_)
      exact ih (i + 1) _ (by omega) (by omega) (by omega) (by omega)
  exact zb289_0 hT hB (key c 0 0 (by omega) (by omega) (by omega) (by omega))
theorem w_person (hT : zRules T) {p w : Int} (hp : isI p) (hw : isI w) : WayX T 117 218 [(0, zr 1), (1, zi p), (2, zi w)] [(0, zr 74), (1, zi p), (2, zi w)] 6 172 B B True := by
  rintro D m sc ⟨n, k, hI⟩ κ hκ
  have hI0 := hI
  obtain ⟨i1, i2, i3, i4, i5, i6, i7, i8, i9, i10, i11⟩ := hI
  have hA12 : Agree coreK m (zu m 74 12 0) := .of (L := [(74, some 12)]) (zFr.refl.set rfl) rfl
  have hA121 : Agree coreK m (zu (zu m 74 12 0) 74 12 1) := .of (L := [(74, some 12)]) ((zFr.refl.set rfl).set rfl) rfl
  obtain ⟨⟨n1, n2⟩, ⟨k1, k2⟩, hh, hRel, hok⟩ := i4
  have b17 : 0 ≤ m 17 0 ∧ m 17 0 ≤ 6 := i1 17 0
  have b171 : 0 ≤ m 17 1 ∧ m 17 1 ≤ 8 := i1 17 1
  have nil : (∀ (D2 : Nat) (κ2 : Option zA → zM → Prop), (zB (zu (zu m 74 12 0) 74 12 1) → κ2 (some (zi 0)) (zu (zu m 74 12 0) 74 12 1)) → T (D2 + 172) 218 (0, [(0, zr 74), (1, zi p), (2, zi w)], [], m) κ2) → κ none m := fun h =>
    hκ _ _ (Or.inl rfl) (fun D2 κ2 h2 => h D2 κ2 (fun hz => h2 _ _ (fun _ => Or.inl ⟨rfl, by rw [zu_sm rfl]⟩) ⟨n, k, Inv_fr hA121 hz hI0⟩))
  by_cases hr : 0 ≤ p ∧ p < n
  · obtain ⟨a, rfl⟩ : ∃ a : Nat, p = (a : Int) := ⟨p.toNat, by omega⟩
    have han : a < n := by omega
    obtain ⟨ok1, ok2⟩ := hok.1 a han
    obtain ⟨r1, r2⟩ := hRel.1 a han
    obtain ⟨h78, h18⟩ := hh a han
    have val : ∀ v v2 : Int, v = v2 → (∀ (D2 : Nat) (κ2 : Option zA → zM → Prop), (zB (zu m 74 12 0) → κ2 (some (zi v2)) (zu m 74 12 0)) → T (D2 + 172) 218 (0, [(0, zr 74), (1, zi (a : Int)), (2, zi w)], [], m) κ2) → κ (some (zi v)) m := fun v v2 e h =>
      hκ _ _ (Or.inr ⟨_, rfl⟩) (fun D2 κ2 h2 => h D2 κ2 (fun hz => h2 _ _ (fun _ => Or.inr ⟨(fun x => by cases x), by rw [e], by rw [zu_sm rfl]⟩) ⟨n, k, Inv_fr hA12 hz hI0⟩))
    -- LAW by both, from a table that is m but for values
    obtain ⟨pl, hpl⟩ : ∃ pl : Nat, m 19 a = (pl : Int) := ⟨(m 19 a).toNat, by omega⟩
    have hpl3 : pl ≤ 3 := by omega
    have e1711 : m 17 11 = m 75 57 := hRel.2.2.2.2.1
    have lawR2 : ∀ (m1 : zM) (D2 : Nat) (κ2 : Option zA → zM → Prop), zB m1 → zB (zu m1 74 12 0) → zFr (rowW 13) m m1 → (∀ M2, zB M2 → Agree coreK m M2 → M2 74 12 = 0 → κ2 (some (zi (LW m (m 18 a) (a : Int) pl (m 17 11)))) M2) → T (D2 + 171) 216 (0, [(0, zr 74), (1, zi (a : Int)), (2, zi 0)], [], zu m1 74 12 0) κ2 := by
      intro m1 D2 κ2 hB1 hz hF1 hk
      have hF1b : zFr (inL [(13, none), (74, some 12)]) m (zu m1 74 12 0) := (hF1.sub (fun c j q => by
        have := Nat.eq_of_beq_eq_true q
        subst this
        rfl)).set rfl
      have hAc : Agree coreK m (zu m1 74 12 0) := .of hF1b rfl
      have hI2 := Inv_fr hAc hz hI0
      refine z_lawIn (pl := pl) hT hz (by omega) (by rw [hF1b 75 a rfl, ← r1]; exact hpl) (by omega) hI2.2.2.1 (fun m2 hB2 hF2 => ?_)
      have eL : LW (zu m1 74 12 0) = LW m := (Agree.of hF1b rfl : Agree KL m (zu m1 74 12 0)).law.2
      rw [eL, hF1b 78 a rfl, hF1b 75 57 rfl, h78, Int.add_zero, ← e1711]
      refine hk m2 hB2 (hAc.trans (.of (hF2.sub lbWL) rfl)) ?_
      rw [(hF2.sub lbWL) 74 12 rfl, zu_sm rfl]
    refine zb117_0n hT i1 (by omega) hw (fun x => by omega) (fun _ w0 => ?_) (fun _ w0 w1 => ?_) (fun _ w0 w1 w2 => ?_) (fun _ w0 w1 w2 w3 => ?_) (fun _ w0 w1 w2 w3 w4 => ?_) (fun _ w0 w1 w2 w3 w4 => ?_)
    · exact val _ _ h78.symm (fun D2 κ2 f => zb218_0n (D := D2 + 167) hT i1 (by omega) hw (fun x => by omega) (fun _ x => by omega) (fun _ _ x => by omega) (fun _ _ _ _ hz => f hz) (fun _ _ _ x => absurd w0 x) (fun _ _ _ x => absurd w0 x) (fun _ _ _ x => absurd w0 x) (fun _ _ _ x => absurd w0 x) (fun _ _ _ x => absurd w0 x))
    · exact val _ _ r1 (fun D2 κ2 f => zb218_0n (D := D2 + 167) hT i1 (by omega) hw (fun x => by omega) (fun _ x => by omega) (fun _ _ x => by omega) (fun _ _ _ x => absurd x w0) (fun _ _ _ _ _ hz => f hz) (fun _ _ _ _ x => absurd w1 x) (fun _ _ _ _ x => absurd w1 x) (fun _ _ _ _ x => absurd w1 x) (fun _ _ _ _ x => absurd w1 x))
    · exact val _ _ r2 (fun D2 κ2 f => zb218_0n (D := D2 + 167) hT i1 (by omega) hw (fun x => by omega) (fun _ x => by omega) (fun _ _ x => by omega) (fun _ _ _ x => absurd x w0) (fun _ _ _ _ x => absurd x w1) (fun _ _ _ _ _ _ hz => f hz) (fun _ _ _ _ _ x => absurd w2 x) (fun _ _ _ _ _ x => absurd w2 x) (fun _ _ _ _ _ x => absurd w2 x))
    · refine z_lawNow hT i1 (by omega) (by omega) hpl hpl3 i3.1 (fun m1 hB1 hF1 => ?_)
      refine zb117_91 hT rfl LWB (hκ _ _ (Or.inr ⟨_, rfl⟩) (fun D2 κ2 h2 => ?_))
      have e4 : m1 74 4 = (n : Int) := (hF1 74 4 rfl).trans n2
      refine zb218_0n (D := D2 + 167) hT hB1 (by omega) hw (fun x => by omega) (fun _ x => by omega) (fun _ _ x => by omega) (fun _ _ _ x => absurd x w0) (fun _ _ _ _ x => absurd x w1) (fun _ _ _ _ _ x => absurd x w2) (fun _ _ _ _ _ _ _ hz => ?_) (fun _ _ _ _ _ _ x => absurd w3 x) (fun _ _ _ _ _ _ x => absurd w3 x)
      refine lawR2 m1 D2 _ hB1 hz hF1 (fun M2 g1 g2 g3 => ?_)
      exact zb218_90 (D := D2 + 167) hT rfl LWB (h2 _ _ (fun _ => Or.inr ⟨(fun x => by cases x), rfl, g3⟩) ⟨n, k, Inv_fr g2 g1 hI0⟩)
    · -- what it wears
      have none4 : m 75 (a + 6) = -1 → κ (some (zi 0)) m := fun h6 => val 0 0 rfl (fun D2 κ2 f => zb218_0n (D := D2 + 167) hT i1 (by omega) hw (fun x => by omega) (fun _ x => by omega) (fun _ _ x => by omega) (fun _ _ _ x => absurd x w0) (fun _ _ _ _ x => absurd x w1) (fun _ _ _ _ _ x => absurd x w2) (fun _ _ _ _ _ _ x => absurd x w3) (fun _ _ _ _ _ _ _ _ hz => f hz) (fun _ _ _ _ _ _ _ x => absurd h6 x))
      refine zb172_0 hT i1 (by omega) (fun x => ?_) (fun x y => ?_) (fun x y => ?_)
      · exact zb117_97 hT rfl (by omega) (fun _ => none4 (by omega)) (fun x => absurd rfl x)
      · exact zb117_97 hT rfl (by omega) (fun _ => none4 (by omega)) (fun x => absurd rfl x)
      · have hc1 : 0 ≤ m 75 (a + 6) ∧ m 75 (a + 6) < k := by omega
        obtain ⟨c, hc⟩ : ∃ c : Nat, m 75 (a + 6) = (c : Int) := ⟨(m 75 (a + 6)).toNat, by omega⟩
        have e21 : m 21 c = m 75 (c + 12) := (hRel.2.1 c (by omega)).1
        have b21 : -1 ≤ m 21 c ∧ m 21 c ≤ 99 := i1 21 c
        rw [r2, hc, Int.toNat_natCast]
        refine z_lawNow hT i1 (by omega) (by omega) hpl hpl3 i3.1 (fun m1 hB1 hF1 => ?_)
        have e4 : m1 74 4 = (n : Int) := (hF1 74 4 rfl).trans n2
        have e6 : m1 75 (a + 6) = (c : Int) := (hF1 75 _ rfl).trans hc
        have lv := LWB (m := m) (h := m 18 a) (i := (a : Int)) (p := pl) (w := m 17 11)
        have ref : ∀ (v : Int) (D2 : Nat) (κ2 : Option zA → zM → Prop), v = (if m 21 c = LW m (m 18 a) (a : Int) pl (m 17 11) then 1 else 0) → (∀ M2, zB M2 → Agree coreK m M2 → M2 74 12 = 0 → κ2 (some (zi v)) M2) → T (D2 + 172) 218 (0, [(0, zr 74), (1, zi (a : Int)), (2, zi w)], [], m1) κ2 := by
          intro v D2 κ2 hv f
          refine zb218_0n (D := D2 + 167) hT hB1 (by omega) hw (fun x => by omega) (fun _ x => by omega) (fun _ _ x => by omega) (fun _ _ _ x => absurd x w0) (fun _ _ _ _ x => absurd x w1) (fun _ _ _ _ _ x => absurd x w2) (fun _ _ _ _ _ _ x => absurd x w3) (fun _ _ _ _ _ _ _ x => by omega) (fun _ _ _ _ _ _ _ _ hz => ?_)
          rw [e6, show (12 + (c : Int)).toNat = c + 12 by omega, hF1 75 (c + 12) rfl, ← e21]
          refine lawR2 m1 D2 _ hB1 hz hF1 (fun M2 g1 g2 g3 => ?_)
          refine zb218_111 (D := D2 + 167) hT rfl b21 lv (fun x => ?_) (fun x => ?_)
          · rw [if_neg x] at hv
            rw [← hv]
            exact f M2 g1 g2 g3
          · rw [if_pos x] at hv
            rw [← hv]
            exact f M2 g1 g2 g3
        refine zb172_35 hT rfl b21 lv (fun x => ?_) (fun x => ?_)
        · refine zb117_97 hT rfl (by omega) (fun _ => hκ _ _ (Or.inr ⟨_, rfl⟩) (fun D2 κ2 h2 => ?_)) (fun x => absurd rfl x)
          exact ref 0 D2 κ2 (by rw [if_neg x]) (fun M2 g1 g2 g3 => h2 _ _ (fun _ => Or.inr ⟨(fun x => by cases x), rfl, g3⟩) ⟨n, k, Inv_fr g2 g1 hI0⟩)
        · refine zb117_97 hT rfl (by omega) (fun x => by omega) (fun _ => hκ _ _ (Or.inr ⟨_, rfl⟩) (fun D2 κ2 h2 => ?_))
          exact ref 1 D2 κ2 (by rw [if_pos x]) (fun M2 g1 g2 g3 => h2 _ _ (fun _ => Or.inr ⟨(fun x => by cases x), rfl, g3⟩) ⟨n, k, Inv_fr g2 g1 hI0⟩)
    · exact nil (fun D2 κ2 f => zb218_0n (D := D2 + 167) hT i1 (by omega) hw (fun x => by omega) (fun _ _ hz => f hz) (fun _ _ _ hz => f hz) (fun _ _ _ x => absurd x w0) (fun _ _ _ _ x => absurd x w1) (fun _ _ _ _ _ x => absurd x w2) (fun _ _ _ _ _ _ x => absurd x w3) (fun _ _ _ _ _ _ _ => by omega) (fun _ _ _ _ _ _ _ => by omega))
  · have fin : κ none m := nil (fun D2 κ2 f => zb218_0 (D := D2 + 167) hT i1 hp hw (fun _ hz => f hz) (fun _ _ hz => f hz) (fun q1 q2 => absurd ⟨by omega, by omega⟩ hr) (fun q1 q2 => absurd ⟨by omega, by omega⟩ hr) (fun q1 q2 => absurd ⟨by omega, by omega⟩ hr) (fun q1 q2 => absurd ⟨by omega, by omega⟩ hr) (fun q1 q2 => absurd ⟨by omega, by omega⟩ hr) (fun q1 q2 => absurd ⟨by omega, by omega⟩ hr) (fun q1 q2 => absurd ⟨by omega, by omega⟩ hr) (fun q1 q2 => absurd ⟨by omega, by omega⟩ hr) (fun q1 q2 => absurd ⟨by omega, by omega⟩ hr) (fun q1 q2 => absurd ⟨by omega, by omega⟩ hr))
    exact zb117_0 hT i1 hp hw (fun _ => fin) (fun _ _ => fin) (fun q1 q2 => absurd ⟨by omega, by omega⟩ hr) (fun q1 q2 => absurd ⟨by omega, by omega⟩ hr) (fun q1 q2 => absurd ⟨by omega, by omega⟩ hr) (fun q1 q2 => absurd ⟨by omega, by omega⟩ hr) (fun q1 q2 => absurd ⟨by omega, by omega⟩ hr) (fun q1 q2 => absurd ⟨by omega, by omega⟩ hr)
theorem w_cloth (hT : zRules T) {p w : Int} (hp : isI p) (hw : isI w) : WayX T 118 219 [(0, zr 1), (1, zi p), (2, zi w)] [(0, zr 74), (1, zi p), (2, zi w)] 3 3 B B True := by
  rintro D m sc ⟨n, k, hI⟩ κ hκ
  have hI0 := hI
  obtain ⟨i1, i2, i3, i4, i5, i6, i7, i8, i9, i10, i11⟩ := hI
  have hA12 : Agree coreK m (zu m 74 12 0) := .of (L := [(74, some 12)]) (zFr.refl.set rfl) rfl
  have hA121 : Agree coreK m (zu (zu m 74 12 0) 74 12 1) := .of (L := [(74, some 12)]) ((zFr.refl.set rfl).set rfl) rfl
  obtain ⟨⟨n1, n2⟩, ⟨k1, k2⟩, hh, hRel, hok⟩ := i4
  have b17 : 0 ≤ m 17 0 ∧ m 17 0 ≤ 6 := i1 17 0
  have b171 : 0 ≤ m 17 1 ∧ m 17 1 ≤ 8 := i1 17 1
  have nil : (∀ (D2 : Nat) (κ2 : Option zA → zM → Prop), (zB (zu (zu m 74 12 0) 74 12 1) → κ2 (some (zi 0)) (zu (zu m 74 12 0) 74 12 1)) → T (D2 + 3) 219 (0, [(0, zr 74), (1, zi p), (2, zi w)], [], m) κ2) → κ none m := fun h =>
    hκ _ _ (Or.inl rfl) (fun D2 κ2 h2 => h D2 κ2 (fun hz => h2 _ _ (fun _ => Or.inl ⟨rfl, by rw [zu_sm rfl]⟩) ⟨n, k, Inv_fr hA121 hz hI0⟩))
  by_cases hr : 0 ≤ p ∧ p < k
  · obtain ⟨c, rfl⟩ : ∃ a : Nat, p = (a : Int) := ⟨p.toNat, by omega⟩
    obtain ⟨r1, r2, r3⟩ := hRel.2.1 c (by omega)
    have val : ∀ v v2 : Int, v = v2 → (∀ (D2 : Nat) (κ2 : Option zA → zM → Prop), (zB (zu m 74 12 0) → κ2 (some (zi v2)) (zu m 74 12 0)) → T (D2 + 3) 219 (0, [(0, zr 74), (1, zi (c : Int)), (2, zi w)], [], m) κ2) → κ (some (zi v)) m := fun v v2 e h =>
      hκ _ _ (Or.inr ⟨_, rfl⟩) (fun D2 κ2 h2 => h D2 κ2 (fun hz => h2 _ _ (fun _ => Or.inr ⟨(fun x => by cases x), by rw [e], by rw [zu_sm rfl]⟩) ⟨n, k, Inv_fr hA12 hz hI0⟩))
    refine zb118_0n hT i1 (by omega) hw (fun x => by omega) (fun _ w0 => ?_) (fun _ w0 w1 => ?_) (fun _ w0 w1 w2 => ?_) (fun _ w0 w1 w2 w3 => ?_) (fun _ w0 w1 w2 w3 w4 => ?_) (fun _ w0 w1 w2 w3 w4 => ?_)
    · exact val _ _ r1 (fun D2 κ2 f => zb219_0n hT i1 (by omega) hw (fun x => by omega) (fun _ x => by omega) (fun _ _ x => by omega) (fun _ _ _ _ hz => f hz) (fun _ _ _ x => absurd w0 x) (fun _ _ _ x => absurd w0 x) (fun _ _ _ x => absurd w0 x) (fun _ _ _ x => absurd w0 x))
    · exact val _ _ r2 (fun D2 κ2 f => zb219_0n hT i1 (by omega) hw (fun x => by omega) (fun _ x => by omega) (fun _ _ x => by omega) (fun _ _ _ x => absurd x w0) (fun _ _ _ _ _ hz => f hz) (fun _ _ _ _ x => absurd w1 x) (fun _ _ _ _ x => absurd w1 x) (fun _ _ _ _ x => absurd w1 x))
    · exact val _ _ (by rw [r1, r2]) (fun D2 κ2 f => zb219_0n hT i1 (by omega) hw (fun x => by omega) (fun _ x => by omega) (fun _ _ x => by omega) (fun _ _ _ x => absurd x w0) (fun _ _ _ _ x => absurd x w1) (fun _ _ _ _ _ _ hz => f hz) (fun _ _ _ _ _ x => absurd w2 x) (fun _ _ _ _ _ x => absurd w2 x))
    · exact val _ _ (by rw [r3]) (fun D2 κ2 f => zb219_0n hT i1 (by omega) hw (fun x => by omega) (fun _ x => by omega) (fun _ _ x => by omega) (fun _ _ _ x => absurd x w0) (fun _ _ _ _ x => absurd x w1) (fun _ _ _ _ _ x => absurd x w2) (fun _ _ _ _ _ _ _ hz => f hz) (fun _ _ _ _ _ _ x => absurd w3 x))
    · have hw1 := wIx_b (f := m 20) (c := (c : Int)) n 0
      have ew : wIx (m 20) (c : Int) 0 n = wIx (fun p => m 75 (p + 6)) (c : Int) 0 n := wIx_congr n 0 (fun i _ hi => (hRel.1 i (by omega)).2)
      refine z_wearerOf (n := n) hT i1 (by omega) n1 ?_
      refine zb118_103 hT rfl (by omega) ?_
      refine val _ _ ew (fun D2 κ2 f => zb219_0n hT i1 (by omega) hw (fun x => by omega) (fun _ x => by omega) (fun _ _ x => by omega) (fun _ _ _ x => absurd x w0) (fun _ _ _ _ x => absurd x w1) (fun _ _ _ _ _ x => absurd x w2) (fun _ _ _ _ _ _ x => absurd x w3) (fun _ _ _ _ _ _ _ hz => ?_))
      refine z_wearer (n := n) hT hz (by omega) n2 ?_
      exact zb219_119 hT rfl (by rw [show (fun p => (zu m 74 12 0) 75 (p + 6)) = fun p => m 75 (p + 6) from rfl, ← ew]; omega) (f hz)
    · exact nil (fun D2 κ2 f => zb219_0n hT i1 (by omega) hw (fun x => by omega) (fun _ _ hz => f hz) (fun _ _ _ hz => f hz) (fun _ _ _ x => absurd x w0) (fun _ _ _ _ x => absurd x w1) (fun _ _ _ _ _ x => absurd x w2) (fun _ _ _ _ _ _ x => absurd x w3) (fun _ _ _ _ _ _ _ => by omega))
  · have fin : κ none m := nil (fun D2 κ2 f => zb219_0 hT i1 hp hw (fun _ hz => f hz) (fun _ _ hz => f hz) (fun q1 q2 => absurd ⟨by omega, by omega⟩ hr) (fun q1 q2 => absurd ⟨by omega, by omega⟩ hr) (fun q1 q2 => absurd ⟨by omega, by omega⟩ hr) (fun q1 q2 => absurd ⟨by omega, by omega⟩ hr) (fun q1 q2 => absurd ⟨by omega, by omega⟩ hr) (fun q1 q2 => absurd ⟨by omega, by omega⟩ hr) (fun q1 q2 => absurd ⟨by omega, by omega⟩ hr) (fun q1 q2 => absurd ⟨by omega, by omega⟩ hr) (fun q1 q2 => absurd ⟨by omega, by omega⟩ hr) (fun q1 q2 => absurd ⟨by omega, by omega⟩ hr) (fun q1 q2 => absurd ⟨by omega, by omega⟩ hr) (fun q1 q2 => absurd ⟨by omega, by omega⟩ hr))
    exact zb118_0 hT i1 hp hw (fun _ => fin) (fun _ _ => fin) (fun q1 q2 => absurd ⟨by omega, by omega⟩ hr) (fun q1 q2 => absurd ⟨by omega, by omega⟩ hr) (fun q1 q2 => absurd ⟨by omega, by omega⟩ hr) (fun q1 q2 => absurd ⟨by omega, by omega⟩ hr) (fun q1 q2 => absurd ⟨by omega, by omega⟩ hr) (fun q1 q2 => absurd ⟨by omega, by omega⟩ hr)
theorem w_piece (hT : zRules T) {p : Int} (hp : isI p) : WayX T 130 242 [(0, zr 1), (1, zi p)] [(0, zr 74), (1, zi p)] 2 2 B B True := by
  rintro D m sc ⟨n, k, hI⟩ κ hκ
  have hI0 := hI
  obtain ⟨i1, i2, i3, i4, i5, i6, i7, i8, i9, i10, i11⟩ := hI
  have hA12 : Agree coreK m (zu m 74 12 0) := .of (L := [(74, some 12)]) (zFr.refl.set rfl) rfl
  have hA121 : Agree coreK m (zu (zu m 74 12 0) 74 12 1) := .of (L := [(74, some 12)]) ((zFr.refl.set rfl).set rfl) rfl
  obtain ⟨⟨n1, n2⟩, ⟨k1, k2⟩, hh, hRel, hok⟩ := i4
  have b25 : 0 ≤ m 25 2 ∧ m 25 2 ≤ 20 := i1 25 2
  have e56 : m 25 2 = m 75 56 := hRel.2.2.1
  have nil : ¬ (0 ≤ p ∧ p < m 25 2) → κ none m := fun h => hκ _ _ (Or.inl rfl) (fun D2 κ2 h2 => by
    have f : zB (zu (zu m 74 12 0) 74 12 1) → κ2 (some (zi 0)) (zu (zu m 74 12 0) 74 12 1) := fun hz => h2 _ _ (fun _ => Or.inl ⟨rfl, by rw [zu_sm rfl]⟩) ⟨n, k, Inv_fr hA121 hz hI0⟩
    exact zb242_0 hT i1 hp (fun _ hz => f hz) (fun _ _ hz => f hz) (fun q1 q2 => absurd ⟨by omega, by omega⟩ h) (fun q1 q2 => absurd ⟨by omega, by omega⟩ h))
  refine zb130_0 hT i1 hp (fun q => nil (by omega)) (fun q1 q2 => nil (by omega)) (fun q1 q2 => ?_)
  obtain ⟨a, rfl⟩ : ∃ a : Nat, p = (a : Int) := ⟨p.toNat, by omega⟩
  rw [Int.toNat_natCast]
  refine hκ _ _ (Or.inr ⟨_, rfl⟩) (fun D2 κ2 h2 => ?_)
  refine zb242_0n hT i1 (by omega) (fun x => by omega) (fun _ hz => ?_)
  rw [← hRel.2.2.2.1 a (by omega)]
  exact h2 _ _ (fun _ => Or.inr ⟨(fun x => by cases x), rfl, by rw [zu_sm rfl]⟩) ⟨n, k, Inv_fr hA12 hz hI0⟩
theorem w_row (hT : zRules T) {p : Int} (hp : isI p) : WayX T 162 291 [(0, zr 1), (1, zi p)] [(0, zr 74), (1, zi p)] 2 2 B B False := by
  rintro D m sc ⟨n, k, hI⟩ κ hκ
  have hI0 := hI
  have i1 := hI.1
  have hA12 : Agree coreK m (zu m 74 12 0) := .of (L := [(74, some 12)]) (zFr.refl.set rfl) rfl
  have hA121 : Agree coreK m (zu (zu m 74 12 0) 74 12 1) := .of (L := [(74, some 12)]) ((zFr.refl.set rfl).set rfl) rfl
  have ref : ∀ r, (r = none ∨ ∃ v, r = some (zi v)) → κ r m := fun r hr => hκ _ _ hr (fun D2 κ2 h2 => by
    have f : zB (zu (zu m 74 12 0) 74 12 1) → κ2 (some (zi 0)) (zu (zu m 74 12 0) 74 12 1) := fun hz => h2 _ _ (fun x => x.elim) ⟨n, k, Inv_fr hA121 hz hI0⟩
    exact zb291_0 hT i1 hp (fun _ hz => f hz) (fun _ _ hz => f hz) (fun _ _ hz => h2 _ _ (fun x => x.elim) ⟨n, k, Inv_fr hA12 hz hI0⟩))
  exact zb162_0 hT i1 hp (fun _ => ref _ (Or.inl rfl)) (fun _ _ => ref _ (Or.inr ⟨_, rfl⟩)) (fun _ _ => ref _ (Or.inl rfl))
theorem w_count (hT : zRules T) {w : Int} (hw : isI w) : Way T 161 290 [(0, zr 1), (1, zi w)] [(0, zr 74), (1, zi w)] 2 2 B B (¬ w = 10) := by
  rintro D m sc ⟨n, k, hI⟩ κ hκ
  have hI0 := hI
  obtain ⟨i1, i2, i3, i4, i5, i6, i7, i8, i9, i10, i11⟩ := hI
  have hA12 : Agree coreK m (zu m 74 12 0) := .of (L := [(74, some 12)]) (zFr.refl.set rfl) rfl
  obtain ⟨⟨n1, n2⟩, ⟨k1, k2⟩, hh, hRel, hok⟩ := i4
  have b25 : 0 ≤ m 25 2 ∧ m 25 2 ≤ 20 := i1 25 2
  have e56 : m 25 2 = m 75 56 := hRel.2.2.1
  obtain ⟨c, hc⟩ : ∃ c : Nat, m 25 2 = (c : Int) := ⟨(m 25 2).toNat, by omega⟩
  have ebs : bsum (fun i => m 75 (i + 36)) 0 c = bsum (m 26) 0 c := bsum_congr c 0 (fun x _ hx => (hRel.2.2.2.1 x (by omega)).symm)
  have bbs := bsum_B (f := m 26) (fun x _ => i1 26 x) c 0 (by omega)
  -- the reference's answer
  have ref : ∀ v : Int, (¬ w = 10 → v = (if w = 0 then m 74 1 else if w = 1 then m 74 4 else if w = 2 then m 74 6 else if w = 3 then m 75 57 else if w = 4 then m 75 56 else if w = 5 then bsum (m 26) 0 c else if w = 6 then wr (m 75 58) else if w = 7 then m 74 52 else if w = 8 then m 74 54 else if w = 9 then m 74 35 else if w = 11 then m 74 9 else -100000)) → κ (some (zi v)) m := by
    intro v hv
    refine hκ _ _ (fun D2 κ2 h2 => ?_)
    have f : ∀ x, (¬ w = 10 → v = x) → zB (zu m 74 12 0) → κ2 (some (zi x)) (zu m 74 12 0) := fun x hx hz => h2 _ _ (fun q => by rw [hx q]) ⟨n, k, Inv_fr hA12 hz hI0⟩
    refine zb290_0 hT i1 hw (fun a hz => f _ (fun q => ?_) hz) (fun a1 a hz => f _ (fun q => ?_) hz) (fun a1 a2 a hz => f _ (fun q => ?_) hz) (fun a1 a2 a3 a hz => f _ (fun q => ?_) hz) (fun a1 a2 a3 a4 a hz => f _ (fun q => ?_) hz) (fun a1 a2 a3 a4 a5 a hz => ?_) (fun a1 a2 a3 a4 a5 a6 a hz => f _ (fun q => ?_) hz) (fun a1 a2 a3 a4 a5 a6 a7 a hz => f _ (fun q => ?_) hz) (fun a1 a2 a3 a4 a5 a6 a7 a8 a hz => f _ (fun q => ?_) hz) (fun a1 a2 a3 a4 a5 a6 a7 a8 a9 a hz => f _ (fun q => ?_) hz) (fun a1 a2 a3 a4 a5 a6 a7 a8 a9 a10 a hz => f _ (fun q => absurd a q) hz) (fun a1 a2 a3 a4 a5 a6 a7 a8 a9 a10 a11 a hz => f _ (fun q => ?_) hz) (fun a1 a2 a3 a4 a5 a6 a7 a8 a9 a10 a11 a12 hz => f _ (fun q => ?_) hz)
    · rw [hv q, if_pos a]
    · rw [hv q, if_neg a1, if_pos a]
    · rw [hv q, if_neg a1, if_neg a2, if_pos a]
    · rw [hv q, if_neg a1, if_neg a2, if_neg a3, if_pos a]
    · rw [hv q, if_neg a1, if_neg a2, if_neg a3, if_neg a4, if_pos a]
    · refine z_sumR (c := c) hT hz (by rw [zu_dn (by omega), ← e56, hc]) ?_
      refine zb290_103 hT rfl ?_ (f _ (fun q => ?_) hz)
      · rw [show (fun i => (zu m 74 12 0) 75 (i + 36)) = fun i => m 75 (i + 36) from rfl, ebs]
        omega
      · rw [show (fun i => (zu m 74 12 0) 75 (i + 36)) = fun i => m 75 (i + 36) from rfl, ebs, hv q, if_neg a1, if_neg a2, if_neg a3, if_neg a4, if_neg a5, if_pos a]
    · rw [hv q, if_neg a1, if_neg a2, if_neg a3, if_neg a4, if_neg a5, if_neg a6, if_pos a]
    · rw [hv q, if_neg a1, if_neg a2, if_neg a3, if_neg a4, if_neg a5, if_neg a6, if_neg a7, if_pos a]
    · rw [hv q, if_neg a1, if_neg a2, if_neg a3, if_neg a4, if_neg a5, if_neg a6, if_neg a7, if_neg a8, if_pos a]
    · rw [hv q, if_neg a1, if_neg a2, if_neg a3, if_neg a4, if_neg a5, if_neg a6, if_neg a7, if_neg a8, if_neg a9, if_pos a]
    · rw [hv q, if_neg a1, if_neg a2, if_neg a3, if_neg a4, if_neg a5, if_neg a6, if_neg a7, if_neg a8, if_neg a9, if_neg a10, if_pos a]
    · rw [hv q, if_neg a1, if_neg a2, if_neg a3, if_neg a4, if_neg a5, if_neg a6, if_neg a7, if_neg a8, if_neg a9, if_neg a10, if_neg a12]
  refine zb161_0 hT i1 hw (fun a => ref _ (fun q => ?_)) (fun a1 a => ref _ (fun q => ?_)) (fun a1 a2 a => ref _ (fun q => ?_)) (fun a1 a2 a3 a => ref _ (fun q => ?_)) (fun a1 a2 a3 a4 a => ref _ (fun q => ?_)) (fun a1 a2 a3 a4 a5 a => ?_) (fun a1 a2 a3 a4 a5 a6 a => ref _ (fun q => ?_)) (fun a1 a2 a3 a4 a5 a6 a7 a => ref _ (fun q => ?_)) (fun a1 a2 a3 a4 a5 a6 a7 a8 a => ref _ (fun q => ?_)) (fun a1 a2 a3 a4 a5 a6 a7 a8 a9 a => ref _ (fun q => ?_)) (fun a1 a2 a3 a4 a5 a6 a7 a8 a9 a10 a => ref _ (fun q => absurd a q)) (fun a1 a2 a3 a4 a5 a6 a7 a8 a9 a10 a11 a => ref _ (fun q => ?_)) (fun a1 a2 a3 a4 a5 a6 a7 a8 a9 a10 a11 a12 => ref _ (fun q => ?_))
  · rw [if_pos a]
    exact i3.2.1.1.symm
  · rw [if_neg a1, if_pos a, n1, n2]
  · rw [if_neg a1, if_neg a2, if_pos a, k1, k2]
  · rw [if_neg a1, if_neg a2, if_neg a3, if_pos a]
    exact hRel.2.2.2.2.1
  · rw [if_neg a1, if_neg a2, if_neg a3, if_neg a4, if_pos a]
    exact e56
  · refine z_sumC (c := c) hT i1 hc ?_
    refine zb161_111 hT rfl (by omega) (ref _ (fun q => ?_))
    rw [if_neg a1, if_neg a2, if_neg a3, if_neg a4, if_neg a5, if_pos a]
  · rw [if_neg a1, if_neg a2, if_neg a3, if_neg a4, if_neg a5, if_neg a6, if_pos a, hRel.2.2.2.2.2]
  · rw [if_neg a1, if_neg a2, if_neg a3, if_neg a4, if_neg a5, if_neg a6, if_neg a7, if_pos a]
    exact i8.1.symm
  · rw [if_neg a1, if_neg a2, if_neg a3, if_neg a4, if_neg a5, if_neg a6, if_neg a7, if_neg a8, if_pos a]
    exact i9.1.symm
  · rw [if_neg a1, if_neg a2, if_neg a3, if_neg a4, if_neg a5, if_neg a6, if_neg a7, if_neg a8, if_neg a9, if_pos a]
    exact i6.1.symm
  · rw [if_neg a1, if_neg a2, if_neg a3, if_neg a4, if_neg a5, if_neg a6, if_neg a7, if_neg a8, if_neg a9, if_neg a10, if_pos a]
    exact i2.1.symm
  · rw [if_neg a1, if_neg a2, if_neg a3, if_neg a4, if_neg a5, if_neg a6, if_neg a7, if_neg a8, if_neg a9, if_neg a10, if_neg a12]
end ZReadW
end
