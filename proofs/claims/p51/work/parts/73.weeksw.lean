/-! Cloths are made, WEEKS go by: both pay. -/
noncomputable def tlL : zLs := [(17, some 12), (17, some 13), (17, some 14), (21, none), (22, none), (23, none), (25, some 2), (26, none)]
theorem tlWL : ∀ c j, tlW c j = true → inL tlL c j = true := by
  intro c j h
  simp only [tlW, Bool.or_eq_true, Bool.and_eq_true] at h
  rcases h with ⟨a, b | b | b⟩ | a | a | a | ⟨a, b⟩ | a
  · have e1 := Nat.eq_of_beq_eq_true a
    have e2 := Nat.eq_of_beq_eq_true b
    subst e1 e2
    rfl
  · have e1 := Nat.eq_of_beq_eq_true a
    have e2 := Nat.eq_of_beq_eq_true b
    subst e1 e2
    rfl
  · have e1 := Nat.eq_of_beq_eq_true a
    have e2 := Nat.eq_of_beq_eq_true b
    subst e1 e2
    rfl
  · have e1 := Nat.eq_of_beq_eq_true a
    subst e1
    rfl
  · have e1 := Nat.eq_of_beq_eq_true a
    subst e1
    rfl
  · have e1 := Nat.eq_of_beq_eq_true a
    subst e1
    rfl
  · have e1 := Nat.eq_of_beq_eq_true a
    have e2 := Nat.eq_of_beq_eq_true b
    subst e1 e2
    rfl
  · have e1 := Nat.eq_of_beq_eq_true a
    subst e1
    rfl
noncomputable def pwLs : zLs := (13, none) :: (17, some 11) :: tlL
theorem pwWL : ∀ c j, pwW c j = true → inL pwLs c j = true := by
  intro c j h
  simp only [pwW, Bool.or_eq_true, Bool.and_eq_true] at h
  rcases h with a | a | ⟨a, b⟩
  · have := tlWL c j a
    unfold inL at this ⊢
    unfold pwLs
    simp only [List.any_cons, Bool.or_eq_true]
    exact Or.inr (Or.inr this)
  · have e1 := Nat.eq_of_beq_eq_true a
    subst e1
    rfl
  · have e1 := Nat.eq_of_beq_eq_true a
    have e2 := Nat.eq_of_beq_eq_true b
    subst e1 e2
    rfl
noncomputable def mkL (q : Nat) : zLs := [(q, none), (74, some 31), (74, some 32), (74, some 33)]
theorem mkWL {q : Nat} : ∀ c j, mkW q c j = true → inL (mkL q) c j = true := by
  intro c j h
  simp only [mkW, Bool.or_eq_true, Bool.and_eq_true] at h
  unfold inL mkL
  simp only [List.any_cons, Bool.or_eq_true, Bool.and_eq_true]
  rcases h with a | ⟨a, b | b | b⟩
  · have e1 := Nat.eq_of_beq_eq_true a
    exact Or.inl ⟨by rw [e1]; exact Nat.beq_refl _, trivial⟩
  · have e1 := Nat.eq_of_beq_eq_true a
    have e2 := Nat.eq_of_beq_eq_true b
    subst e1 e2
    exact Or.inr (Or.inl ⟨rfl, rfl⟩)
  · have e1 := Nat.eq_of_beq_eq_true a
    have e2 := Nat.eq_of_beq_eq_true b
    subst e1 e2
    exact Or.inr (Or.inr (Or.inl ⟨rfl, rfl⟩))
  · have e1 := Nat.eq_of_beq_eq_true a
    have e2 := Nat.eq_of_beq_eq_true b
    subst e1 e2
    exact Or.inr (Or.inr (Or.inr (Or.inl ⟨rfl, rfl⟩)))
noncomputable def lbL : zLs := [(74, some 13), (74, some 14), (74, some 15), (74, some 16), (74, some 17), (74, some 26), (74, some 27), (74, some 28), (74, some 29), (74, some 30)]
theorem gwWL {q : Nat} : ∀ c j, gwW q c j = true → inL (mkL q ++ lbL) c j = true := by
  intro c j h
  simp only [gwW, Bool.or_eq_true] at h
  unfold inL
  rw [List.any_append, Bool.or_eq_true]
  rcases h with a | a
  · exact Or.inl (mkWL c j a)
  · exact Or.inr (lbWL c j a)
noncomputable def payR (M : zM) : zM := (zu (zu (zu (zu (zu (zu (zu (zu M 75 58 ((M 75 58) - wr (((M 79 1) * (M 74 31)) + ((M 79 2) * (M 74 32))))) 74 11 0) 81 0 (M 74 31)) 74 11 1) 81 1 (M 74 32)) 74 11 2) 81 2 (M 74 33)) 74 11 3)
noncomputable def costR (M : zM) : Int := wr (((M 79 1) * (M 74 31)) + ((M 79 2) * (M 74 32)))
noncomputable def payC (M : zM) : zM := (zu (zu (zu (zu (zu M 72 1 3) 73 0 (M 17 12)) 73 1 (M 17 13)) 73 2 (M 17 14)) 17 10 ((M 17 10) - wr (((M 17 12) * (M 24 1)) + ((M 17 13) * (M 24 2)))))
noncomputable def costC (M : zM) : Int := wr (((M 17 12) * (M 24 1)) + ((M 17 13) * (M 24 2)))
theorem payR_75 {M : zM} (j : Nat) : payR M 75 j = if j = 58 then M 75 58 - costR M else M 75 j := by
  unfold payR
  rw [zu_dn (by omega), zu_dn (by omega), zu_dn (by omega), zu_dn (by omega), zu_dn (by omega), zu_dn (by omega), zu_dn (by omega), zu_at]
  rfl
theorem payR_fr {M : zM} : zFr (inL [(74, some 11), (75, none), (81, none)]) M (payR M) := (((((((zFr.refl.set rfl).set rfl).set rfl).set rfl).set rfl).set rfl).set rfl).set rfl
theorem payC_fr {M : zM} : zFr (inL [(17, some 10), (72, some 1), (73, none)]) M (payC M) := ((((zFr.refl.set rfl).set rfl).set rfl).set rfl).set rfl
theorem payR_11 {M : zM} : payR M 74 11 = 3 := by
  unfold payR
  simp (disch := decide) only [zu_sm, zu_off, zu_dn]
theorem payC_72 {M : zM} : payC M 72 1 = 3 := by
  unfold payC
  simp (disch := decide) only [zu_sm, zu_off, zu_dn]
theorem payC_10 {M : zM} : payC M 17 10 = M 17 10 - costC M := by
  unfold payC
  rw [zu_sm rfl]
  rfl
theorem House_pay {n k : Nat} {m m3 M : zM} {g : Nat → Int} {x : Int} (hn : n ≤ 6) (hk : k ≤ 8) (h4 : HouseRel n k m) (hA0 : Agree [(17, some 0), (17, some 1), (18, none), (74, some 4), (74, some 6), (78, none)] m M) (hR : Rel n k m3 g) (hA : Agree [(17, some 11), (19, none), (20, none), (21, none), (22, none), (23, none), (25, some 2), (26, none)] m3 M) (h10 : M 17 10 = g 58 - x) (h75 : ∀ j, M 75 j = if j = 58 then g 58 - x else g j) (ho : okRow n k g) : HouseRel n k M := by
  obtain ⟨⟨n1, n2⟩, ⟨k1, k2⟩, hh, -, -⟩ := h4
  obtain ⟨r1, r2, r3, r4, r5, r6⟩ := hR
  have h20 := ho.2.1.2
  have e75 : ∀ j, j < 58 → M 75 j = g j := fun j hj => by rw [h75, if_neg (by omega)]
  refine ⟨⟨(hA0 17 0 rfl).trans n1, (hA0 74 4 rfl).trans n2⟩, ⟨(hA0 17 1 rfl).trans k1, (hA0 74 6 rfl).trans k2⟩, fun p hp => ?_, ⟨fun p hp => ?_, fun c hc => ?_, ?_, fun i hi => ?_, ?_, ?_⟩, ho.congr hn hk e75⟩
  · rw [hA0 78 p rfl, hA0 18 p rfl]
    exact hh p hp
  · rw [hA 19 p rfl, hA 20 p rfl, e75 p (by omega), e75 (p + 6) (by omega)]
    exact r1 p hp
  · rw [hA 21 c rfl, hA 22 c rfl, hA 23 c rfl, e75 (c + 12) (by omega), e75 (c + 20) (by omega), e75 (c + 28) (by omega)]
    exact r2 c hc
  · rw [hA 25 2 rfl, e75 56 (by omega)]
    exact r3
  · rw [e75 56 (by omega)] at hi
    rw [hA 26 i rfl, e75 (i + 36) (by omega)]
    exact r4 i hi
  · rw [hA 17 11 rfl, e75 57 (by omega)]
    exact r5
  · rw [h10, h75, if_pos rfl]
theorem wkP_congr {L L2 : Nat → Int → Int → Int} {h : Int} : ∀ (j p : Nat) (a : zS), (∀ i, p ≤ i → i < p + j → L i = L2 i) → wkP L h a p j = wkP L2 h a p j
  | 0, p, a, _ => rfl
  | j + 1, p, a, he => by
    rw [wkP, wkP, he p (Nat.le_refl p) (by omega)]
    exact wkP_congr j (p + 1) _ (fun i h1 h2 => he i (by omega) (by omega))
theorem wksA_congr {L L2 : Nat → Int → Int → Int} {h : Int} {n : Nat} (he : ∀ i, i < n → L i = L2 i) : ∀ (t : Nat) (a : zS), wksA L h n a t = wksA L2 h n a t
  | 0, a => rfl
  | t + 1, a => by
    have e : wkA L h n a = wkA L2 h n a := by
      unfold wkA
      rw [wkP_congr n 0 a (fun i _ h2 => he i (by omega))]
    rw [wksA, wksA, e]
    exact wksA_congr he t _
section ZWeeksW
variable {T : Nat → Nat → zG → (Option zA → zM → Prop) → Prop} {B : Int}
theorem w_make (hT : zRules T) {p v : Int} (hp : isI p) (hv : isI v) : Way T 125 234 [(0, zr 1), (1, zi p), (2, zi v)] [(0, zr 74), (1, zi p), (2, zi v)] 4 3 B B True := by
  rintro D m sc ⟨n, k, hI⟩ κ hκ
  have hI0 := hI
  obtain ⟨i1, i2, i3, i4, i5, i6, i7, i8, i9, i10, i11⟩ := hI
  have i40 := i4
  have hB1 : zB (zu m 74 12 0) := zB_u i1 trivial
  have hA12 : Agree coreK m (zu m 74 12 0) := .of (L := [(74, some 12)]) (zFr.refl.set rfl) rfl
  obtain ⟨⟨n1, n2⟩, ⟨k1, k2⟩, hh, hRel, hok⟩ := i4
  have b17 : 0 ≤ m 17 0 ∧ m 17 0 ≤ 6 := i1 17 0
  have b171 : 0 ≤ m 17 1 ∧ m 17 1 ≤ 8 := i1 17 1
  have no : ¬ (0 ≤ p ∧ p < k ∧ 0 ≤ v ∧ v ≤ 99) → κ (some (zi (-1))) m := by
    intro hno
    refine hκ _ _ (fun D2 κ2 h2 => ?_)
    have fin : κ2 (some (zi (-1))) (zu m 74 12 0) := h2 _ _ (fun _ => rfl) ⟨n, k, Inv_fr hA12 hB1 hI0⟩
    exact zb234_0 hT i1 hp hv (fun _ _ => fin) (fun _ _ _ => fin) (fun _ _ _ _ => fin) (fun _ _ _ _ _ => fin) (fun q1 q2 q3 q4 => absurd ⟨by omega, by omega, by omega, by omega⟩ hno)
  refine zb125_0 hT i1 hp hv (fun q1 => no (by omega)) (fun q1 q2 => no (by omega)) (fun q1 q2 q3 => no (by omega)) (fun q1 q2 q3 q4 => no (by omega)) (fun q1 q2 q3 q4 => ?_)
  obtain ⟨c, rfl⟩ : ∃ a : Nat, p = (a : Int) := ⟨p.toNat, by omega⟩
  refine z_remC hT i1 (fun m1 hB2 hF1 hC => ?_)
  refine zb125_24 (c := c) hT rfl hB2 (by omega) (by omega) (fun hz => ?_)
  generalize hm2 : (zu (zu (zu m1 17 12 0) 17 13 0) 17 14 0) = m2 at hz ⊢
  have hF2 : zFr (inL (remCL ++ [(17, some 12), (17, some 13), (17, some 14)])) m m2 := by
    rw [← hm2]
    exact (((hF1.sub (inL_sub (by decide))).set rfl).set rfl).set rfl
  have hR2 : RelA n k m2 (m 75, 0, 0, 0) := ⟨hRel.fr (.of hF2 rfl), by rw [← hm2]; simp (disch := omega) only [zu_off, zu_sm], by rw [← hm2]; simp (disch := omega) only [zu_off, zu_sm], by rw [← hm2]; simp (disch := omega) only [zu_sm]⟩
  refine z_tailor (n := n) (k := k) hT hz (by omega) (by omega) (by omega) (by omega) hR2 (fun m3 hB3 hF3 hR3 => ?_)
  rw [hF2 24 0 rfl] at hR3
  obtain ⟨hR3, d1, d2, d3⟩ := hR3
  have hA0 : okRow n k (mkA (m 24 0) (m 75, 0, 0, 0) c v).1 := hok.mk (by omega) (by omega) (i1 24 0).1 (by omega)
  have hA57 : (mkA (m 24 0) (m 75, 0, 0, 0) c v).1 57 = m 75 57 := mkA_keep (by omega) hok.2.1 (by omega)
  generalize hA : mkA (m 24 0) (m 75, 0, 0, 0) c v = A at hR3 d1 d2 d3 hA0 hA57
  have hF3b : zFr (inL (remCL ++ tlL)) m m3 := (hF2.sub (inL_sub (by decide))).trans ((hF3.sub tlWL).sub (inL_sub (by decide)))
  refine zb125_40 hT rfl hB3 (fun hz4 => hκ _ _ (fun D2 κ2 h2 => ?_))
  have e24 : ∀ j, m3 24 j = m 24 j := fun j => hF3b 24 j rfl
  have ecost : wr (((m3 17 12) * (m3 24 1)) + ((m3 17 13) * (m3 24 2))) = wr (A.2.1 * m 24 1 + A.2.2.1 * m 24 2) := by rw [d1, d2, e24, e24]
  have hz4 : zB (payC m3) := hz4
  show T (D2 + 3) 234 (0, _, [], payC m3) κ2
  have hFc : zFr (inL (remCL ++ (tlL ++ [(17, some 10), (72, some 1), (73, none)]))) m (payC m3) := (hF3b.sub (inL_sub (by decide))).trans (payC_fr.sub (inL_sub (by decide)))
  have e6 : (payC m3) 74 6 = (k : Int) := (hFc 74 6 rfl).trans k2
  refine zb234_0 hT hz4 hp hv (fun x => by omega) (fun _ x => by omega) (fun _ _ x => by omega) (fun _ _ _ x => by omega) (fun _ _ _ _ hz5 => ?_)
  have e75 : (zu (payC m3) 74 12 0) 75 = m 75 := funext fun j => by rw [zu_dn (by omega), hFc 75 j rfl]
  refine z_remR_75 hT hz5 (fun m4 hB4 hF4 hR4 => ?_)
  rw [e75] at hR4
  have hF4b : zFr (inL [(74, some 35), (87, none)]) (zu (payC m3) 74 12 0) m4 := hF4.sub remWL
  refine zb234_33 (c := c) hT rfl hB4 (by omega) (by omega) (fun hz6 => ?_)
  generalize hm5 : (zu (zu (zu m4 74 31 0) 74 32 0) 74 33 0) = m5 at hz6 ⊢
  have hF5 : zFr (inL [(74, some 31), (74, some 32), (74, some 33), (74, some 35), (87, none)]) (zu (payC m3) 74 12 0) m5 := by
    rw [← hm5]
    exact (((hF4b.sub (inL_sub (by decide))).set rfl).set rfl).set rfl
  have hR5 : RelR 75 m5 (m 75, 0, 0, 0) := ⟨(funext fun j => hF5 75 j rfl).trans e75, by rw [← hm5]; simp (disch := omega) only [zu_off, zu_sm], by rw [← hm5]; simp (disch := omega) only [zu_off, zu_sm], by rw [← hm5]; simp (disch := omega) only [zu_sm]⟩
  refine z_makes_75 hT hz6 (by omega) (by omega) hR5 (fun m6 hB6 hF6 hR6 => ?_)
  have e79 : ∀ j, j < 3 → m5 79 j = m 24 j := fun j hj => by
    rw [hF5 79 j rfl, zu_dn (by omega), hFc 79 j rfl]
    exact i5 j hj
  rw [e79 0 (by omega), hA] at hR6
  obtain ⟨g1, g2, g3, g4⟩ := hR6
  have hF6b : zFr (inL (mkL 75)) m5 m6 := hF6.sub mkWL
  refine zb234_47 hT rfl hB6 (fun hz7 => ?_)
  have f79 : ∀ j, j < 3 → m6 79 j = m 24 j := fun j hj => by rw [hF6b 79 j rfl, e79 j hj]
  have ecost2 : costR m6 = wr (A.2.1 * m 24 1 + A.2.2.1 * m 24 2) := by
    unfold costR
    rw [f79 1 (by omega), f79 2 (by omega), g2, g3, Int.mul_comm (m 24 1), Int.mul_comm (m 24 2)]
  have hz7 : zB (payR m6) := hz7
  show κ2 (some (zi (costR m6))) (payR m6)
  have hFr : zFr (inL [(74, some 11), (74, some 12), (74, some 31), (74, some 32), (74, some 33), (74, some 35), (75, none), (81, none), (87, none)]) (payC m3) (payR m6) := (((zFr.refl (m := payC m3)).set (q := 74) (i := 12) (v := 0) rfl).trans (hF5.sub (inL_sub (by decide)))).trans ((hF6b.sub (inL_sub (by decide))).trans (payR_fr.sub (inL_sub (by decide))))
  have hFall : zFr (inL (remCL ++ (tlL ++ [(17, some 10), (72, some 1), (73, none), (74, some 11), (74, some 12), (74, some 31), (74, some 32), (74, some 33), (74, some 35), (75, none), (81, none), (87, none)]))) m (payR m6) := (hFc.sub (inL_sub (by decide))).trans (hFr.sub (inL_sub (by decide)))
  have f75 : ∀ j, payR m6 75 j = if j = 58 then A.1 58 - wr (A.2.1 * m 24 1 + A.2.2.1 * m 24 2) else A.1 j := fun j => by
    rw [payR_75, ecost2, g1]
  have f10 : payR m6 17 10 = A.1 58 - wr (A.2.1 * m 24 1 + A.2.2.1 * m 24 2) := by
    rw [hFr 17 10 rfl, payC_10]
    unfold costC
    rw [ecost, hR3.2.2.2.2.2]
  refine h2 _ _ (fun _ => ?_) ⟨n, k, ?_⟩
  · rw [ecost, ecost2]
  · refine Inv_huR hI0 hz7 (.of hFall rfl) (House_pay (g := A.1) (m3 := m3) (by omega) (by omega) i40 (.of hFall rfl) hR3 ((Agree.of payC_fr rfl).trans (.of hFr rfl)) f10 f75 hA0) ?_ (by rw [f75, if_neg (by omega), hA57]; exact i10) (RowP.len (by rw [payR_11, hFr 72 1 rfl, payC_72]))
    have hF1b : zFr (inL (tlL ++ [(17, some 10), (72, some 1), (73, none)])) m1 (payC m3) := by
      have t1 : zFr (inL tlL) m1 m2 := by
        rw [← hm2]
        exact ((zFr.refl.set rfl).set rfl).set rfl
      exact ((t1.trans (hF3.sub tlWL)).sub (inL_sub (by decide))).trans (payC_fr.sub (inL_sub (by decide)))
    have a1 : Agree remCL m1 (payR m6) := (Agree.of hF1b rfl).trans (.of hFr rfl)
    have a2 : Agree [(74, some 35), (87, none)] m (zu (payC m3) 74 12 0) := (Agree.of hFc rfl).trans (.of (L := [(74, some 12)]) (zFr.refl.set rfl) rfl)
    have t3 : zFr (inL (mkL 75 ++ [(74, some 11), (81, none)])) m4 (payR m6) := by
      have t4 : zFr (inL (mkL 75)) m4 m5 := by
        rw [← hm5]
        exact ((zFr.refl.set rfl).set rfl).set rfl
      exact ((t4.trans hF6b).sub (inL_sub (by decide))).trans (payR_fr.sub (inL_sub (by decide)))
    exact Undo_rem (by omega) (by omega) i6 hRel hok i10 hC a1 a2 (.of t3 rfl) hR4
end ZWeeksW
