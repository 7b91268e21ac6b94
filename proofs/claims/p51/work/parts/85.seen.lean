/-! fines(), lags(), heights(): what THE LAW makes of the skirts seen. -/
theorem rowL13 : ∀ c j, rowW 13 c j = true → inL [(13, none)] c j = true := fun c j q => by
  have e := Nat.eq_of_beq_eq_true q
  subst e
  rfl
/-- the length that THE LAW asks of the skirt seen, so many weeks away -/
noncomputable def seL (m : zM) (i : Nat) (l : Int) : Int := LW m (m 18 (m 60 i).toNat) (m 60 i) (m 61 i).toNat (m 62 i + l)
theorem seLB {m : zM} {i : Nat} {l : Int} : 0 ≤ seL m i l ∧ seL m i l ≤ 99 := LWB
/-- all of the first so many -/
noncomputable def allB (c : Nat → Bool) : Nat → Bool
  | 0 => true
  | t + 1 => allB c t && c t
theorem allB_no {c : Nat → Bool} {i : Nat} (h : c i = false) : ∀ t, i < t → allB c t = false
  | 0, q => by omega
  | t + 1, q => by
    rw [allB]
    by_cases e : i = t
    · subst e
      rw [h, Bool.and_false]
    · rw [allB_no h t (by omega), Bool.false_and]
noncomputable def fine1 (f x v : Int) : Int := if x - v < 0 then f * (-(x - v) + 1) else if x - v = 0 then 0 else f * ((x - v) + 1)
theorem fine1B {f x v : Int} (hf : 0 ≤ f ∧ f ≤ 99) (hx : 0 ≤ x ∧ x ≤ 99) (hv : 0 ≤ v ∧ v ≤ 99) : 0 ≤ fine1 f x v ∧ fine1 f x v ≤ 9900 := by
  have key : ∀ y : Int, 0 ≤ y → y ≤ 100 → 0 ≤ f * y ∧ f * y ≤ 9900 := fun y y1 y2 => by
    have h1 := Int.mul_nonneg hf.1 y1
    have h2 : f * y ≤ 99 * 100 := Int.mul_le_mul hf.2 y2 y1 (by omega)
    omega
  unfold fine1
  by_cases q : x - v < 0
  · rw [if_pos q]
    exact key _ (by omega) (by omega)
  · rw [if_neg q]
    by_cases q2 : x - v = 0
    · rw [if_pos q2]
      omega
    · rw [if_neg q2]
      exact key _ (by omega) (by omega)
noncomputable def fineS (f : Int) (x v : Nat → Int) : Nat → Int
  | 0 => 0
  | t + 1 => fineS f x v t + fine1 f (x t) (v t)
theorem fineSB {f : Int} {x v : Nat → Int} (hf : 0 ≤ f ∧ f ≤ 99) (hx : ∀ i, 0 ≤ x i ∧ x i ≤ 99) (hv : ∀ i, 0 ≤ v i ∧ v i ≤ 99) : ∀ t : Nat, 0 ≤ fineS f x v t ∧ fineS f x v t ≤ 9900 * t
  | 0 => by
    rw [fineS]
    omega
  | t + 1 => by
    have h1 := fineSB hf hx hv t
    have h2 := fine1B hf (hx t) (hv t)
    rw [fineS]
    omega
section ZSeen
variable {T : Nat → Nat → zG → (Option zA → zM → Prop) → Prop} {B : Int}
theorem z_seenC (hT : zRules T) {D : Nat} {κ : Option zA → zM → Prop} {m M : zM} {sc : zSc} {n k i : Nat} {l : Int} (hI : Inv B sc n k m) (hBM : zB M) (hF : zFr (inL [(13, none)]) m M) (hi : (i : Int) < m 59 4) (hl : 0 ≤ m 62 i + l) (hl2 : l ≤ 13)
    (hk : ∀ M1, zB M1 → zFr (inL [(13, none)]) m M1 → κ (some (zi (seL m i l))) M1) : T (D + 4) 169 (0, [(0, zr 1), (1, zi (M 60 i)), (2, zi (M 61 i)), (3, zi (M 62 i + l))], [], M) κ := by
  have b17 : 0 ≤ m 17 0 ∧ m 17 0 ≤ 6 := hI.1 17 0
  have b60 : 0 ≤ m 60 i ∧ m 60 i ≤ 5 := hI.1 60 i
  have b61 : 0 ≤ m 61 i ∧ m 61 i ≤ 3 := hI.1 61 i
  have b62 : 0 ≤ m 62 i ∧ m 62 i ≤ 9999 := hI.1 62 i
  have n1 := hI.2.2.2.1.1.1
  have s60 := (hI.2.2.2.2.2.2.2.1.2 i hi).2.2.2.2
  have hA : Agree KL m M := .of hF rfl
  rw [hF 60 i rfl, hF 61 i rfl, hF 62 i rfl]
  obtain ⟨a, ha⟩ : ∃ a : Nat, m 60 i = (a : Int) := ⟨(m 60 i).toNat, by omega⟩
  obtain ⟨b, hb⟩ : ∃ b : Nat, m 61 i = (b : Int) := ⟨(m 61 i).toNat, by omega⟩
  have hh := (hI.2.2.2.1.2.2.1 a (by omega)).2
  have e : LW M (M 18 a) (a : Int) b (m 62 i + l) = seL m i l := by
    unfold seL
    rw [ha, hb, Int.toNat_natCast, Int.toNat_natCast, hA.law.2, hF 18 a rfl]
  rw [ha, hb]
  refine z_lawAt hT hBM (by omega) (by rw [hF 18 a rfl]; omega) (by omega) (by omega) (hA.law.1 hI.2.2.1).1 (fun M1 hB1 hF1 => ?_)
  rw [e]
  exact hk M1 hB1 (hF.trans (hF1.sub rowL13))
theorem z_seenR (hT : zRules T) {D : Nat} {κ : Option zA → zM → Prop} {m M : zM} {sc : zSc} {n k i : Nat} {l w : Int} (hI : Inv B sc n k m) (hBM : zB M) (hA : Agree coreK0 m M) (hi : (i : Int) < m 59 4) (hw : w = M 99 (4 * i + 2) + l) (hl : 0 ≤ w) (hl2 : l ≤ 13)
    (hk : ∀ M1, zB M1 → Agree coreK M M1 → κ (some (zi (seL m i l))) M1) : T (D + 170) 215 (0, [(0, zr 74), (1, zi (M 99 (4 * i))), (2, zi (M 99 (4 * i + 1))), (3, zi w)], [], M) κ := by
  have b17 : 0 ≤ m 17 0 ∧ m 17 0 ≤ 6 := hI.1 17 0
  have b60 : 0 ≤ m 60 i ∧ m 60 i ≤ 5 := hI.1 60 i
  have b61 : 0 ≤ m 61 i ∧ m 61 i ≤ 3 := hI.1 61 i
  have b62 : 0 ≤ m 62 i ∧ m 62 i ≤ 9999 := hI.1 62 i
  have n1 := hI.2.2.2.1.1.1
  obtain ⟨s0, s1, s2, s3, s4⟩ := hI.2.2.2.2.2.2.2.1.2 i hi
  rw [hA 99 (4 * i + 2) rfl, s2] at hw
  rw [hA 99 (4 * i) rfl, hA 99 (4 * i + 1) rfl, s0, s1]
  obtain ⟨a, ha⟩ : ∃ a : Nat, m 60 i = (a : Int) := ⟨(m 60 i).toNat, by omega⟩
  obtain ⟨b, hb⟩ : ∃ b : Nat, m 61 i = (b : Int) := ⟨(m 61 i).toNat, by omega⟩
  have hh := hI.2.2.2.1.2.2.1 a (by omega)
  have hAL : Agree KL m M := hA.sub (fun q hq => List.mem_append.mpr (Or.inr (List.mem_append.mpr (Or.inl hq))))
  have e : LW M (M 78 a) (a : Int) b w = seL m i l := by
    unfold seL
    rw [ha, hb, Int.toNat_natCast, Int.toNat_natCast, hAL.law.2, hA 78 a rfl, hh.1, hw]
  rw [ha, hb]
  refine z_lawOf hT hBM (by omega) (by omega) (by omega) (hAL.law.1 hI.2.2.1) (fun M1 hB1 hF1 => ?_)
  rw [e]
  exact hk M1 hB1 (.of (hF1.sub lbWL) rfl)
theorem w_fines (hT : zRules T) {f : Int} (hf : isI f) : Way T 150 275 [(0, zr 1), (1, zi f)] [(0, zr 74), (1, zi f)] 7 171 B B True := by
  rintro D m sc ⟨n, k, hI⟩ κ hκ
  have hI0 := hI
  obtain ⟨i1, i2, i3, i4, i5, i6, i7, i8, i9, i10, i11⟩ := hI
  have hB1 : zB (zu m 74 12 0) := zB_u i1 trivial
  have hA12 : Agree coreK m (zu m 74 12 0) := .of (L := [(74, some 12)]) (zFr.refl.set rfl) rfl
  have b59 : 0 ≤ m 59 4 ∧ m 59 4 ≤ 12 := i1 59 4
  have no : ¬ (0 ≤ f ∧ f ≤ 99) → κ (some (zi (-1))) m := by
    intro hno
    refine hκ _ _ (fun D2 κ2 h2 => ?_)
    have fin : κ2 (some (zi (-1))) (zu m 74 12 0) := h2 _ _ (fun _ => rfl) ⟨n, k, Inv_fr hA12 hB1 hI0⟩
    exact zb275_0 (D := D2 + 167) hT i1 hf (fun _ _ => fin) (fun _ _ _ => fin) (fun q1 q2 => absurd ⟨by omega, by omega⟩ hno)
  refine zb150_0 hT i1 hf (fun _ => no (by omega)) (fun q1 q2 => ?_) (fun _ _ => no (by omega))
  obtain ⟨N, hN⟩ : ∃ N : Nat, m 59 4 = (N : Int) := ⟨(m 59 4).toNat, by omega⟩
  have bv : ∀ i, 0 ≤ m 63 i ∧ m 63 i ≤ 99 := fun i => i1 63 i
  have sB := fun t => fineSB (f := f) (x := m 63) (v := fun i => seL m i 0) (by omega) bv (fun i => seLB) t
  have oB : ∀ t, t ≤ N → bset (fun i => decide (¬ m 63 i - seL m i 0 = 0)) t ≤ 4095 := fun t ht => by
    have h1 := bset_lt (c := fun i => decide (¬ m 63 i - seL m i 0 = 0)) t
    have h2 : 2 ^ t ≤ 2 ^ 12 := Nat.pow_le_pow_right (by omega) (by omega)
    omega
  have ref : ∀ (j t : Nat) (M : zM) (D2 : Nat) (κ2 : Option zA → zM → Prop), t + j = N → zB M → Agree coreK0 m M → M 72 1 = 1 → (∀ M1, zB M1 → Agree coreK0 m M1 → RowP M1 → κ2 (some (zi (fineS f (m 63) (fun i => seL m i 0) N))) M1) → T (D2 + 171) 275 (24, [(0, zr 74), (1, zi f), (2, zi (fineS f (m 63) (fun i => seL m i 0) t)), (3, zi (bset (fun i => decide (¬ m 63 i - seL m i 0 = 0)) t : Int)), (4, zi (t : Int))], [], M) κ2 := by
    intro j
    induction j with
    | zero =>
      intro t M D2 κ2 ht hBM hA h72 hk
      have et : t = N := by omega
      subst et
      have := oB t (Nat.le_refl t)
      have := sB t
      have e52 : M 74 52 = (t : Int) := by rw [hA 74 52 rfl, i8.1, hN]
      refine zb275_24 (D := D2 + 167) hT rfl hBM (by omega) (by omega) (by omega) (by omega) (fun _ hz => ?_) (fun q => by omega)
      exact hk _ hz (hA.trans (.of (L := [(74, some 11), (81, none)]) (((zFr.refl.set rfl).set rfl).set rfl) rfl)) (RowP.len (by simp (disch := decide) only [zu_sm, zu_off, zu_dn, h72] <;> rfl))
    | succ j ih =>
      intro t M D2 κ2 ht hBM hA h72 hk
      have := oB t (by omega)
      have := sB t
      have e52 : M 74 52 = (N : Int) := by rw [hA 74 52 rfl, i8.1, hN]
      have b62 : 0 ≤ m 62 t ∧ m 62 t ≤ 9999 := i1 62 t
      have e99 : M 99 (4 * t + 3) = m 63 t := by rw [hA 99 (4 * t + 3) rfl, (i8.2 t (by omega)).2.2.2.1]
      have e992 : M 99 (4 * t + 2) = m 62 t := by rw [hA 99 (4 * t + 2) rfl, (i8.2 t (by omega)).2.2.1]
      refine zb275_24 (D := D2 + 167) hT rfl hBM (by omega) (by omega) (by omega) (by omega) (fun q => by omega) (fun _ => ?_)
      refine z_seenR (l := 0) hT hI0 hBM hA (by omega) (by omega) (by omega) (by omega) (fun M1 hB2 hX => ?_)
      have hA1 : Agree coreK0 m M1 := hA.trans hX.w0
      have h72b : M1 72 1 = 1 := (hX 72 1 rfl).trans h72
      rw [e99]
      refine zb275_79 (D := D2 + 167) hT rfl hB2 (by omega) (by omega) (by omega) (by omega) seLB (bv t) (fun a1 a2 => ?_) (fun a1 a2 => ?_) (fun a1 => ?_)
      · rw [bset_step (by omega) (decide_eq_true a2), show fineS f (m 63) (fun i => seL m i 0) t + (f * (m 63 t - seL m t 0) + f) = fineS f (m 63) (fun i => seL m i 0) (t + 1) by
          rw [fineS, fine1, if_neg a1, if_neg a2, Int.mul_add, Int.mul_one]]
        exact ih (t + 1) M1 D2 κ2 (by omega) hB2 hA1 h72b hk
      · rw [bset_skip (c := fun i => decide (¬ m 63 i - seL m i 0 = 0)) (by simpa using a2), show fineS f (m 63) (fun i => seL m i 0) t = fineS f (m 63) (fun i => seL m i 0) (t + 1) by
          rw [fineS, fine1, if_neg a1, if_pos a2, Int.add_zero]]
        exact ih (t + 1) M1 D2 κ2 (by omega) hB2 hA1 h72b hk
      · rw [bset_step (by omega) (decide_eq_true (show ¬ m 63 t - seL m t 0 = 0 by omega)), show fineS f (m 63) (fun i => seL m i 0) t + (f * (-(m 63 t - seL m t 0)) + f) = fineS f (m 63) (fun i => seL m i 0) (t + 1) by
          rw [fineS, fine1, if_pos a1, Int.mul_add, Int.mul_one]]
        exact ih (t + 1) M1 D2 κ2 (by omega) hB2 hA1 h72b hk
  have cls : ∀ (j t : Nat) (M : zM), t + j = N → zB M → zFr (inL [(13, none)]) m M → T (D + 7) 150 (19, [(0, zr 1), (1, zi f), (2, zi (fineS f (m 63) (fun i => seL m i 0) t)), (3, zi (bset (fun i => decide (¬ m 63 i - seL m i 0 = 0)) t : Int)), (4, zi (t : Int))], [], M) κ := by
    intro j
    induction j with
    | zero =>
      intro t M ht hBM hF
      have et : t = N := by omega
      subst et
      have := oB t (Nat.le_refl t)
      have := sB t
      have e59 : M 59 4 = m 59 4 := hF 59 4 rfl
      refine zb150_19 hT rfl hBM (by omega) (by omega) (by omega) (by omega) (fun _ hz => ?_) (fun q => by omega)
      refine hκ _ _ (fun D2 κ2 h2 => ?_)
      have hA : Agree coreK0 m (zu (zu M 72 1 1) 73 0 (bset (fun i => decide (¬ m 63 i - seL m i 0 = 0)) t : Int)) := (Agree.of hF rfl).trans (.of (L := [(72, some 1), (73, none)]) ((zFr.refl.set rfl).set rfl) rfl)
      refine zb275_0 (D := D2 + 167) hT hz hf (fun x => by omega) (fun _ x => by omega) (fun _ _ hz2 => ?_)
      exact ref t 0 _ D2 κ2 (by omega) hz2 (hA.trans (.of (L := [(74, some 12)]) (zFr.refl.set rfl) rfl)) (by simp (disch := decide) only [zu_sm, zu_off, zu_dn] <;> rfl) (fun M1 hB3 hA3 hr => h2 _ _ (fun _ => rfl) ⟨n, k, Inv_row hA3 hB3 hr hI0⟩)
    | succ j ih =>
      intro t M ht hBM hF
      have := oB t (by omega)
      have := sB t
      have e59 : M 59 4 = m 59 4 := hF 59 4 rfl
      have b62 : 0 ≤ m 62 t ∧ m 62 t ≤ 9999 := i1 62 t
      refine zb150_19 hT rfl hBM (by omega) (by omega) (by omega) (by omega) (fun q => by omega) (fun _ => ?_)
      refine zb182_0 hT hBM (by omega) (by omega) ?_
      refine z_seenC (D := D + 1) hT hI0 hBM hF (by omega) (by omega) (by omega) (fun M1 hB2 hF1 => ?_)
      refine zb182_33 hT rfl seLB ?_
      rw [hF 63 t rfl]
      refine zb150_48 hT rfl hB2 (by omega) (by omega) (by omega) (by omega) seLB (bv t) (fun a1 a2 => ?_) (fun a1 a2 => ?_) (fun a1 => ?_)
      · rw [bset_skip (c := fun i => decide (¬ m 63 i - seL m i 0 = 0)) (by simpa using a2), show fineS f (m 63) (fun i => seL m i 0) t = fineS f (m 63) (fun i => seL m i 0) (t + 1) by
          rw [fineS, fine1, if_neg a1, if_pos a2, Int.add_zero]]
        exact ih (t + 1) M1 (by omega) hB2 hF1
      · rw [bset_step (by omega) (decide_eq_true a2), show fineS f (m 63) (fun i => seL m i 0) t + f * (m 63 t - seL m t 0 + 1) = fineS f (m 63) (fun i => seL m i 0) (t + 1) by
          rw [fineS, fine1, if_neg a1, if_neg a2]]
        exact ih (t + 1) M1 (by omega) hB2 hF1
      · rw [bset_step (by omega) (decide_eq_true (show ¬ m 63 t - seL m t 0 = 0 by omega)), show fineS f (m 63) (fun i => seL m i 0) t + f * (-(m 63 t - seL m t 0) + 1) = fineS f (m 63) (fun i => seL m i 0) (t + 1) by
          rw [fineS, fine1, if_pos a1]]
        exact ih (t + 1) M1 (by omega) hB2 hF1
  exact cls N 0 m (by omega) i1 zFr.refl
end ZSeen
