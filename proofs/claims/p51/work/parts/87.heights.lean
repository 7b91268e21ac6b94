/-! heights(). -/
section ZHeights
variable {T : Nat → Nat → zG → (Option zA → zM → Prop) → Prop} {B : Int}
/-- this height would explain the skirt seen, if it is this person's -/
noncomputable def hgB (m : zM) (p h : Nat) (i : Nat) : Bool := decide (m 60 i = (p : Int) → LW m (h : Int) (p : Int) (m 61 i).toNat (m 62 i) = m 63 i)
/-- number, first and last of the heights below h that explain all -/
noncomputable def hgS (c : Nat → Bool) : Nat → Nat × Int × Int
  | 0 => (0, -1, -1)
  | h + 1 => if h = 0 then (0, -1, -1) else if c h then ((hgS c h).1 + 1, if (hgS c h).1 = 0 then (h : Int) else (hgS c h).2.1, (h : Int)) else hgS c h
theorem hgSB {c : Nat → Bool} : ∀ h : Nat, (hgS c h).1 ≤ h - 1 ∧ (-1 ≤ (hgS c h).2.1 ∧ (hgS c h).2.1 < (h : Int)) ∧ (-1 ≤ (hgS c h).2.2 ∧ (hgS c h).2.2 < (h : Int)) ∧ ((hgS c h).1 = 0 ↔ (hgS c h).2.1 = -1)
  | 0 => by
    rw [hgS]
    exact ⟨Nat.le_refl _, ⟨by decide, by decide⟩, ⟨by decide, by decide⟩, ⟨fun _ => rfl, fun _ => rfl⟩⟩
  | h + 1 => by
    obtain ⟨h1, h2, h3, h4⟩ := hgSB (c := c) h
    rw [hgS]
    by_cases q0 : h = 0
    · rw [if_pos q0]
      exact ⟨by omega, ⟨by decide, by dsimp only; omega⟩, ⟨by decide, by dsimp only; omega⟩, ⟨fun _ => rfl, fun _ => rfl⟩⟩
    · rw [if_neg q0]
      by_cases q1 : c h = true
      · rw [if_pos q1]
        by_cases q2 : (hgS c h).1 = 0
        · rw [if_pos q2]
          dsimp only
          exact ⟨by omega, by omega, by omega, by omega⟩
        · rw [if_neg q2]
          dsimp only
          exact ⟨by omega, by omega, by omega, by omega⟩
      · rw [if_neg q1]
        exact ⟨by omega, by omega, by omega, h4⟩
theorem hgS_yes {c : Nat → Bool} {h : Nat} (h0 : 1 ≤ h) (q : c h = true) : hgS c (h + 1) = ((hgS c h).1 + 1, if (hgS c h).1 = 0 then (h : Int) else (hgS c h).2.1, (h : Int)) := by
  rw [hgS, if_neg (by omega), if_pos q]
theorem hgS_no {c : Nat → Bool} {h : Nat} (h0 : 1 ≤ h) (q : c h = false) : hgS c (h + 1) = hgS c h := by
  rw [hgS, if_neg (by omega), if_neg (by rw [q]; simp)]
theorem z_heightC (hT : zRules T) {D : Nat} {κ : Option zA → zM → Prop} {m M : zM} {sc : zSc} {n k N p h : Nat} (hI : Inv B sc n k m) (hBM : zB M) (hF : zFr (inL [(13, none)]) m M) (hN : m 59 4 = (N : Int)) (hp : p < n) (hh : 1 ≤ h ∧ h ≤ 99)
    (hk : ∀ M1, zB M1 → zFr (inL [(13, none)]) m M1 → κ (some (zi (if allB (hgB m p h) N then 1 else 0))) M1) : T (D + 5) 184 (0, [(0, zr 1), (1, zi (p : Int)), (2, zi (h : Int))], [], M) κ := by
  have i1 := hI.1
  have b17 : 0 ≤ m 17 0 ∧ m 17 0 ≤ 6 := i1 17 0
  have n1 := hI.2.2.2.1.1.1
  have b59 : 0 ≤ m 59 4 ∧ m 59 4 ≤ 12 := i1 59 4
  have key : ∀ (j t : Nat) (M : zM), t + j = N → zB M → zFr (inL [(13, none)]) m M → allB (hgB m p h) t = true → T (D + 5) 184 (2, [(0, zr 1), (1, zi (p : Int)), (2, zi (h : Int)), (3, zi (t : Int))], [], M) κ := by
    intro j
    induction j with
    | zero =>
      intro t M ht hBM hF ha
      have et : t = N := by omega
      subst et
      have e59 : M 59 4 = m 59 4 := hF 59 4 rfl
      have hk2 := hk M hBM hF
      rw [ha, if_pos rfl] at hk2
      exact zb184_2 hT rfl hBM (by omega) (by omega) (by omega) (fun _ => hk2) (fun q => by omega) (fun q => by omega)
    | succ j ih =>
      intro t M ht hBM hF ha
      have e59 : M 59 4 = m 59 4 := hF 59 4 rfl
      have e60 : M 60 t = m 60 t := hF 60 t rfl
      have b61 : 0 ≤ m 61 t ∧ m 61 t ≤ 3 := i1 61 t
      have b62 : 0 ≤ m 62 t ∧ m 62 t ≤ 9999 := i1 62 t
      refine zb184_2 hT rfl hBM (by omega) (by omega) (by omega) (fun q => by omega) (fun _ q => ?_) (fun _ q => ?_)
      · exact ih (t + 1) M (by omega) hBM hF (by rw [allB, ha, hgB, decide_eq_true (fun x => absurd x (by omega)), Bool.and_self])
      · have hA : Agree KL m M := .of hF rfl
        rw [hF 61 t rfl, hF 62 t rfl]
        obtain ⟨b, hb⟩ : ∃ b : Nat, m 61 t = (b : Int) := ⟨(m 61 t).toNat, by omega⟩
        have e : LW M (h : Int) (p : Int) b (m 62 t) = LW m (h : Int) (p : Int) (m 61 t).toNat (m 62 t) := by
          rw [hb, Int.toNat_natCast, hA.law.2]
        rw [hb]
        refine z_lawFor (D := D + 1) hT hBM (by omega) (by omega) (by omega) (by omega) (hA.law.1 hI.2.2.1).1 (fun M1 hB2 hF2 => ?_)
        have hF1 := hF.trans (hF2.sub rowL13)
        rw [e]
        refine zb184_50 hT rfl hB2 (by omega) (by omega) (by omega) LWB (fun q2 => ?_) (fun q2 => ?_)
        · rw [hF1 63 t rfl] at q2
          exact ih (t + 1) M1 (by omega) hB2 hF1 (by rw [allB, ha, hgB, decide_eq_true (fun _ => q2), Bool.and_self])
        · rw [hF1 63 t rfl] at q2
          have hk2 := hk M1 hB2 hF1
          rw [allB_no (i := t) (c := hgB m p h) (decide_eq_false (fun x => q2 (x (by omega)))) N (by omega), if_neg (by simp)] at hk2
          exact hk2
  exact zb184_0 hT hBM (by omega) (by omega) (key N 0 M (by omega) hBM hF rfl)
theorem allB_stay {c : Nat → Bool} {t : Nat} (h : allB c t = false) : ∀ j, allB c (t + j) = false
  | 0 => h
  | j + 1 => by
    show (allB c (t + j) && c (t + j)) = false
    rw [allB_stay h j, Bool.false_and]
theorem w_heights (hT : zRules T) {v : Int} (hv : isI v) : Way T 152 277 [(0, zr 1), (1, zi v)] [(0, zr 74), (1, zi v)] 6 170 B B True := by
  rintro D m sc ⟨n, k, hI⟩ κ hκ
  have hI0 := hI
  obtain ⟨i1, i2, i3, i4, i5, i6, i7, i8, i9, i10, i11⟩ := hI
  have hB1 : zB (zu m 74 12 0) := zB_u i1 trivial
  have hA12 : Agree coreK m (zu m 74 12 0) := .of (L := [(74, some 12)]) (zFr.refl.set rfl) rfl
  have b59 : 0 ≤ m 59 4 ∧ m 59 4 ≤ 12 := i1 59 4
  have b17 : 0 ≤ m 17 0 ∧ m 17 0 ≤ 6 := i1 17 0
  obtain ⟨n1, n2⟩ := i4.1
  have no : ¬ (0 ≤ v ∧ v < n) → κ (some (zi (-1))) m := by
    intro hno
    refine hκ _ _ (fun D2 κ2 h2 => ?_)
    have fin : κ2 (some (zi (-1))) (zu m 74 12 0) := h2 _ _ (fun _ => rfl) ⟨n, k, Inv_fr hA12 hB1 hI0⟩
    exact zb277_0 (D := D2 + 167) hT i1 hv (fun _ _ => fin) (fun _ _ _ => fin) (fun q1 q2 => absurd ⟨by omega, by omega⟩ hno)
  refine zb152_0 hT i1 hv (fun _ => no (by omega)) (fun _ _ => no (by omega)) (fun q1 q2 => ?_)
  obtain ⟨p, rfl⟩ : ∃ a : Nat, v = (a : Int) := ⟨v.toNat, by omega⟩
  obtain ⟨N, hN⟩ : ∃ N : Nat, m 59 4 = (N : Int) := ⟨(m 59 4).toNat, by omega⟩
  -- the reference
  have inner : ∀ (h D2 : Nat) (κ2 : Option zA → zM → Prop), 1 ≤ h → h ≤ 99 → (∀ M1, zB M1 → (Agree coreK0 m M1 ∧ M1 72 1 = 2) → T (D2 + 170) 277 (25, [(0, zr 74), (1, zi (p : Int)), (2, zi ((hgS (fun h => allB (hgB m p h) N) (h + 1)).1 : Int)), (3, zi (hgS (fun h => allB (hgB m p h) N) (h + 1)).2.1), (4, zi (hgS (fun h => allB (hgB m p h) N) (h + 1)).2.2), (5, zi ((h : Int) + 1))], [], M1) κ2) →
      ∀ (j t : Nat) (M : zM), t + j = N → zB M → (Agree coreK0 m M ∧ M 72 1 = 2) → T (D2 + 170) 277 (38, [(0, zr 74), (1, zi (p : Int)), (2, zi ((hgS (fun h => allB (hgB m p h) N) h).1 : Int)), (3, zi (hgS (fun h => allB (hgB m p h) N) h).2.1), (4, zi (hgS (fun h => allB (hgB m p h) N) h).2.2), (5, zi (h : Int)), (6, zi (if allB (hgB m p h) t then 1 else 0)), (7, zi (t : Int))], [], M) κ2 := by
    intro h D2 κ2 h1 h99 hk j
    obtain ⟨g1, g2, g3, g4⟩ := hgSB (c := fun h => allB (hgB m p h) N) h
    have stop : ∀ M1, zB M1 → (Agree coreK0 m M1 ∧ M1 72 1 = 2) → allB (hgB m p h) N = false → T (D2 + 170) 277 (25, [(0, zr 74), (1, zi (p : Int)), (2, zi ((hgS (fun h => allB (hgB m p h) N) h).1 : Int)), (3, zi (hgS (fun h => allB (hgB m p h) N) h).2.1), (4, zi (hgS (fun h => allB (hgB m p h) N) h).2.2), (5, zi ((h : Int) + 1))], [], M1) κ2 := fun M1 hB1 hA1 q => by
      have h2 := hk M1 hB1 hA1
      rw [hgS_no (c := fun h => allB (hgB m p h) N) h1 q] at h2
      exact h2
    induction j with
    | zero =>
      intro t M ht hBM hA
      have et : t = N := by omega
      subst et
      have e52 : M 74 52 = (t : Int) := by rw [hA.1 74 52 rfl, i8.1, hN]
      by_cases ha : allB (hgB m p h) t = true
      · have h2 := hk M hBM hA
        rw [hgS_yes (c := fun h => allB (hgB m p h) t) h1 ha] at h2
        dsimp only at h2
        rw [if_pos ha]
        refine zb277_38 (D := D2 + 167) hT rfl hBM (by omega) (by omega) (by omega) (by omega) h99 (by omega) (by omega) (fun _ _ q => ?_) (fun _ _ q => ?_) (fun _ q => by omega) (fun q => by omega) (fun q => by omega) (fun q => by omega)
        · rw [if_neg (by omega)] at h2
          exact h2
        · rw [if_pos (by omega)] at h2
          exact h2
      · rw [if_neg ha]
        exact zb277_38 (D := D2 + 167) hT rfl hBM (by omega) (by omega) (by omega) (by omega) h99 (by omega) (by omega) (fun _ q => absurd rfl q) (fun _ q => absurd rfl q) (fun _ _ => stop M hBM hA (by simpa using ha)) (fun q => by omega) (fun q => by omega) (fun q => by omega)
    | succ j ih =>
      intro t M ht hBM hA
      have e52 : M 74 52 = (N : Int) := by rw [hA.1 74 52 rfl, i8.1, hN]
      obtain ⟨s0, s1, s2, s3, s4⟩ := i8.2 t (by omega)
      have e99 : ∀ d, M 99 (4 * t + d) = m 99 (4 * t + d) := fun d => hA.1 99 (4 * t + d) rfl
      have e990 : M 99 (4 * t) = m 60 t := (hA.1 99 (4 * t) rfl).trans s0
      have b60 : 0 ≤ m 60 t ∧ m 60 t ≤ 5 := i1 60 t
      have b61 : 0 ≤ m 61 t ∧ m 61 t ≤ 3 := i1 61 t
      have b62 : 0 ≤ m 62 t ∧ m 62 t ≤ 9999 := i1 62 t
      by_cases ha : allB (hgB m p h) t = true
      · rw [if_pos ha]
        have step : allB (hgB m p h) (t + 1) = hgB m p h t := by rw [allB, ha, Bool.true_and]
        refine zb277_38 (D := D2 + 167) hT rfl hBM (by omega) (by omega) (by omega) (by omega) h99 (by omega) (by omega) (fun q => by omega) (fun q => by omega) (fun q => by omega) (fun _ q => by omega) (fun _ _ q => ?_) (fun _ _ q => ?_)
        · have h2 := ih (t + 1) M (by omega) hBM hA
          rw [step, hgB, decide_eq_true (fun x => absurd x (by omega)), if_pos rfl] at h2
          exact h2
        · have hAL : Agree KL m M := hA.1.sub (fun q hq => List.mem_append.mpr (Or.inr (List.mem_append.mpr (Or.inl hq))))
          obtain ⟨b, hb⟩ : ∃ b : Nat, m 61 t = (b : Int) := ⟨(m 61 t).toNat, by omega⟩
          have e : LW M (h : Int) (p : Int) b (m 62 t) = LW m (h : Int) (p : Int) (m 61 t).toNat (m 62 t) := by
            rw [hb, Int.toNat_natCast, hAL.law.2]
          rw [e99 1, e99 2, s1, s2, hb]
          refine z_lawBy hT hBM (by omega) (by omega) (by omega) (by omega) (hAL.law.1 i3) (fun M1 hB2 hF2 => ?_)
          have hA1 : Agree coreK0 m M1 ∧ M1 72 1 = 2 := ⟨hA.1.trans (.of (hF2.sub lbWL) rfl), (hF2 72 1 rfl).trans hA.2⟩
          have h2 := ih (t + 1) M1 (by omega) hB2 hA1
          have e993 : M1 99 (4 * t + 3) = m 63 t := (hA1.1 99 (4 * t + 3) rfl).trans s3
          rw [e]
          refine zb277_94 (D := D2 + 167) hT rfl hB2 (by omega) (by omega) (by omega) (by omega) h99 (by omega) LWB (fun q2 => ?_) (fun q2 => ?_)
          · rw [step, hgB, decide_eq_false (fun y => q2 (by rw [e993]; exact y (by omega))), if_neg (by simp)] at h2
            exact h2
          · rw [step, hgB, decide_eq_true (fun _ => by rw [← e993]; exact q2), if_pos rfl] at h2
            exact h2
      · rw [if_neg ha]
        have hN2 := allB_stay (c := hgB m p h) (t := t) (by simpa using ha) (j + 1)
        rw [show t + (j + 1) = N by omega] at hN2
        exact zb277_38 (D := D2 + 167) hT rfl hBM (by omega) (by omega) (by omega) (by omega) h99 (by omega) (by omega) (fun q => by omega) (fun q => by omega) (fun q => by omega) (fun _ _ => stop M hBM hA hN2) (fun _ q => absurd rfl q) (fun _ q => absurd rfl q)
  have ref : ∀ (j h : Nat) (M : zM) (D2 : Nat) (κ2 : Option zA → zM → Prop), h + j = 100 → 1 ≤ h → zB M → (Agree coreK0 m M ∧ M 72 1 = 2) → (∀ M1, zB M1 → Agree coreK0 m M1 → RowP M1 → κ2 (some (zi ((hgS (fun h => allB (hgB m p h) N) 100).1 : Int))) M1) → T (D2 + 170) 277 (25, [(0, zr 74), (1, zi (p : Int)), (2, zi ((hgS (fun h => allB (hgB m p h) N) h).1 : Int)), (3, zi (hgS (fun h => allB (hgB m p h) N) h).2.1), (4, zi (hgS (fun h => allB (hgB m p h) N) h).2.2), (5, zi (h : Int))], [], M) κ2 := by
    intro j
    induction j with
    | zero =>
      intro h M D2 κ2 hh h1 hBM hA hk
      have eh : h = 100 := by omega
      subst eh
      obtain ⟨g1, g2, g3, g4⟩ := hgSB (c := fun h => allB (hgB m p h) N) 100
      refine zb277_25 (D := D2 + 167) hT rfl hBM (by omega) (by omega) (by omega) (by omega) (by omega) (fun _ hz => hk _ hz ?_ (RowP.len (by simp (disch := decide) only [zu_sm, zu_off, zu_dn, hA.2] <;> rfl))) (fun q => by omega)
      exact hA.1.trans (.of (L := [(74, some 11), (81, none)]) (((((zFr.refl.set rfl).set rfl).set rfl).set rfl).set rfl) rfl)
    | succ j ih =>
      intro h M D2 κ2 hh h1 hBM hA hk
      obtain ⟨g1, g2, g3, g4⟩ := hgSB (c := fun h => allB (hgB m p h) N) h
      refine zb277_25 (D := D2 + 167) hT rfl hBM (by omega) (by omega) (by omega) (by omega) (by omega) (fun q => by omega) (fun _ => ?_)
      exact inner h D2 κ2 h1 (by omega) (fun M1 hB1 hA1 => ih (h + 1) M1 D2 κ2 (by omega) (by omega) hB1 hA1 hk) N 0 M (by omega) hBM hA
  -- the class
  have cls : ∀ (j h : Nat) (M : zM), h + j = 100 → 1 ≤ h → zB M → zFr (inL [(13, none)]) m M → T (D + 6) 152 (23, [(0, zr 1), (1, zi (p : Int)), (2, zi ((hgS (fun h => allB (hgB m p h) N) h).1 : Int)), (3, zi (hgS (fun h => allB (hgB m p h) N) h).2.1), (4, zi (hgS (fun h => allB (hgB m p h) N) h).2.2), (5, zi (h : Int))], [], M) κ := by
    intro j
    induction j with
    | zero =>
      intro h M hh h1 hBM hF
      have eh : h = 100 := by omega
      subst eh
      obtain ⟨g1, g2, g3, g4⟩ := hgSB (c := fun h => allB (hgB m p h) N) 100
      refine zb152_23 hT rfl hBM (by omega) (by omega) (by omega) (by omega) (by omega) (fun _ hz => hκ _ _ (fun D2 κ2 h2 => ?_)) (fun q => by omega)
      have hA : Agree coreK0 m (zu (zu (zu M 72 1 2) 73 0 (hgS (fun h => allB (hgB m p h) N) 100).2.1) 73 1 (hgS (fun h => allB (hgB m p h) N) 100).2.2) := (Agree.of hF rfl).trans (.of (L := [(72, some 1), (73, none)]) (((zFr.refl.set rfl).set rfl).set rfl) rfl)
      have e4 := (hA 74 4 rfl).trans n2
      refine zb277_0 (D := D2 + 167) hT hz hv (fun x => by omega) (fun _ x => by omega) (fun _ _ hz2 => ?_)
      exact ref 99 1 _ D2 κ2 (by omega) (by omega) hz2 ⟨hA.trans (.of (L := [(74, some 12)]) (zFr.refl.set rfl) rfl), by simp (disch := decide) only [zu_sm, zu_off, zu_dn] <;> rfl⟩ (fun M1 hB3 hA3 hr => h2 _ _ (fun _ => rfl) ⟨n, k, Inv_row hA3 hB3 hr hI0⟩)
    | succ j ih =>
      intro h M hh h1 hBM hF
      obtain ⟨g1, g2, g3, g4⟩ := hgSB (c := fun h => allB (hgB m p h) N) h
      refine zb152_23 hT rfl hBM (by omega) (by omega) (by omega) (by omega) (by omega) (fun q => by omega) (fun _ => ?_)
      refine z_heightC hT hI0 hBM hF hN (by omega) ⟨h1, by omega⟩ (fun M1 hB2 hF1 => ?_)
      have h2 := ih (h + 1) M1 (by omega) (by omega) hB2 hF1
      by_cases ha : allB (hgB m p h) N = true
      · rw [hgS_yes (c := fun h => allB (hgB m p h) N) h1 ha] at h2
        dsimp only at h2
        rw [if_pos ha]
        refine zb152_37 hT rfl hB2 (by omega) (by omega) (by omega) (by omega) (by omega) (by omega) (fun q => by omega) (fun _ q => ?_) (fun _ q => ?_)
        · rw [if_neg (fun x => q (g4.mp x))] at h2
          exact h2
        · rw [if_pos (g4.mpr q)] at h2
          exact h2
      · rw [hgS_no (c := fun h => allB (hgB m p h) N) h1 (by simpa using ha)] at h2
        rw [if_neg ha]
        exact zb152_37 hT rfl hB2 (by omega) (by omega) (by omega) (by omega) (by omega) (by omega) (fun _ => h2) (fun q => absurd rfl q) (fun q => absurd rfl q)
  exact cls 99 1 m (by omega) (by omega) i1 zFr.refl
end ZHeights
