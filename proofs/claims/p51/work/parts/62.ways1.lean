/-! Calls that need little: jobs, what was seen, terms, THE TEXT's end. -/
section ZWays1
variable {T : Nat → Nat → zG → (Option zA → zM → Prop) → Prop} {B : Int}
theorem w_rest (hT : zRules T) : Way T 154 279 [(0, zr 1)] [(0, zr 74)] 2 2 B B True := by
  rintro D m sc ⟨n, k, hI⟩ κ hκ
  have hI0 := hI
  obtain ⟨i1, i2, i3, i4, i5, i6, i7, i8, i9, i10, i11⟩ := hI
  refine zb154_0 hT i1 (fun hz => hκ _ _ (fun D2 κ2 h2 => ?_))
  refine zb279_0 hT hz (fun hz2 => ?_)
  refine h2 _ _ (fun _ => ?_) ⟨n, k, ?_⟩
  · show some (zi (m 64 2)) = some (zi (m 74 54))
    rw [i9.1]
  · have hF : zFr (inL [(64, some 2), (74, some 12), (74, some 54)]) m (zu (zu (zu m 64 2 0) 74 12 0) 74 54 0) := ((zFr.refl.set rfl).set rfl).set rfl
    refine ⟨hz2, Text_fr (.of hF rfl) i2, (Agree.of hF rfl).law.1 i3, House_fr (.of hF rfl) i4, Term_fr (.of hF rfl) i5, Undo_fr (.of hF rfl) i6, Kept_fr (.of hF rfl) i7, Seen_fr (.of hF rfl) i8, ⟨rfl, fun i hi => ?_⟩, Now_fr (.of hF rfl) i10, Scr_fr (.of hF rfl) i11⟩
    have : (i : Int) < 0 := hi
    omega
theorem w_forget (hT : zRules T) : Way T 149 274 [(0, zr 1)] [(0, zr 74)] 2 2 B B True := by
  rintro D m sc ⟨n, k, hI⟩ κ hκ
  obtain ⟨i1, i2, i3, i4, i5, i6, i7, i8, i9, i10, i11⟩ := hI
  refine zb149_0 hT i1 (fun hz => hκ _ _ (fun D2 κ2 h2 => ?_))
  refine zb274_0 hT hz (fun hz2 => ?_)
  refine h2 _ _ (fun _ => ?_) ⟨n, k, ?_⟩
  · show some (zi (m 59 4)) = some (zi (m 74 52))
    rw [i8.1]
  · have hF : zFr (inL [(59, some 4), (74, some 12), (74, some 52)]) m (zu (zu (zu m 59 4 0) 74 12 0) 74 52 0) := ((zFr.refl.set rfl).set rfl).set rfl
    refine ⟨hz2, Text_fr (.of hF rfl) i2, (Agree.of hF rfl).law.1 i3, House_fr (.of hF rfl) i4, Term_fr (.of hF rfl) i5, Undo_fr (.of hF rfl) i6, Kept_fr (.of hF rfl) i7, ⟨rfl, fun i hi => ?_⟩, Job_fr (.of hF rfl) i9, Now_fr (.of hF rfl) i10, Scr_fr (.of hF rfl) i11⟩
    have : (i : Int) < 0 := hi
    omega
theorem w_set (hT : zRules T) {w v : Int} (hw : isI w) (hv : isI v) : Way T 121 222 [(0, zr 1), (1, zi w), (2, zi v)] [(0, zr 74), (1, zi w), (2, zi v)] 2 2 B B True := by
  rintro D m sc ⟨n, k, hI⟩ κ hκ
  have hI0 := hI
  obtain ⟨i1, i2, i3, i4, i5, i6, i7, i8, i9, i10, i11⟩ := hI
  have hB1 : zB (zu m 74 12 0) := zB_u i1 trivial
  have no : (¬ (0 ≤ w ∧ w ≤ 2 ∧ 0 ≤ v ∧ v ≤ 9)) → κ (some (zi (-1))) m := by
    intro hno
    refine hκ _ _ (fun D2 κ2 h2 => ?_)
    have fin : κ2 (some (zi (-1))) (zu m 74 12 0) := h2 _ _ (fun _ => rfl) ⟨n, k, Inv_fr (.of (L := [(74, some 12)]) (zFr.refl.set rfl) rfl) hB1 hI0⟩
    exact zb222_0 hT i1 hw hv (fun _ _ => fin) (fun _ _ _ => fin) (fun _ _ _ _ => fin) (fun _ _ _ _ _ => fin) (fun q1 q2 q3 q4 => absurd ⟨by omega, by omega, by omega, by omega⟩ hno)
  refine zb121_0 hT i1 hw hv (fun q1 => no (by omega)) (fun q1 q2 => no (by omega)) (fun q1 q2 q3 => no (by omega)) (fun q1 q2 q3 q4 hz => ?_) (fun q1 q2 q3 q4 => no (by omega))
  refine hκ _ _ (fun D2 κ2 h2 => ?_)
  refine zb222_0 hT hz hw hv (fun q => by omega) (fun _ q => by omega) (fun _ _ q => by omega) (fun _ _ _ q => by omega) (fun _ _ _ _ hz2 => ?_)
  have hj : w.toNat < 3 := by omega
  refine h2 _ _ (fun _ => ?_) ⟨n, k, ?_⟩
  · show some (zi (m 24 w.toNat)) = some (zi (m 79 w.toNat))
    rw [i5 _ hj]
  · have hF : zFr (inL [(24, none), (74, some 12), (79, none)]) m (zu (zu (zu m 24 w.toNat v) 74 12 0) 79 w.toNat v) := ((zFr.refl.set rfl).set rfl).set rfl
    refine ⟨hz2, Text_fr (.of hF rfl) i2, (Agree.of hF rfl).law.1 i3, House_fr (.of hF rfl) i4, fun j hj2 => ?_, Undo_fr (.of hF rfl) i6, Kept_fr (.of hF rfl) i7, Seen_fr (.of hF rfl) i8, Job_fr (.of hF rfl) i9, Now_fr (.of hF rfl) i10, Scr_fr (.of hF rfl) i11⟩
    by_cases e : j = w.toNat
    · subst e
      simp (disch := omega) only [zu_sm, zu_dn]
    · simp (disch := omega) only [zu_off, zu_dn]
      exact i5 j hj2
theorem w_job (hT : zRules T) {h d : Int} (hh : isI h) (hd : isI d) : Way T 153 278 [(0, zr 1), (1, zi h), (2, zi d)] [(0, zr 74), (1, zi h), (2, zi d)] 2 2 B B True := by
  rintro D m sc ⟨n, k, hI⟩ κ hκ
  have hI0 := hI
  obtain ⟨i1, i2, i3, i4, i5, i6, i7, i8, i9, i10, i11⟩ := hI
  have hB1 : zB (zu m 74 12 0) := zB_u i1 trivial
  have b64 : 0 ≤ m 64 2 ∧ m 64 2 ≤ 7 := i1 64 2
  have e54 := i9.1
  have no : ∀ v, (v = -1 ∧ ¬ (1 ≤ h ∧ h ≤ 20 ∧ 0 ≤ d ∧ d ≤ 99)) ∨ (v = -2 ∧ (1 ≤ h ∧ h ≤ 20 ∧ 0 ≤ d ∧ d ≤ 99) ∧ m 64 2 = 7) → κ (some (zi v)) m := by
    intro v hno
    refine hκ _ _ (fun D2 κ2 h2 => ?_)
    have fin : κ2 (some (zi v)) (zu m 74 12 0) := h2 _ _ (fun _ => rfl) ⟨n, k, Inv_fr (.of (L := [(74, some 12)]) (zFr.refl.set rfl) rfl) hB1 hI0⟩
    rcases hno with ⟨rfl, hno⟩ | ⟨rfl, hno, h7⟩
    · exact zb278_0 hT i1 hh hd (fun _ _ => fin) (fun _ _ _ => fin) (fun _ _ _ _ => fin) (fun _ _ _ _ _ => fin) (fun q1 q2 q3 q4 => absurd ⟨by omega, by omega, by omega, by omega⟩ hno) (fun q1 q2 q3 q4 => absurd ⟨by omega, by omega, by omega, by omega⟩ hno)
    · exact zb278_0 hT i1 hh hd (fun q => by omega) (fun _ q => by omega) (fun _ _ q => by omega) (fun _ _ _ q => by omega) (fun _ _ _ _ q => by omega) (fun _ _ _ _ _ _ => fin)
  refine zb153_0 hT i1 hh hd (fun q1 => no _ (by omega)) (fun q1 q2 => no _ (by omega)) (fun q1 q2 q3 => no _ (by omega)) (fun q1 q2 q3 q4 q5 hz => ?_) (fun q1 q2 q3 q4 q5 => no _ (by omega)) (fun q1 q2 q3 q4 => no _ (by omega))
  refine hκ _ _ (fun D2 κ2 h2 => ?_)
  have e54b : (zu (zu (zu m 65 (m 64 2).toNat h) 66 (m 64 2).toNat d) 64 2 (m 64 2 + 1)) 74 54 = m 64 2 := e54
  refine zb278_0 hT hz hh hd (fun q => by omega) (fun _ q => by omega) (fun _ _ q => by omega) (fun _ _ _ q => by omega) (fun _ _ _ _ _ hz2 => ?_) (fun _ _ _ _ q => by omega)
  rw [e54b] at hz2 ⊢
  refine h2 _ _ (fun _ => rfl) ⟨n, k, ?_⟩
  have hF : zFr (inL [(64, some 2), (65, none), (66, none), (74, some 12), (100, none), (74, some 54)]) m (zu (zu (zu (zu (zu (zu (zu m 65 (m 64 2).toNat h) 66 (m 64 2).toNat d) 64 2 (m 64 2 + 1)) 74 12 0) 100 (2 * m 64 2).toNat h) 100 (2 * m 64 2 + 1).toNat d) 74 54 (m 64 2 + 1)) := ((((((zFr.refl.set rfl).set rfl).set rfl).set rfl).set rfl).set rfl).set rfl
  refine ⟨hz2, Text_fr (.of hF rfl) i2, (Agree.of hF rfl).law.1 i3, House_fr (.of hF rfl) i4, Term_fr (.of hF rfl) i5, Undo_fr (.of hF rfl) i6, Kept_fr (.of hF rfl) i7, Seen_fr (.of hF rfl) i8, ⟨?_, fun i hi => ?_⟩, Now_fr (.of hF rfl) i10, Scr_fr (.of hF rfl) i11⟩
  · simp (disch := omega) only [zu_sm, zu_dn]
  · simp (disch := omega) only [zu_sm, zu_dn] at hi
    by_cases e : i = (m 64 2).toNat
    · subst e
      simp (disch := omega) only [zu_dn, zu_sm, zu_off]
      exact ⟨trivial, trivial, by omega⟩
    · simp (disch := omega) only [zu_dn, zu_off]
      exact i9.2 i (by omega)
theorem w_seen (hT : zRules T) {p q w v : Int} (hp : isI p) (hq : isI q) (hw : isI w) (hv : isI v) : Way T 148 273 [(0, zr 1), (1, zi p), (2, zi q), (3, zi w), (4, zi v)] [(0, zr 74), (1, zi p), (2, zi q), (3, zi w), (4, zi v)] 2 2 B B True := by
  rintro D m sc ⟨n, k, hI⟩ κ hκ
  have hI0 := hI
  obtain ⟨i1, i2, i3, i4, i5, i6, i7, i8, i9, i10, i11⟩ := hI
  have hB1 : zB (zu m 74 12 0) := zB_u i1 trivial
  have b59 : 0 ≤ m 59 4 ∧ m 59 4 ≤ 12 := i1 59 4
  have e52 := i8.1
  obtain ⟨n1, n2⟩ := i4.1
  have b17 : 0 ≤ m 17 0 ∧ m 17 0 ≤ 6 := i1 17 0
  have no : ¬ (0 ≤ p ∧ p < n ∧ 0 ≤ q ∧ q ≤ 3 ∧ 0 ≤ w ∧ w ≤ 9999 ∧ 0 ≤ v ∧ v ≤ 99 ∧ m 59 4 < 12) → κ (some (zi (-1))) m := by
    intro hno
    refine hκ _ _ (fun D2 κ2 h2 => ?_)
    have fin : κ2 (some (zi (-1))) (zu m 74 12 0) := h2 _ _ (fun _ => rfl) ⟨n, k, Inv_fr (.of (L := [(74, some 12)]) (zFr.refl.set rfl) rfl) hB1 hI0⟩
    exact zb273_0 hT i1 hp hq hw hv (fun _ _ => fin) (fun _ _ _ => fin) (fun _ _ _ _ => fin) (fun _ _ _ _ _ => fin) (fun _ _ _ _ _ _ => fin) (fun _ _ _ _ _ _ _ => fin) (fun _ _ _ _ _ _ _ _ => fin) (fun _ _ _ _ _ _ _ _ _ => fin) (fun q1 q2 q3 q4 q5 q6 q7 q8 q9 => absurd ⟨by omega, by omega, by omega, by omega, by omega, by omega, by omega, by omega, by omega⟩ hno) (fun _ _ _ _ _ _ _ _ _ _ => fin)
  refine zb148_0 hT i1 hp hq hw hv (fun q1 => no (by omega)) (fun q1 q2 => no (by omega)) (fun q1 q2 q3 => no (by omega)) (fun q1 q2 q3 q4 => no (by omega)) (fun q1 q2 q3 q4 q5 => no (by omega)) (fun q1 q2 q3 q4 q5 q6 => no (by omega)) (fun q1 q2 q3 q4 q5 q6 q7 => no (by omega)) (fun q1 q2 q3 q4 q5 q6 q7 q8 => no (by omega)) (fun q1 q2 q3 q4 q5 q6 q7 q8 q9 hz => ?_) (fun q1 q2 q3 q4 q5 q6 q7 q8 q9 => no (by omega))
  refine hκ _ _ (fun D2 κ2 h2 => ?_)
  have e52b : (zu (zu (zu (zu (zu m 60 (m 59 4).toNat p) 61 (m 59 4).toNat q) 62 (m 59 4).toNat w) 63 (m 59 4).toNat v) 59 4 (m 59 4 + 1)) 74 52 = m 59 4 := e52
  have e4b : (zu (zu (zu (zu (zu m 60 (m 59 4).toNat p) 61 (m 59 4).toNat q) 62 (m 59 4).toNat w) 63 (m 59 4).toNat v) 59 4 (m 59 4 + 1)) 74 4 = (n : Int) := n2
  refine zb273_0 hT hz hp hq hw hv (fun x => by omega) (fun _ x => by omega) (fun _ _ x => by omega) (fun _ _ _ x => by omega) (fun _ _ _ _ x => by omega) (fun _ _ _ _ _ x => by omega) (fun _ _ _ _ _ _ x => by omega) (fun _ _ _ _ _ _ _ x => by omega) (fun _ _ _ _ _ _ _ _ _ hz2 => ?_) (fun _ _ _ _ _ _ _ _ x => by omega)
  rw [e52b] at hz2 ⊢
  refine h2 _ _ (fun _ => rfl) ⟨n, k, ?_⟩
  have hF : zFr (inL [(59, some 4), (60, none), (61, none), (62, none), (63, none), (74, some 12), (99, none), (74, some 52)]) m (zu (zu (zu (zu (zu (zu (zu (zu (zu (zu (zu m 60 (m 59 4).toNat p) 61 (m 59 4).toNat q) 62 (m 59 4).toNat w) 63 (m 59 4).toNat v) 59 4 (m 59 4 + 1)) 74 12 0) 99 (4 * m 59 4).toNat p) 99 (4 * m 59 4 + 1).toNat q) 99 (4 * m 59 4 + 2).toNat w) 99 (4 * m 59 4 + 3).toNat v) 74 52 (m 59 4 + 1)) := ((((((((((zFr.refl.set rfl).set rfl).set rfl).set rfl).set rfl).set rfl).set rfl).set rfl).set rfl).set rfl).set rfl
  refine ⟨hz2, Text_fr (.of hF rfl) i2, (Agree.of hF rfl).law.1 i3, House_fr (.of hF rfl) i4, Term_fr (.of hF rfl) i5, Undo_fr (.of hF rfl) i6, Kept_fr (.of hF rfl) i7, ⟨?_, fun i hi => ?_⟩, Job_fr (.of hF rfl) i9, Now_fr (.of hF rfl) i10, Scr_fr (.of hF rfl) i11⟩
  · simp (disch := omega) only [zu_sm, zu_dn]
  · simp (disch := omega) only [zu_sm, zu_dn] at hi
    by_cases e : i = (m 59 4).toNat
    · subst e
      simp (disch := omega) only [zu_dn, zu_sm, zu_off]
      exact ⟨trivial, trivial, trivial, trivial, by omega⟩
    · simp (disch := omega) only [zu_dn, zu_off]
      exact i8.2 i (by omega)
theorem w_end (hT : zRules T) {v : Int} (hv : isI v) : Way T 113 196 [(0, zr 1), (1, zi v)] [(0, zr 74), (1, zi v)] 2 2 B B True := by
  rintro D m sc ⟨n, k, hI⟩ κ hκ
  have hI0 := hI
  obtain ⟨i1, i2, i3, i4, i5, i6, i7, i8, i9, i10, i11⟩ := hI
  have hB1 : zB (zu m 74 12 0) := zB_u i1 trivial
  have b21 : 0 ≤ m 2 1 ∧ m 2 1 ≤ 80 := i1 2 1
  have e9 := i2.1
  have no : ¬ (0 ≤ v ∧ v ≤ m 2 1) → κ (some (zi 0)) m := by
    intro hno
    refine hκ _ _ (fun D2 κ2 h2 => ?_)
    have fin : κ2 (some (zi 0)) (zu m 74 12 0) := h2 _ _ (fun _ => rfl) ⟨n, k, Inv_fr (.of (L := [(74, some 12)]) (zFr.refl.set rfl) rfl) hB1 hI0⟩
    exact zb196_0 hT i1 hv (fun _ _ => fin) (fun _ _ _ => fin) (fun q1 q2 => absurd ⟨by omega, by omega⟩ hno)
  refine zb113_0 hT i1 hv (fun q1 => no (by omega)) (fun q1 q2 hz => ?_) (fun q1 q2 => no (by omega))
  refine hκ _ _ (fun D2 κ2 h2 => ?_)
  have e9b : (zu m 2 1 v) 74 9 = m 2 1 := e9
  refine zb196_0 hT hz hv (fun q => by omega) (fun _ q => by omega) (fun _ _ hz2 => ?_)
  refine h2 _ _ (fun _ => rfl) ⟨n, k, ?_⟩
  have hF : zFr (inL [(2, some 1), (74, some 12), (74, some 9)]) m (zu (zu (zu m 2 1 v) 74 12 0) 74 9 v) := ((zFr.refl.set rfl).set rfl).set rfl
  refine ⟨hz2, ⟨?_, fun j hj => ?_⟩, (Agree.of hF rfl).law.1 i3, House_fr (.of hF rfl) i4, Term_fr (.of hF rfl) i5, Undo_fr (.of hF rfl) i6, Kept_fr (.of hF rfl) i7, Seen_fr (.of hF rfl) i8, Job_fr (.of hF rfl) i9, Now_fr (.of hF rfl) i10, Scr_fr (.of hF rfl) i11⟩
  · simp (disch := omega) only [zu_sm, zu_dn]
  · simp (disch := omega) only [zu_sm, zu_dn] at hj ⊢
    exact i2.2 j (by omega)
end ZWays1
