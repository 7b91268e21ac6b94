/-! Looking ahead: ahead(), longest(), lengths(), serves(), best(). -/
/-- LAW of one there, so many WEEKS on -/
noncomputable def laF (m : zM) (p pl : Nat) (k : Nat) : Int := LW m (m 18 p) (p : Int) pl (m 17 11 + k)
theorem laFB {m : zM} {p pl k : Nat} : 0 ≤ laF m p pl k ∧ laF m p pl k ≤ 99 := LWB
/-- the first greatest, the first least of so many -/
noncomputable def mxI (f : Nat → Int) : Nat → Nat
  | 0 => 0
  | k + 1 => if f (mxI f k) < f k then k else mxI f k
noncomputable def mnI (f : Nat → Int) : Nat → Nat
  | 0 => 0
  | k + 1 => if f k < f (mnI f k) then k else mnI f k
theorem mxI_le {f : Nat → Int} : ∀ k, mxI f (k + 1) ≤ k
  | 0 => by
    rw [mxI]
    split <;> exact Nat.le_refl 0
  | k + 1 => by
    have := mxI_le (f := f) k
    rw [mxI]
    split <;> omega
theorem mnI_le {f : Nat → Int} : ∀ k, mnI f (k + 1) ≤ k
  | 0 => by
    rw [mnI]
    split <;> exact Nat.le_refl 0
  | k + 1 => by
    have := mnI_le (f := f) k
    rw [mnI]
    split <;> omega
theorem mxI_congr {f g : Nat → Int} : ∀ k, (∀ i, i < k → f i = g i) → mxI f k = mxI g k
  | 0, _ => rfl
  | 1, h => by
    rw [mxI, mxI]
    show (if f 0 < f 0 then 0 else 0) = (if g 0 < g 0 then 0 else 0)
    rw [if_neg (by omega), if_neg (by omega)]
  | k + 2, h => by
    have e := mxI_congr (k + 1) (fun i hi => h i (by omega))
    have := mxI_le (f := g) k
    show (if f (mxI f (k + 1)) < f (k + 1) then k + 1 else mxI f (k + 1)) = (if g (mxI g (k + 1)) < g (k + 1) then k + 1 else mxI g (k + 1))
    rw [e, h _ (by omega), h (k + 1) (by omega)]
theorem mnI_congr {f g : Nat → Int} : ∀ k, (∀ i, i < k → f i = g i) → mnI f k = mnI g k
  | 0, _ => rfl
  | 1, h => by
    rw [mnI, mnI]
    show (if f 0 < f 0 then 0 else 0) = (if g 0 < g 0 then 0 else 0)
    rw [if_neg (by omega), if_neg (by omega)]
  | k + 2, h => by
    have e := mnI_congr (k + 1) (fun i hi => h i (by omega))
    have := mnI_le (f := g) k
    show (if f (k + 1) < f (mnI f (k + 1)) then k + 1 else mnI f (k + 1)) = (if g (k + 1) < g (mnI g (k + 1)) then k + 1 else mnI g (k + 1))
    rw [e, h (k + 1) (by omega), h (mnI g (k + 1)) (by omega)]
/-- how many of the first k are a, to h less -/
noncomputable def tly (f : Nat → Int) (h a : Int) : Nat → Int
  | 0 => 0
  | k + 1 => tly f h a k + (if f k ≤ a ∧ a ≤ f k + h then 1 else 0)
theorem tlyB {f : Nat → Int} {h a : Int} : ∀ k, 0 ≤ tly f h a k ∧ tly f h a k ≤ k
  | 0 => ⟨Int.le_refl 0, Int.le_refl 0⟩
  | k + 1 => by
    have := tlyB (f := f) (h := h) (a := a) k
    rw [tly]
    split <;> omega
theorem tly_congr {f g : Nat → Int} {h a : Int} : ∀ k, (∀ i, i < k → f i = g i) → tly f h a k = tly g h a k
  | 0, _ => rfl
  | k + 1, e => by rw [tly, tly, tly_congr k (fun i hi => e i (by omega)), e k (by omega)]
theorem tly_0 {f : Nat → Int} {h a : Int} (hf : ∀ i, f i + h < a) : ∀ k, tly f h a k = 0
  | 0 => rfl
  | k + 1 => by
    rw [tly, tly_0 hf k, if_neg (fun x => by have := hf k; omega)]
    rfl
noncomputable def cpos (g : Nat → Int) : Nat → Int
  | 0 => 0
  | a + 1 => cpos g a + (if 0 < g a then 1 else 0)
theorem cposB {g : Nat → Int} : ∀ k, 0 ≤ cpos g k ∧ cpos g k ≤ k
  | 0 => ⟨Int.le_refl 0, Int.le_refl 0⟩
  | k + 1 => by
    have := cposB (g := g) k
    rw [cpos]
    split <;> omega
section ZAhead
variable {T : Nat → Nat → zG → (Option zA → zM → Prop) → Prop} {B : Int}
theorem z_lookAhead (hT : zRules T) {D : Nat} {κ : Option zA → zM → Prop} {m : zM} {p pl n : Nat} (hB : zB m) (hp : p ≤ 5) (hpl : pl ≤ 3) (hn : n ≤ 60) (hh : 0 ≤ m 18 p) (hWF : LawRel m)
    (hk : ∀ m1, zB m1 → zFr (inL [(13, none), (52, some 1), (53, none)]) m m1 → m1 52 1 = (n : Int) → (∀ k, k < n → m1 53 k = laF m p pl k) → κ none m1) : T (D + 5) 180 (0, [(0, zr 1), (1, zi (p : Int)), (2, zi (pl : Int)), (3, zi (n : Int))], [], m) κ := by
  have key : ∀ (j t : Nat) (M : zM), t + j = n → zB M → zFr (inL [(13, none), (52, some 1), (53, none)]) m M → M 52 1 = (t : Int) → (∀ k, k < t → M 53 k = laF m p pl k) → T (D + 5) 180 (10, [(0, zr 1), (1, zi (p : Int)), (2, zi (pl : Int)), (3, zi (n : Int)), (4, zi (t : Int))], [], M) κ := by
    intro j
    induction j with
    | zero =>
      intro t M ht hBM hF g1 g2
      have et : t = n := by omega
      subst et
      exact zb180_10 hT rfl hBM hp hpl hn (by omega) (fun _ => hk M hBM hF g1 g2) (fun q => by omega)
    | succ j ih =>
      intro t M ht hBM hF g1 g2
      have hA : Agree KL m M := .of hF rfl
      have b17 : 0 ≤ M 17 11 ∧ M 17 11 ≤ 400000 := hBM 17 11
      have e18 : M 18 p = m 18 p := hF 18 p rfl
      refine zb180_10 hT rfl hBM hp hpl hn (by omega) (fun q => by omega) (fun _ => ?_)
      refine z_lawAt hT hBM hp (by omega) hpl (by omega) (hA.law.1 hWF).1 (fun m1 hB1 hF1 => ?_)
      rw [hA.law.2, e18, hF 17 11 rfl]
      have hF1b : zFr (inL [(13, none), (52, some 1), (53, none)]) M m1 := hF1.sub (fun c j q => by
        have := Nat.eq_of_beq_eq_true q
        subst this
        rfl)
      have e52 : m1 52 1 = (t : Int) := (hF1 52 1 rfl).trans g1
      refine zb180_36 hT rfl hB1 hp hpl hn (by omega) laFB (fun q => by omega) (fun _ hz => ?_)
      rw [e52] at hz ⊢
      rw [Int.toNat_natCast] at hz ⊢
      refine ih (t + 1) _ (by omega) hz (((hF.trans hF1b).set rfl).set rfl) ?_ (fun k hk2 => ?_)
      · rw [zu_sm rfl]
        omega
      · rw [zu_dn (by omega)]
        by_cases e : k = t
        · subst e
          rw [zu_sm rfl]
          rfl
        · rw [zu_off e, hF1 53 k rfl]
          exact g2 k (by omega)
  refine zb180_0 hT hB hp hpl hn (fun hz => ?_)
  exact key n 0 _ (by omega) hz (zFr.refl.set rfl) (by rw [zu_sm rfl]; rfl) (fun k hk2 => by omega)
/-- LAW by the reference, so many WEEKS on -/
theorem z_lawOfF (hT : zRules T) {D : Nat} {κ : Option zA → zM → Prop} {m M : zM} {sc : zSc} {n k p pl d : Nat} (hI : Inv B sc n k m) (hBM : zB M) (hA : Agree KL m M) (h78 : M 78 = m 78) (h57 : M 75 57 = m 75 57) (hp : p < n) (hpl : pl ≤ 3) (hd : d ≤ 200)
    (hk : ∀ M1, zB M1 → zFr (inL lbL) M M1 → κ (some (zi (laF m p pl d))) M1) : T (D + 170) 215 (0, [(0, zr 74), (1, zi (p : Int)), (2, zi (pl : Int)), (3, zi ((M 75 57) + (d : Int)))], [], M) κ := by
  have b17 : 0 ≤ m 17 0 ∧ m 17 0 ≤ 6 := hI.1 17 0
  have h4 := hI.2.2.2.1
  have bn : 0 ≤ M 75 57 ∧ M 75 57 ≤ 400000 := hBM 75 57
  have n1 := h4.1.1
  refine z_lawOf hT hBM (by omega) hpl (by omega) (hA.law.1 hI.2.2.1) (fun M1 hB1 hF1 => ?_)
  have e : LW M (M 78 p) (p : Int) pl (M 75 57 + d) = laF m p pl d := by
    unfold laF
    rw [hA.law.2, h78, (h4.2.2.1 p hp).1, h57, ← h4.2.2.2.1.2.2.2.2.1]
  rw [e]
  exact hk M1 hB1 (hF1.sub lbWL)
theorem z_lawInF (hT : zRules T) {D : Nat} {κ : Option zA → zM → Prop} {m M : zM} {sc : zSc} {n k p pl d : Nat} (hI : Inv B sc n k m) (hBM : zB M) (hA : Agree KL m M) (h78 : M 78 = m 78) (h57 : M 75 57 = m 75 57) (hp : p < n) (hpl : M 75 p = (pl : Int)) (hd : d ≤ 200)
    (hk : ∀ M1, zB M1 → zFr (inL lbL) M M1 → κ (some (zi (laF m p pl d))) M1) : T (D + 171) 216 (0, [(0, zr 74), (1, zi (p : Int)), (2, zi (d : Int))], [], M) κ := by
  have b17 : 0 ≤ m 17 0 ∧ m 17 0 ≤ 6 := hI.1 17 0
  have h4 := hI.2.2.2.1
  have n1 := h4.1.1
  refine z_lawIn (pl := pl) hT hBM (by omega) hpl (by omega) (hA.law.1 hI.2.2.1) (fun M1 hB1 hF1 => ?_)
  have e : LW M (M 78 p) (p : Int) pl (M 75 57 + d) = laF m p pl d := by
    unfold laF
    rw [hA.law.2, h78, (h4.2.2.1 p hp).1, h57, ← h4.2.2.2.1.2.2.2.2.1]
  rw [e]
  exact hk M1 hB1 (hF1.sub lbWL)
theorem z_firstLongest (hT : zRules T) {D : Nat} {κ : Option zA → zM → Prop} {m : zM} {n : Nat} (hB : zB m) (hn : m 52 1 = (n : Int)) (h1 : 1 ≤ n) (h : κ (some (zi (mxI (m 53) n : Int))) m) : T (D + 1) 76 (0, [(0, zr 52)], [], m) κ := by
  have b52 : 0 ≤ m 52 1 ∧ m 52 1 ≤ 60 := hB 52 1
  have key : ∀ (j t : Nat), (t + 1) + j = n → T (D + 1) 76 (4, [(0, zr 52), (1, zi (mxI (m 53) (t + 1) : Int)), (2, zi ((t + 1 : Nat) : Int))], [], m) κ := by
    intro j
    induction j with
    | zero =>
      intro t ht
      have := mxI_le (f := m 53) t
      have et : t + 1 = n := by omega
      refine zb76_4 hT rfl hB (by omega) (by omega) (fun _ => ?_) (fun q => by omega) (fun q => by omega) (fun q => by omega)
      rw [et]
      exact h
    | succ j ih =>
      intro t ht
      have := mxI_le (f := m 53) t
      have ih2 := ih (t + 1) (by omega)
      refine zb76_4 hT rfl hB (by omega) (by omega) (fun q => by omega) (fun _ => by omega) (fun _ q => ?_) (fun _ q => ?_)
      · rw [mxI, if_neg q] at ih2
        exact ih2
      · rw [mxI, if_pos q] at ih2
        exact ih2
  obtain ⟨t, rfl⟩ : ∃ t, n = t + 1 := ⟨n - 1, by omega⟩
  refine zb76_0 hT hB ?_
  have e0 : mxI (m 53) (0 + 1) = 0 := by
    have := mxI_le (f := m 53) 0
    omega
  have := key t 0 (by omega)
  rw [e0] at this
  exact this
theorem z_firstShortest (hT : zRules T) {D : Nat} {κ : Option zA → zM → Prop} {m : zM} {n : Nat} (hB : zB m) (hn : m 52 1 = (n : Int)) (h1 : 1 ≤ n) (h : κ (some (zi (mnI (m 53) n : Int))) m) : T (D + 1) 77 (0, [(0, zr 52)], [], m) κ := by
  have b52 : 0 ≤ m 52 1 ∧ m 52 1 ≤ 60 := hB 52 1
  have key : ∀ (j t : Nat), (t + 1) + j = n → T (D + 1) 77 (4, [(0, zr 52), (1, zi (mnI (m 53) (t + 1) : Int)), (2, zi ((t + 1 : Nat) : Int))], [], m) κ := by
    intro j
    induction j with
    | zero =>
      intro t ht
      have := mnI_le (f := m 53) t
      have et : t + 1 = n := by omega
      refine zb77_4 hT rfl hB (by omega) (by omega) (fun _ => ?_) (fun q => by omega) (fun q => by omega) (fun q => by omega)
      rw [et]
      exact h
    | succ j ih =>
      intro t ht
      have := mnI_le (f := m 53) t
      have ih2 := ih (t + 1) (by omega)
      refine zb77_4 hT rfl hB (by omega) (by omega) (fun q => by omega) (fun _ => by omega) (fun _ q => ?_) (fun _ q => ?_)
      · rw [mnI, if_neg q] at ih2
        exact ih2
      · rw [mnI, if_pos q] at ih2
        exact ih2
  obtain ⟨t, rfl⟩ : ∃ t, n = t + 1 := ⟨n - 1, by omega⟩
  refine zb77_0 hT hB ?_
  have e0 : mnI (m 53) (0 + 1) = 0 := by
    have := mnI_le (f := m 53) 0
    omega
  have := key t 0 (by omega)
  rw [e0] at this
  exact this
theorem z_longR (hT : zRules T) {D : Nat} {κ : Option zA → zM → Prop} {m M0 : zM} {sc : zSc} {n k p pl nn : Nat} (hI : Inv B sc n k m) (hA : Agree coreK0 m M0) (h72 : M0 72 1 = 3) (hp : p < n) (hpl : pl ≤ 3) (hnn : nn ≤ 60) (h1 : 1 ≤ nn) (hB0 : zB M0)
    (hk : ∀ M1, zB M1 → Agree coreK0 m M1 → RowP M1 → κ (some (zi (laF m p pl (mxI (laF m p pl) nn)))) M1) : T (D + 171) 250 (46, [(0, zr 74), (1, zi (p : Int)), (2, zi (pl : Int)), (3, zi (nn : Int)), (4, zi (-1)), (5, zi 0), (6, zi 100000000), (7, zi 0), (8, zi 0)], [], M0) κ := by
  have b17 : 0 ≤ m 17 0 ∧ m 17 0 ≤ 6 := hI.1 17 0
  have n1 := hI.2.2.2.1.1.1
  have law : ∀ (M : zM) (t : Nat) (κ2 : Option zA → zM → Prop), t ≤ 60 → zB M → zFr (inL lbL) M0 M → (∀ M1, zB M1 → zFr (inL lbL) M0 M1 → κ2 (some (zi (laF m p pl t))) M1) → T (D + 170) 215 (0, [(0, zr 74), (1, zi (p : Int)), (2, zi (pl : Int)), (3, zi ((M 75 57) + (t : Int)))], [], M) κ2 := by
    intro M t κ2 ht hBM hF hk2
    have hAM : Agree coreK0 m M := hA.trans (.of hF rfl)
    exact z_lawOfF hT hI hBM (hAM.sub (fun q hq => List.mem_append.mpr (Or.inr (List.mem_append.mpr (Or.inl hq))))) (funext fun j => hAM 78 j rfl) (hAM 75 57 rfl) hp hpl (by omega) (fun M1 hB1 hF1 => hk2 M1 hB1 (hF.trans hF1))
  have fin : ∀ (M : zM) (b d : Nat) (c : Int), zFr (inL lbL) M0 M → zB (zu (zu (zu (zu (zu (zu (zu M 74 11 0) 81 0 (b : Int)) 74 11 1) 81 1 c) 74 11 2) 81 2 (d : Int)) 74 11 3) → κ (some (zi (laF m p pl (mxI (laF m p pl) nn)))) (zu (zu (zu (zu (zu (zu (zu M 74 11 0) 81 0 (b : Int)) 74 11 1) 81 1 c) 74 11 2) 81 2 (d : Int)) 74 11 3) := by
    intro M b d c hF hz
    refine hk _ hz (hA.trans ((Agree.of hF rfl).trans (.of (L := [(74, some 11), (81, none)]) (((((((zFr.refl.set rfl).set rfl).set rfl).set rfl).set rfl).set rfl).set rfl) rfl))) (RowP.len (by simp (disch := decide) only [zu_sm, zu_off, zu_dn, (hF 72 1 rfl).trans h72] <;> rfl))
  have key : ∀ (j t : Nat) (M : zM), (t + 1) + j = nn → zB M → zFr (inL lbL) M0 M → T (D + 171) 250 (46, [(0, zr 74), (1, zi (p : Int)), (2, zi (pl : Int)), (3, zi (nn : Int)), (4, zi (laF m p pl (mxI (laF m p pl) (t + 1)))), (5, zi (mxI (laF m p pl) (t + 1) : Int)), (6, zi (laF m p pl (mnI (laF m p pl) (t + 1)))), (7, zi (mnI (laF m p pl) (t + 1) : Int)), (8, zi ((t + 1 : Nat) : Int))], [], M) κ := by
    intro j
    induction j with
    | zero =>
      intro t M ht hBM hF
      have l1 := mxI_le (f := laF m p pl) t
      have l2 := mnI_le (f := laF m p pl) t
      have v1 := laFB (m := m) (p := p) (pl := pl) (k := mxI (laF m p pl) (t + 1))
      have v2 := laFB (m := m) (p := p) (pl := pl) (k := mnI (laF m p pl) (t + 1))
      refine zb250_46 (D := D + 167) hT rfl hBM (by omega) hpl hnn (by omega) (by omega) (by omega) (by omega) (by omega) (fun _ hz => ?_) (fun q => by omega)
      have et : t + 1 = nn := by omega
      have := fin M _ _ _ hF hz
      rw [et]
      rw [et] at this
      exact this
    | succ j ih =>
      intro t M ht hBM hF
      have l1 := mxI_le (f := laF m p pl) t
      have l2 := mnI_le (f := laF m p pl) t
      have v1 := laFB (m := m) (p := p) (pl := pl) (k := mxI (laF m p pl) (t + 1))
      have v2 := laFB (m := m) (p := p) (pl := pl) (k := mnI (laF m p pl) (t + 1))
      refine zb250_46 (D := D + 167) hT rfl hBM (by omega) hpl hnn (by omega) (by omega) (by omega) (by omega) (by omega) (fun q => by omega) (fun _ => ?_)
      refine law M (t + 1) _ (by omega) hBM hF (fun M1 hB1 hF1 => ?_)
      have ih2 := ih (t + 1) M1 (by omega) hB1 hF1
      rw [mxI, mnI] at ih2
      refine zb250_68 (D := D + 167) hT rfl hB1 (by omega) hpl hnn (by omega) (by omega) (by omega) (by omega) (by omega) laFB (fun q1 q2 => ?_) (fun q1 q2 => ?_) (fun q1 q2 => ?_) (fun q1 q2 => ?_)
      · rw [if_neg q1, if_neg q2] at ih2
        exact ih2
      · rw [if_neg q1, if_pos q2] at ih2
        exact ih2
      · rw [if_pos q1, if_neg q2] at ih2
        exact ih2
      · rw [if_pos q1, if_pos q2] at ih2
        exact ih2
  obtain ⟨s, rfl⟩ : ∃ s, nn = s + 1 := ⟨nn - 1, by omega⟩
  refine zb250_46 (k := 0) (b := 0) (d := 0) (D := D + 167) hT rfl hB0 (by omega) hpl hnn (by omega) (by omega) (by omega) (by omega) (by omega) (fun q => by omega) (fun _ => ?_)
  refine law M0 0 _ (by omega) hB0 zFr.refl (fun M1 hB1 hF1 => ?_)
  have v0 := laFB (m := m) (p := p) (pl := pl) (k := 0)
  refine zb250_68 (k := 0) (b := 0) (d := 0) (D := D + 167) hT rfl hB1 (by omega) hpl hnn (by omega) (by omega) (by omega) (by omega) (by omega) laFB (fun q1 q2 => by omega) (fun q1 q2 => by omega) (fun q1 q2 => by omega) (fun q1 q2 => ?_)
  have e1 : mxI (laF m p pl) (0 + 1) = 0 := by
    have := mxI_le (f := laF m p pl) 0
    omega
  have e2 : mnI (laF m p pl) (0 + 1) = 0 := by
    have := mnI_le (f := laF m p pl) 0
    omega
  have := key s 0 M1 (by omega) hB1 hF1
  rw [e1, e2] at this
  exact this
theorem w_longest (hT : zRules T) {p q v : Int} (hp : isI p) (hq : isI q) (hv : isI v) : Way T 135 250 [(0, zr 1), (1, zi p), (2, zi q), (3, zi v)] [(0, zr 74), (1, zi p), (2, zi q), (3, zi v)] 6 171 B B True := by
  rintro D m sc ⟨n, k, hI⟩ κ hκ
  have hI0 := hI
  obtain ⟨i1, i2, i3, i4, i5, i6, i7, i8, i9, i10, i11⟩ := hI
  have hB1 : zB (zu m 74 12 0) := zB_u i1 trivial
  have hA12 : Agree coreK m (zu m 74 12 0) := .of (L := [(74, some 12)]) (zFr.refl.set rfl) rfl
  obtain ⟨n1, n2⟩ := i4.1
  have b17 : 0 ≤ m 17 0 ∧ m 17 0 ≤ 6 := i1 17 0
  have no : ¬ (0 ≤ p ∧ p < n ∧ 0 ≤ q ∧ q ≤ 3 ∧ 1 ≤ v ∧ v ≤ 60) → κ (some (zi (-1))) m := by
    intro hno
    refine hκ _ _ (fun D2 κ2 h2 => ?_)
    have fin : κ2 (some (zi (-1))) (zu m 74 12 0) := h2 _ _ (fun _ => rfl) ⟨n, k, Inv_fr hA12 hB1 hI0⟩
    exact zb250_0 (D := D2 + 167) hT i1 hp hq hv (fun _ _ => fin) (fun _ _ _ => fin) (fun _ _ _ _ => fin) (fun _ _ _ _ _ => fin) (fun _ _ _ _ _ _ => fin) (fun _ _ _ _ _ _ _ => fin) (fun q1 q2 q3 q4 q5 q6 => absurd ⟨by omega, by omega, by omega, by omega, by omega, by omega⟩ hno)
  refine zb135_0 hT i1 hp hq hv (fun _ => no (by omega)) (fun _ _ => no (by omega)) (fun _ _ _ => no (by omega)) (fun _ _ _ _ => no (by omega)) (fun _ _ _ _ _ => no (by omega)) (fun _ _ _ _ _ _ => no (by omega)) (fun q1 q2 q3 q4 q5 q6 => ?_)
  obtain ⟨a, rfl⟩ : ∃ a : Nat, p = (a : Int) := ⟨p.toNat, by omega⟩
  obtain ⟨pl, rfl⟩ : ∃ a : Nat, q = (a : Int) := ⟨q.toNat, by omega⟩
  obtain ⟨nn, rfl⟩ : ∃ a : Nat, v = (a : Int) := ⟨v.toNat, by omega⟩
  obtain ⟨h78, h18⟩ := i4.2.2.1 a (by omega)
  refine z_lookAhead hT i1 (by omega) (by omega) (by omega) (by omega) i3 (fun m1 hB2 hF1 g1 g2 => ?_)
  have hA1 : Agree coreK m m1 := .of hF1 rfl
  have emx : mxI (m1 53) nn = mxI (laF m a pl) nn := mxI_congr nn g2
  have emn : mnI (m1 53) nn = mnI (laF m a pl) nn := mnI_congr nn g2
  have lx : mxI (laF m a pl) nn < nn := by
    obtain ⟨s, rfl⟩ : ∃ s, nn = s + 1 := ⟨nn - 1, by omega⟩
    have := mxI_le (f := laF m a pl) s
    omega
  have ln : mnI (laF m a pl) nn < nn := by
    obtain ⟨s, rfl⟩ : ∃ s, nn = s + 1 := ⟨nn - 1, by omega⟩
    have := mnI_le (f := laF m a pl) s
    omega
  refine zb135_19 hT rfl hB2 ?_
  refine z_firstLongest (n := nn) hT hB2 g1 (by omega) ?_
  rw [emx]
  refine zb135_26 hT rfl hB2 (by omega) ?_
  refine z_firstShortest (n := nn) hT hB2 g1 (by omega) ?_
  rw [emn]
  refine zb135_35 hT rfl hB2 (by omega) (by omega) (fun hz => ?_)
  rw [g2 _ lx]
  refine hκ _ _ (fun D2 κ2 h2 => ?_)
  generalize hM : (zu (zu (zu (zu m1 72 1 3) 73 0 (mxI (laF m a pl) nn : Int)) 73 1 (m1 53 (mnI (laF m a pl) nn))) 73 2 (mnI (laF m a pl) nn : Int)) = M at hz ⊢
  have x72 : M 72 1 = 3 := by
    rw [← hM]
    simp (disch := decide) only [zu_sm, zu_off, zu_dn]
  have hAM : Agree coreK0 m M := by
    rw [← hM]
    exact hA1.w0.trans (.of (L := [(72, some 1), (73, none)]) ((((zFr.refl.set rfl).set rfl).set rfl).set rfl) rfl)
  have e4 : M 74 4 = (n : Int) := (hAM 74 4 rfl).trans n2
  refine zb250_0 (D := D2 + 167) hT hz hp hq hv (fun x => by omega) (fun _ x => by omega) (fun _ _ x => by omega) (fun _ _ _ x => by omega) (fun _ _ _ _ x => by omega) (fun _ _ _ _ _ x => by omega) (fun _ _ _ _ _ _ hz2 => ?_)
  exact z_longR hT hI0 (hAM.trans (.of (L := [(74, some 12)]) (zFr.refl.set rfl) rfl)) ((zu_dn (by decide)).trans x72) (by omega) (by omega) (by omega) (by omega) hz2 (fun M1 hB3 hA3 hr => h2 _ _ (fun _ => rfl) ⟨n, k, Inv_row hA3 hB3 hr hI0⟩)
end ZAhead
