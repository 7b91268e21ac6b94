/-! person(), cloth(), piece(), row(), count(): what is read. -/
/-- as Way, of a call of the class that may throw: none then, and the reference's thrown is 1 -/
noncomputable def WayX (T : Nat → Nat → zG → (Option zA → zM → Prop) → Prop) (kC kR : Nat) (aC aR : zL) (dC dR : Nat) (B B2 : Int) (same : Prop) : Prop := ∀ (D : Nat) (m : zM) (sc : zSc), (∃ n k, Inv B sc n k m) → ∀ κ : Option zA → zM → Prop, (∀ r m1, (r = none ∨ ∃ v, r = some (zi v)) → (∀ (D2 : Nat) (κ2 : Option zA → zM → Prop), (∀ r2 m2, (same → (r = none ∧ m2 74 12 = 1) ∨ (¬ r = none ∧ r = r2 ∧ m2 74 12 = 0)) → (∃ n k, Inv B2 sc n k m2) → κ2 r2 m2) → T (D2 + dR) kR (0, aR, [], m1) κ2) → κ r m1) → T (D + dC) kC (0, aC, [], m) κ
noncomputable def bsum (f : Nat → Int) : Nat → Nat → Int
  | _, 0 => 0
  | i, j + 1 => f i + bsum f (i + 1) j
theorem bsum_congr {f g : Nat → Int} : ∀ (j i : Nat), (∀ x, i ≤ x → x < i + j → f x = g x) → bsum f i j = bsum g i j
  | 0, _, _ => rfl
  | j + 1, i, h => by
    rw [bsum, bsum, h i (by omega) (by omega), bsum_congr j (i + 1) (fun x h1 h2 => h x (by omega) (by omega))]
theorem bsum_B {f : Nat → Int} (h : ∀ x, x < 20 → 0 ≤ f x ∧ f x ≤ 108) : ∀ (j i : Nat), i + j ≤ 20 → 0 ≤ bsum f i j ∧ bsum f i j ≤ 108 * j
  | 0, i, _ => ⟨Int.le_refl 0, by rw [bsum]; omega⟩
  | j + 1, i, hj => by
    have := bsum_B h j (i + 1) (by omega)
    have := h i (by omega)
    rw [bsum]
    omega
section ZReadW
variable {T : Nat → Nat → zG → (Option zA → zM → Prop) → Prop} {B : Int}
theorem z_sumC (hT : zRules T) {D : Nat} {κ : Option zA → zM → Prop} {m : zM} {c : Nat} (hB : zB m) (hc : m 25 2 = (c : Int)) (h : κ (some (zi (bsum (m 26) 0 c))) m) : T (D + 1) 8 (0, [(0, zr 25)], [], m) κ := by
  have b2 : 0 ≤ m 25 2 ∧ m 25 2 ≤ 20 := hB 25 2
  have b26 : ∀ x, x < 20 → 0 ≤ m 26 x ∧ m 26 x ≤ 108 := fun x _ => hB 26 x
  have key : ∀ (j i : Nat) (s : Int), i + j = c → 0 ≤ s → s ≤ 108 * i → s + bsum (m 26) i j = bsum (m 26) 0 c → T (D + 1) 8 (4, [(0, zr 25), (1, zi s), (2, zi (i : Int))], [], m) κ := by
    intro j
    induction j with
    | zero =>
      intro i s hi h0 h1 h2
      rw [bsum] at h2
      refine zb8_4 hT rfl hB (by omega) (by omega) (fun _ => ?_) (fun q => by omega)
      rw [show s = bsum (m 26) 0 c by omega]
      exact h
    | succ j ih =>
      intro i s hi h0 h1 h2
      have := b26 i (by omega)
      rw [bsum] at h2
      refine zb8_4 hT rfl hB (by omega) (by omega) (fun q => by omega) (fun _ => ?_)
      exact ih (i + 1) _ (by omega) (by omega) (by omega) (by omega)
  exact zb8_0 hT hB (key c 0 0 (by omega) (by omega) (by omega) (by omega))
theorem z_sumR (hT : zRules T) {D : Nat} {κ : Option zA → zM → Prop} {m : zM} {c : Nat} (hB : zB m) (hc : m 75 56 = (c : Int)) (h : κ (some (zi (bsum (fun i => m 75 (i + 36)) 0 c))) m) : T (D + 1) 289 (0, [(0, zr 74)], [], m) κ := by
  have b2 : 0 ≤ m 75 56 ∧ m 75 56 ≤ 20 := hB 75 56
  have b26 : ∀ x, x < 20 → 0 ≤ m 75 (x + 36) ∧ m 75 (x + 36) ≤ 108 := fun x hx => zSg hB 75 36 56 0 108 rfl (x + 36) (by omega) (by omega)
  have key : ∀ (j i : Nat) (s : Int), i + j = c → 0 ≤ s → s ≤ 108 * i → s + bsum (fun i => m 75 (i + 36)) i j = bsum (fun i => m 75 (i + 36)) 0 c → T (D + 1) 289 (4, [(0, zr 74), (1, zi s), (2, zi (i : Int))], [], m) κ := by
    intro j
    induction j with
    | zero =>
      intro i s hi h0 h1 h2
      rw [bsum] at h2
      refine zb289_4 hT rfl hB (by omega) (by omega) (fun _ => ?_) (fun q => by omega)
      rw [show s = bsum (fun i => m 75 (i + 36)) 0 c by omega]
      exact h
    | succ j ih =>
      intro i s hi h0 h1 h2
      have := b26 i (by omega)
      rw [bsum] at h2
      refine zb289_4 hT rfl hB (by omega) (by omega) (fun q => by omega) (fun _ => ?_)
      exact ih (i + 1) _ (by omega) (by omega) (by omega) (by omega)
  exact zb289_0 hT hB (key c 0 0 (by omega) (by omega) (by omega) (by omega))
theorem w_person (hT : zRules T) {p w : Int} (hp : isI p) (hw : isI w) : WayX T 117 218 [(0, zr 1), (1, zi p), (2, zi w)] [(0, zr 74), (1, zi p), (2, zi w)] 6 172 B B True := by
  rintro D m sc ⟨n, k, hI⟩ κ hκ
  have hI0 := hI
  obtain ⟨i1, i2, i3, i4, i5, i6, i7, i8, i9, i10, i11⟩ := hI
  have hA12 : Agree coreK m (zu m 74 12 0) := .of (L := [(74, some 12)]) (zFr.refl.set rfl) rfl
  have hA121 : Agree coreK m (zu (zu m 74 12 0) 74 12 1) := .of (L := [(74, some 12)]) ((zFr.refl.set rfl).set rfl) rfl
  obtain ⟨⟨n1, n2⟩, ⟨k1, k2⟩, hh, hRel, hok⟩ := i4
  have b17 : 0 ≤ m 17 0 ∧ m 17 0 ≤ 6 := i1 17 0
  have b171 : 0 ≤ m 17 1 ∧ m 17 1 ≤ 8 := i1 17 1
  have nil : (∀ (D2 : Nat) (κ2 : Option zA → zM → Prop), (zB (zu (zu m 74 12 0) 74 12 1) → κ2 (some (zi 0)) (zu (zu m 74 12 0) 74 12 1)) → T (D2 + 172) 218 (0, [(0, zr 74), (1, zi p), (2, zi w)], [], m) κ2) → κ none m := fun h =>
    hκ _ _ (Or.inl rfl) (fun D2 κ2 h2 => h D2 κ2 (fun hz => h2 _ _ (fun _ => Or.inl ⟨rfl, by rw [zu_sm rfl]⟩) ⟨n, k, Inv_fr hA121 hz hI0⟩))
  by_cases hr : 0 ≤ p ∧ p < n
  · obtain ⟨a, rfl⟩ : ∃ a : Nat, p = (a : Int) := ⟨p.toNat, by omega⟩
    have han : a < n := by omega
    obtain ⟨ok1, ok2⟩ := hok.1 a han
    obtain ⟨r1, r2⟩ := hRel.1 a han
    obtain ⟨h78, h18⟩ := hh a han
    have val : ∀ v v2 : Int, v = v2 → (∀ (D2 : Nat) (κ2 : Option zA → zM → Prop), (zB (zu m 74 12 0) → κ2 (some (zi v2)) (zu m 74 12 0)) → T (D2 + 172) 218 (0, [(0, zr 74), (1, zi (a : Int)), (2, zi w)], [], m) κ2) → κ (some (zi v)) m := fun v v2 e h =>
      hκ _ _ (Or.inr ⟨_, rfl⟩) (fun D2 κ2 h2 => h D2 κ2 (fun hz => h2 _ _ (fun _ => Or.inr ⟨(fun x => by cases x), by rw [e], by rw [zu_sm rfl]⟩) ⟨n, k, Inv_fr hA12 hz hI0⟩))
    -- LAW by both, from a table that is m but for values
    obtain ⟨pl, hpl⟩ : ∃ pl : Nat, m 19 a = (pl : Int) := ⟨(m 19 a).toNat, by omega⟩
    have hpl3 : pl ≤ 3 := by omega
    have e1711 : m 17 11 = m 75 57 := hRel.2.2.2.2.1
    have lawR2 : ∀ (m1 : zM) (D2 : Nat) (κ2 : Option zA → zM → Prop), zB m1 → zB (zu m1 74 12 0) → zFr (rowW 13) m m1 → (∀ M2, zB M2 → Agree coreK m M2 → M2 74 12 = 0 → κ2 (some (zi (LW m (m 18 a) (a : Int) pl (m 17 11)))) M2) → T (D2 + 171) 216 (0, [(0, zr 74), (1, zi (a : Int)), (2, zi 0)], [], zu m1 74 12 0) κ2 := by
      intro m1 D2 κ2 hB1 hz hF1 hk
      have hF1b : zFr (inL [(13, none), (74, some 12)]) m (zu m1 74 12 0) := (hF1.sub (fun c j q => by
        have := Nat.eq_of_beq_eq_true q
        subst this
        rfl)).set rfl
      have hAc : Agree coreK m (zu m1 74 12 0) := .of hF1b rfl
      have hI2 := Inv_fr hAc hz hI0
      refine z_lawIn (pl := pl) hT hz (by omega) (by rw [hF1b 75 a rfl, ← r1]; exact hpl) (by omega) hI2.2.2.1 (fun m2 hB2 hF2 => ?_)
      have eL : LW (zu m1 74 12 0) = LW m := (Agree.of hF1b rfl : Agree KL m (zu m1 74 12 0)).law.2
      rw [eL, hF1b 78 a rfl, hF1b 75 57 rfl, h78, Int.add_zero, ← e1711]
      refine hk m2 hB2 (hAc.trans (.of (hF2.sub lbWL) rfl)) ?_
      rw [(hF2.sub lbWL) 74 12 rfl, zu_sm rfl]
    refine zb117_0n hT i1 (by omega) hw (fun x => by omega) (fun _ w0 => ?_) (fun _ w0 w1 => ?_) (fun _ w0 w1 w2 => ?_) (fun _ w0 w1 w2 w3 => ?_) (fun _ w0 w1 w2 w3 w4 => ?_) (fun _ w0 w1 w2 w3 w4 => ?_)
    · exact val _ _ h78.symm (fun D2 κ2 f => zb218_0n (D := D2 + 167) hT i1 (by omega) hw (fun x => by omega) (fun _ x => by omega) (fun _ _ x => by omega) (fun _ _ _ _ hz => f hz) (fun _ _ _ x => absurd w0 x) (fun _ _ _ x => absurd w0 x) (fun _ _ _ x => absurd w0 x) (fun _ _ _ x => absurd w0 x) (fun _ _ _ x => absurd w0 x))
    · exact val _ _ r1 (fun D2 κ2 f => zb218_0n (D := D2 + 167) hT i1 (by omega) hw (fun x => by omega) (fun _ x => by omega) (fun _ _ x => by omega) (fun _ _ _ x => absurd x w0) (fun _ _ _ _ _ hz => f hz) (fun _ _ _ _ x => absurd w1 x) (fun _ _ _ _ x => absurd w1 x) (fun _ _ _ _ x => absurd w1 x) (fun _ _ _ _ x => absurd w1 x))
    · exact val _ _ r2 (fun D2 κ2 f => zb218_0n (D := D2 + 167) hT i1 (by omega) hw (fun x => by omega) (fun _ x => by omega) (fun _ _ x => by omega) (fun _ _ _ x => absurd x w0) (fun _ _ _ _ x => absurd x w1) (fun _ _ _ _ _ _ hz => f hz) (fun _ _ _ _ _ x => absurd w2 x) (fun _ _ _ _ _ x => absurd w2 x) (fun _ _ _ _ _ x => absurd w2 x))
    · refine z_lawNow hT i1 (by omega) (by omega) hpl hpl3 i3.1 (fun m1 hB1 hF1 => ?_)
      refine zb117_91 hT rfl LWB (hκ _ _ (Or.inr ⟨_, rfl⟩) (fun D2 κ2 h2 => ?_))
      have e4 : m1 74 4 = (n : Int) := (hF1 74 4 rfl).trans n2
      refine zb218_0n (D := D2 + 167) hT hB1 (by omega) hw (fun x => by omega) (fun _ x => by omega) (fun _ _ x => by omega) (fun _ _ _ x => absurd x w0) (fun _ _ _ _ x => absurd x w1) (fun _ _ _ _ _ x => absurd x w2) (fun _ _ _ _ _ _ _ hz => ?_) (fun _ _ _ _ _ _ x => absurd w3 x) (fun _ _ _ _ _ _ x => absurd w3 x)
      refine lawR2 m1 D2 _ hB1 hz hF1 (fun M2 g1 g2 g3 => ?_)
      exact zb218_90 (D := D2 + 167) hT rfl LWB (h2 _ _ (fun _ => Or.inr ⟨(fun x => by cases x), rfl, g3⟩) ⟨n, k, Inv_fr g2 g1 hI0⟩)
    · -- what it wears
      have none4 : m 75 (a + 6) = -1 → κ (some (zi 0)) m := fun h6 => val 0 0 rfl (fun D2 κ2 f => zb218_0n (D := D2 + 167) hT i1 (by omega) hw (fun x => by omega) (fun _ x => by omega) (fun _ _ x => by omega) (fun _ _ _ x => absurd x w0) (fun _ _ _ _ x => absurd x w1) (fun _ _ _ _ _ x => absurd x w2) (fun _ _ _ _ _ _ x => absurd x w3) (fun _ _ _ _ _ _ _ _ hz => f hz) (fun _ _ _ _ _ _ _ x => absurd h6 x))
      refine zb172_0 hT i1 (by omega) (fun x => ?_) (fun x y => ?_) (fun x y => ?_)
      · exact zb117_97 hT rfl (by omega) (fun _ => none4 (by omega)) (fun x => absurd rfl x)
      · exact zb117_97 hT rfl (by omega) (fun _ => none4 (by omega)) (fun x => absurd rfl x)
      · have hc1 : 0 ≤ m 75 (a + 6) ∧ m 75 (a + 6) < k := by omega
        obtain ⟨c, hc⟩ : ∃ c : Nat, m 75 (a + 6) = (c : Int) := ⟨(m 75 (a + 6)).toNat, by omega⟩
        have e21 : m 21 c = m 75 (c + 12) := (hRel.2.1 c (by omega)).1
        have b21 : -1 ≤ m 21 c ∧ m 21 c ≤ 99 := i1 21 c
        rw [r2, hc, Int.toNat_natCast]
        refine z_lawNow hT i1 (by omega) (by omega) hpl hpl3 i3.1 (fun m1 hB1 hF1 => ?_)
        have e4 : m1 74 4 = (n : Int) := (hF1 74 4 rfl).trans n2
        have e6 : m1 75 (a + 6) = (c : Int) := (hF1 75 _ rfl).trans hc
        have lv := LWB (m := m) (h := m 18 a) (i := (a : Int)) (p := pl) (w := m 17 11)
        have ref : ∀ (v : Int) (D2 : Nat) (κ2 : Option zA → zM → Prop), v = (if m 21 c = LW m (m 18 a) (a : Int) pl (m 17 11) then 1 else 0) → (∀ M2, zB M2 → Agree coreK m M2 → M2 74 12 = 0 → κ2 (some (zi v)) M2) → T (D2 + 172) 218 (0, [(0, zr 74), (1, zi (a : Int)), (2, zi w)], [], m1) κ2 := by
          intro v D2 κ2 hv f
          refine zb218_0n (D := D2 + 167) hT hB1 (by omega) hw (fun x => by omega) (fun _ x => by omega) (fun _ _ x => by omega) (fun _ _ _ x => absurd x w0) (fun _ _ _ _ x => absurd x w1) (fun _ _ _ _ _ x => absurd x w2) (fun _ _ _ _ _ _ x => absurd x w3) (fun _ _ _ _ _ _ _ x => by omega) (fun _ _ _ _ _ _ _ _ hz => ?_)
          rw [e6, show (12 + (c : Int)).toNat = c + 12 by omega, hF1 75 (c + 12) rfl, ← e21]
          refine lawR2 m1 D2 _ hB1 hz hF1 (fun M2 g1 g2 g3 => ?_)
          refine zb218_111 (D := D2 + 167) hT rfl b21 lv (fun x => ?_) (fun x => ?_)
          · rw [if_neg x] at hv
            rw [← hv]
            exact f M2 g1 g2 g3
          · rw [if_pos x] at hv
            rw [← hv]
            exact f M2 g1 g2 g3
        refine zb172_35 hT rfl b21 lv (fun x => ?_) (fun x => ?_)
        · refine zb117_97 hT rfl (by omega) (fun _ => hκ _ _ (Or.inr ⟨_, rfl⟩) (fun D2 κ2 h2 => ?_)) (fun x => absurd rfl x)
          exact ref 0 D2 κ2 (by rw [if_neg x]) (fun M2 g1 g2 g3 => h2 _ _ (fun _ => Or.inr ⟨(fun x => by cases x), rfl, g3⟩) ⟨n, k, Inv_fr g2 g1 hI0⟩)
        · refine zb117_97 hT rfl (by omega) (fun x => by omega) (fun _ => hκ _ _ (Or.inr ⟨_, rfl⟩) (fun D2 κ2 h2 => ?_))
          exact ref 1 D2 κ2 (by rw [if_pos x]) (fun M2 g1 g2 g3 => h2 _ _ (fun _ => Or.inr ⟨(fun x => by cases x), rfl, g3⟩) ⟨n, k, Inv_fr g2 g1 hI0⟩)
    · exact nil (fun D2 κ2 f => zb218_0n (D := D2 + 167) hT i1 (by omega) hw (fun x => by omega) (fun _ _ hz => f hz) (fun _ _ _ hz => f hz) (fun _ _ _ x => absurd x w0) (fun _ _ _ _ x => absurd x w1) (fun _ _ _ _ _ x => absurd x w2) (fun _ _ _ _ _ _ x => absurd x w3) (fun _ _ _ _ _ _ _ => by omega) (fun _ _ _ _ _ _ _ => by omega))
  · have fin : κ none m := nil (fun D2 κ2 f => zb218_0 (D := D2 + 167) hT i1 hp hw (fun _ hz => f hz) (fun _ _ hz => f hz) (fun q1 q2 => absurd ⟨by omega, by omega⟩ hr) (fun q1 q2 => absurd ⟨by omega, by omega⟩ hr) (fun q1 q2 => absurd ⟨by omega, by omega⟩ hr) (fun q1 q2 => absurd ⟨by omega, by omega⟩ hr) (fun q1 q2 => absurd ⟨by omega, by omega⟩ hr) (fun q1 q2 => absurd ⟨by omega, by omega⟩ hr) (fun q1 q2 => absurd ⟨by omega, by omega⟩ hr) (fun q1 q2 => absurd ⟨by omega, by omega⟩ hr) (fun q1 q2 => absurd ⟨by omega, by omega⟩ hr) (fun q1 q2 => absurd ⟨by omega, by omega⟩ hr))
    exact zb117_0 hT i1 hp hw (fun _ => fin) (fun _ _ => fin) (fun q1 q2 => absurd ⟨by omega, by omega⟩ hr) (fun q1 q2 => absurd ⟨by omega, by omega⟩ hr) (fun q1 q2 => absurd ⟨by omega, by omega⟩ hr) (fun q1 q2 => absurd ⟨by omega, by omega⟩ hr) (fun q1 q2 => absurd ⟨by omega, by omega⟩ hr) (fun q1 q2 => absurd ⟨by omega, by omega⟩ hr)
theorem w_cloth (hT : zRules T) {p w : Int} (hp : isI p) (hw : isI w) : WayX T 118 219 [(0, zr 1), (1, zi p), (2, zi w)] [(0, zr 74), (1, zi p), (2, zi w)] 3 3 B B True := by
  rintro D m sc ⟨n, k, hI⟩ κ hκ
  have hI0 := hI
  obtain ⟨i1, i2, i3, i4, i5, i6, i7, i8, i9, i10, i11⟩ := hI
  have hA12 : Agree coreK m (zu m 74 12 0) := .of (L := [(74, some 12)]) (zFr.refl.set rfl) rfl
  have hA121 : Agree coreK m (zu (zu m 74 12 0) 74 12 1) := .of (L := [(74, some 12)]) ((zFr.refl.set rfl).set rfl) rfl
  obtain ⟨⟨n1, n2⟩, ⟨k1, k2⟩, hh, hRel, hok⟩ := i4
  have b17 : 0 ≤ m 17 0 ∧ m 17 0 ≤ 6 := i1 17 0
  have b171 : 0 ≤ m 17 1 ∧ m 17 1 ≤ 8 := i1 17 1
  have nil : (∀ (D2 : Nat) (κ2 : Option zA → zM → Prop), (zB (zu (zu m 74 12 0) 74 12 1) → κ2 (some (zi 0)) (zu (zu m 74 12 0) 74 12 1)) → T (D2 + 3) 219 (0, [(0, zr 74), (1, zi p), (2, zi w)], [], m) κ2) → κ none m := fun h =>
    hκ _ _ (Or.inl rfl) (fun D2 κ2 h2 => h D2 κ2 (fun hz => h2 _ _ (fun _ => Or.inl ⟨rfl, by rw [zu_sm rfl]⟩) ⟨n, k, Inv_fr hA121 hz hI0⟩))
  by_cases hr : 0 ≤ p ∧ p < k
  · obtain ⟨c, rfl⟩ : ∃ a : Nat, p = (a : Int) := ⟨p.toNat, by omega⟩
    obtain ⟨r1, r2, r3⟩ := hRel.2.1 c (by omega)
    have val : ∀ v v2 : Int, v = v2 → (∀ (D2 : Nat) (κ2 : Option zA → zM → Prop), (zB (zu m 74 12 0) → κ2 (some (zi v2)) (zu m 74 12 0)) → T (D2 + 3) 219 (0, [(0, zr 74), (1, zi (c : Int)), (2, zi w)], [], m) κ2) → κ (some (zi v)) m := fun v v2 e h =>
      hκ _ _ (Or.inr ⟨_, rfl⟩) (fun D2 κ2 h2 => h D2 κ2 (fun hz => h2 _ _ (fun _ => Or.inr ⟨(fun x => by cases x), by rw [e], by rw [zu_sm rfl]⟩) ⟨n, k, Inv_fr hA12 hz hI0⟩))
    refine zb118_0n hT i1 (by omega) hw (fun x => by omega) (fun _ w0 => ?_) (fun _ w0 w1 => ?_) (fun _ w0 w1 w2 => ?_) (fun _ w0 w1 w2 w3 => ?_) (fun _ w0 w1 w2 w3 w4 => ?_) (fun _ w0 w1 w2 w3 w4 => ?_)
    · exact val _ _ r1 (fun D2 κ2 f => zb219_0n hT i1 (by omega) hw (fun x => by omega) (fun _ x => by omega) (fun _ _ x => by omega) (fun _ _ _ _ hz => f hz) (fun _ _ _ x => absurd w0 x) (fun _ _ _ x => absurd w0 x) (fun _ _ _ x => absurd w0 x) (fun _ _ _ x => absurd w0 x))
    · exact val _ _ r2 (fun D2 κ2 f => zb219_0n hT i1 (by omega) hw (fun x => by omega) (fun _ x => by omega) (fun _ _ x => by omega) (fun _ _ _ x => absurd x w0) (fun _ _ _ _ _ hz => f hz) (fun _ _ _ _ x => absurd w1 x) (fun _ _ _ _ x => absurd w1 x) (fun _ _ _ _ x => absurd w1 x))
    · exact val _ _ (by rw [r1, r2]) (fun D2 κ2 f => zb219_0n hT i1 (by omega) hw (fun x => by omega) (fun _ x => by omega) (fun _ _ x => by omega) (fun _ _ _ x => absurd x w0) (fun _ _ _ _ x => absurd x w1) (fun _ _ _ _ _ _ hz => f hz) (fun _ _ _ _ _ x => absurd w2 x) (fun _ _ _ _ _ x => absurd w2 x))
    · exact val _ _ (by rw [r3]) (fun D2 κ2 f => zb219_0n hT i1 (by omega) hw (fun x => by omega) (fun _ x => by omega) (fun _ _ x => by omega) (fun _ _ _ x => absurd x w0) (fun _ _ _ _ x => absurd x w1) (fun _ _ _ _ _ x => absurd x w2) (fun _ _ _ _ _ _ _ hz => f hz) (fun _ _ _ _ _ _ x => absurd w3 x))
    · have hw1 := wIx_b (f := m 20) (c := (c : Int)) n 0
      have ew : wIx (m 20) (c : Int) 0 n = wIx (fun p => m 75 (p + 6)) (c : Int) 0 n := wIx_congr n 0 (fun i _ hi => (hRel.1 i (by omega)).2)
      refine z_wearerOf (n := n) hT i1 (by omega) n1 ?_
      refine zb118_103 hT rfl (by omega) ?_
      refine val _ _ ew (fun D2 κ2 f => zb219_0n hT i1 (by omega) hw (fun x => by omega) (fun _ x => by omega) (fun _ _ x => by omega) (fun _ _ _ x => absurd x w0) (fun _ _ _ _ x => absurd x w1) (fun _ _ _ _ _ x => absurd x w2) (fun _ _ _ _ _ _ x => absurd x w3) (fun _ _ _ _ _ _ _ hz => ?_))
      refine z_wearer (n := n) hT hz (by omega) n2 ?_
      exact zb219_119 hT rfl (by rw [show (fun p => (zu m 74 12 0) 75 (p + 6)) = fun p => m 75 (p + 6) from rfl, ← ew]; omega) (f hz)
    · exact nil (fun D2 κ2 f => zb219_0n hT i1 (by omega) hw (fun x => by omega) (fun _ _ hz => f hz) (fun _ _ _ hz => f hz) (fun _ _ _ x => absurd x w0) (fun _ _ _ _ x => absurd x w1) (fun _ _ _ _ _ x => absurd x w2) (fun _ _ _ _ _ _ x => absurd x w3) (fun _ _ _ _ _ _ _ => by omega))
  · have fin : κ none m := nil (fun D2 κ2 f => zb219_0 hT i1 hp hw (fun _ hz => f hz) (fun _ _ hz => f hz) (fun q1 q2 => absurd ⟨by omega, by omega⟩ hr) (fun q1 q2 => absurd ⟨by omega, by omega⟩ hr) (fun q1 q2 => absurd ⟨by omega, by omega⟩ hr) (fun q1 q2 => absurd ⟨by omega, by omega⟩ hr) (fun q1 q2 => absurd ⟨by omega, by omega⟩ hr) (fun q1 q2 => absurd ⟨by omega, by omega⟩ hr) (fun q1 q2 => absurd ⟨by omega, by omega⟩ hr) (fun q1 q2 => absurd ⟨by omega, by omega⟩ hr) (fun q1 q2 => absurd ⟨by omega, by omega⟩ hr) (fun q1 q2 => absurd ⟨by omega, by omega⟩ hr) (fun q1 q2 => absurd ⟨by omega, by omega⟩ hr) (fun q1 q2 => absurd ⟨by omega, by omega⟩ hr))
    exact zb118_0 hT i1 hp hw (fun _ => fin) (fun _ _ => fin) (fun q1 q2 => absurd ⟨by omega, by omega⟩ hr) (fun q1 q2 => absurd ⟨by omega, by omega⟩ hr) (fun q1 q2 => absurd ⟨by omega, by omega⟩ hr) (fun q1 q2 => absurd ⟨by omega, by omega⟩ hr) (fun q1 q2 => absurd ⟨by omega, by omega⟩ hr) (fun q1 q2 => absurd ⟨by omega, by omega⟩ hr)
theorem w_piece (hT : zRules T) {p : Int} (hp : isI p) : WayX T 130 242 [(0, zr 1), (1, zi p)] [(0, zr 74), (1, zi p)] 2 2 B B True := by
  rintro D m sc ⟨n, k, hI⟩ κ hκ
  have hI0 := hI
  obtain ⟨i1, i2, i3, i4, i5, i6, i7, i8, i9, i10, i11⟩ := hI
  have hA12 : Agree coreK m (zu m 74 12 0) := .of (L := [(74, some 12)]) (zFr.refl.set rfl) rfl
  have hA121 : Agree coreK m (zu (zu m 74 12 0) 74 12 1) := .of (L := [(74, some 12)]) ((zFr.refl.set rfl).set rfl) rfl
  obtain ⟨⟨n1, n2⟩, ⟨k1, k2⟩, hh, hRel, hok⟩ := i4
  have b25 : 0 ≤ m 25 2 ∧ m 25 2 ≤ 20 := i1 25 2
  have e56 : m 25 2 = m 75 56 := hRel.2.2.1
  have nil : ¬ (0 ≤ p ∧ p < m 25 2) → κ none m := fun h => hκ _ _ (Or.inl rfl) (fun D2 κ2 h2 => by
    have f : zB (zu (zu m 74 12 0) 74 12 1) → κ2 (some (zi 0)) (zu (zu m 74 12 0) 74 12 1) := fun hz => h2 _ _ (fun _ => Or.inl ⟨rfl, by rw [zu_sm rfl]⟩) ⟨n, k, Inv_fr hA121 hz hI0⟩
    exact zb242_0 hT i1 hp (fun _ hz => f hz) (fun _ _ hz => f hz) (fun q1 q2 => absurd ⟨by omega, by omega⟩ h) (fun q1 q2 => absurd ⟨by omega, by omega⟩ h))
  refine zb130_0 hT i1 hp (fun q => nil (by omega)) (fun q1 q2 => nil (by omega)) (fun q1 q2 => ?_)
  obtain ⟨a, rfl⟩ : ∃ a : Nat, p = (a : Int) := ⟨p.toNat, by omega⟩
  rw [Int.toNat_natCast]
  refine hκ _ _ (Or.inr ⟨_, rfl⟩) (fun D2 κ2 h2 => ?_)
  refine zb242_0n hT i1 (by omega) (fun x => by omega) (fun _ hz => ?_)
  rw [← hRel.2.2.2.1 a (by omega)]
  exact h2 _ _ (fun _ => Or.inr ⟨(fun x => by cases x), rfl, by rw [zu_sm rfl]⟩) ⟨n, k, Inv_fr hA12 hz hI0⟩
theorem w_row (hT : zRules T) {p : Int} (hp : isI p) : WayX T 162 291 [(0, zr 1), (1, zi p)] [(0, zr 74), (1, zi p)] 2 2 B B False := by
  rintro D m sc ⟨n, k, hI⟩ κ hκ
  have hI0 := hI
  have i1 := hI.1
  have hA12 : Agree coreK m (zu m 74 12 0) := .of (L := [(74, some 12)]) (zFr.refl.set rfl) rfl
  have hA121 : Agree coreK m (zu (zu m 74 12 0) 74 12 1) := .of (L := [(74, some 12)]) ((zFr.refl.set rfl).set rfl) rfl
  have ref : ∀ r, (r = none ∨ ∃ v, r = some (zi v)) → κ r m := fun r hr => hκ _ _ hr (fun D2 κ2 h2 => by
    have f : zB (zu (zu m 74 12 0) 74 12 1) → κ2 (some (zi 0)) (zu (zu m 74 12 0) 74 12 1) := fun hz => h2 _ _ (fun x => x.elim) ⟨n, k, Inv_fr hA121 hz hI0⟩
    exact zb291_0 hT i1 hp (fun _ hz => f hz) (fun _ _ hz => f hz) (fun _ _ hz => h2 _ _ (fun x => x.elim) ⟨n, k, Inv_fr hA12 hz hI0⟩))
  exact zb162_0 hT i1 hp (fun _ => ref _ (Or.inl rfl)) (fun _ _ => ref _ (Or.inr ⟨_, rfl⟩)) (fun _ _ => ref _ (Or.inl rfl))
theorem w_count (hT : zRules T) {w : Int} (hw : isI w) : Way T 161 290 [(0, zr 1), (1, zi w)] [(0, zr 74), (1, zi w)] 2 2 B B (¬ w = 10) := by
  rintro D m sc ⟨n, k, hI⟩ κ hκ
  have hI0 := hI
  obtain ⟨i1, i2, i3, i4, i5, i6, i7, i8, i9, i10, i11⟩ := hI
  have hA12 : Agree coreK m (zu m 74 12 0) := .of (L := [(74, some 12)]) (zFr.refl.set rfl) rfl
  obtain ⟨⟨n1, n2⟩, ⟨k1, k2⟩, hh, hRel, hok⟩ := i4
  have b25 : 0 ≤ m 25 2 ∧ m 25 2 ≤ 20 := i1 25 2
  have e56 : m 25 2 = m 75 56 := hRel.2.2.1
  obtain ⟨c, hc⟩ : ∃ c : Nat, m 25 2 = (c : Int) := ⟨(m 25 2).toNat, by omega⟩
  have ebs : bsum (fun i => m 75 (i + 36)) 0 c = bsum (m 26) 0 c := bsum_congr c 0 (fun x _ hx => (hRel.2.2.2.1 x (by omega)).symm)
  have bbs := bsum_B (f := m 26) (fun x _ => i1 26 x) c 0 (by omega)
  -- the reference's answer
  have ref : ∀ v : Int, (¬ w = 10 → v = (if w = 0 then m 74 1 else if w = 1 then m 74 4 else if w = 2 then m 74 6 else if w = 3 then m 75 57 else if w = 4 then m 75 56 else if w = 5 then bsum (m 26) 0 c else if w = 6 then wr (m 75 58) else if w = 7 then m 74 52 else if w = 8 then m 74 54 else if w = 9 then m 74 35 else if w = 11 then m 74 9 else -100000)) → κ (some (zi v)) m := by
    intro v hv
    refine hκ _ _ (fun D2 κ2 h2 => ?_)
    have f : ∀ x, (¬ w = 10 → v = x) → zB (zu m 74 12 0) → κ2 (some (zi x)) (zu m 74 12 0) := fun x hx hz => h2 _ _ (fun q => by rw [hx q]) ⟨n, k, Inv_fr hA12 hz hI0⟩
    refine zb290_0 hT i1 hw (fun a hz => f _ (fun q => ?_) hz) (fun a1 a hz => f _ (fun q => ?_) hz) (fun a1 a2 a hz => f _ (fun q => ?_) hz) (fun a1 a2 a3 a hz => f _ (fun q => ?_) hz) (fun a1 a2 a3 a4 a hz => f _ (fun q => ?_) hz) (fun a1 a2 a3 a4 a5 a hz => ?_) (fun a1 a2 a3 a4 a5 a6 a hz => f _ (fun q => ?_) hz) (fun a1 a2 a3 a4 a5 a6 a7 a hz => f _ (fun q => ?_) hz) (fun a1 a2 a3 a4 a5 a6 a7 a8 a hz => f _ (fun q => ?_) hz) (fun a1 a2 a3 a4 a5 a6 a7 a8 a9 a hz => f _ (fun q => ?_) hz) (fun a1 a2 a3 a4 a5 a6 a7 a8 a9 a10 a hz => f _ (fun q => absurd a q) hz) (fun a1 a2 a3 a4 a5 a6 a7 a8 a9 a10 a11 a hz => f _ (fun q => ?_) hz) (fun a1 a2 a3 a4 a5 a6 a7 a8 a9 a10 a11 a12 hz => f _ (fun q => ?_) hz)
    · rw [hv q, if_pos a]
    · rw [hv q, if_neg a1, if_pos a]
    · rw [hv q, if_neg a1, if_neg a2, if_pos a]
    · rw [hv q, if_neg a1, if_neg a2, if_neg a3, if_pos a]
    · rw [hv q, if_neg a1, if_neg a2, if_neg a3, if_neg a4, if_pos a]
    · refine z_sumR (c := c) hT hz (by rw [zu_dn (by omega), ← e56, hc]) ?_
      refine zb290_103 hT rfl ?_ (f _ (fun q => ?_) hz)
      · rw [show (fun i => (zu m 74 12 0) 75 (i + 36)) = fun i => m 75 (i + 36) from rfl, ebs]
        omega
      · rw [show (fun i => (zu m 74 12 0) 75 (i + 36)) = fun i => m 75 (i + 36) from rfl, ebs, hv q, if_neg a1, if_neg a2, if_neg a3, if_neg a4, if_neg a5, if_pos a]
    · rw [hv q, if_neg a1, if_neg a2, if_neg a3, if_neg a4, if_neg a5, if_neg a6, if_pos a]
    · rw [hv q, if_neg a1, if_neg a2, if_neg a3, if_neg a4, if_neg a5, if_neg a6, if_neg a7, if_pos a]
    · rw [hv q, if_neg a1, if_neg a2, if_neg a3, if_neg a4, if_neg a5, if_neg a6, if_neg a7, if_neg a8, if_pos a]
    · rw [hv q, if_neg a1, if_neg a2, if_neg a3, if_neg a4, if_neg a5, if_neg a6, if_neg a7, if_neg a8, if_neg a9, if_pos a]
    · rw [hv q, if_neg a1, if_neg a2, if_neg a3, if_neg a4, if_neg a5, if_neg a6, if_neg a7, if_neg a8, if_neg a9, if_neg a10, if_pos a]
    · rw [hv q, if_neg a1, if_neg a2, if_neg a3, if_neg a4, if_neg a5, if_neg a6, if_neg a7, if_neg a8, if_neg a9, if_neg a10, if_neg a12]
  refine zb161_0 hT i1 hw (fun a => ref _ (fun q => ?_)) (fun a1 a => ref _ (fun q => ?_)) (fun a1 a2 a => ref _ (fun q => ?_)) (fun a1 a2 a3 a => ref _ (fun q => ?_)) (fun a1 a2 a3 a4 a => ref _ (fun q => ?_)) (fun a1 a2 a3 a4 a5 a => ?_) (fun a1 a2 a3 a4 a5 a6 a => ref _ (fun q => ?_)) (fun a1 a2 a3 a4 a5 a6 a7 a => ref _ (fun q => ?_)) (fun a1 a2 a3 a4 a5 a6 a7 a8 a => ref _ (fun q => ?_)) (fun a1 a2 a3 a4 a5 a6 a7 a8 a9 a => ref _ (fun q => ?_)) (fun a1 a2 a3 a4 a5 a6 a7 a8 a9 a10 a => ref _ (fun q => absurd a q)) (fun a1 a2 a3 a4 a5 a6 a7 a8 a9 a10 a11 a => ref _ (fun q => ?_)) (fun a1 a2 a3 a4 a5 a6 a7 a8 a9 a10 a11 a12 => ref _ (fun q => ?_))
  · rw [if_pos a]
    exact i3.2.1.1.symm
  · rw [if_neg a1, if_pos a, n1, n2]
  · rw [if_neg a1, if_neg a2, if_pos a, k1, k2]
  · rw [if_neg a1, if_neg a2, if_neg a3, if_pos a]
    exact hRel.2.2.2.2.1
  · rw [if_neg a1, if_neg a2, if_neg a3, if_neg a4, if_pos a]
    exact e56
  · refine z_sumC (c := c) hT i1 hc ?_
    refine zb161_111 hT rfl (by omega) (ref _ (fun q => ?_))
    rw [if_neg a1, if_neg a2, if_neg a3, if_neg a4, if_neg a5, if_pos a]
  · rw [if_neg a1, if_neg a2, if_neg a3, if_neg a4, if_neg a5, if_neg a6, if_pos a, hRel.2.2.2.2.2]
  · rw [if_neg a1, if_neg a2, if_neg a3, if_neg a4, if_neg a5, if_neg a6, if_neg a7, if_pos a]
    exact i8.1.symm
  · rw [if_neg a1, if_neg a2, if_neg a3, if_neg a4, if_neg a5, if_neg a6, if_neg a7, if_neg a8, if_pos a]
    exact i9.1.symm
  · rw [if_neg a1, if_neg a2, if_neg a3, if_neg a4, if_neg a5, if_neg a6, if_neg a7, if_neg a8, if_neg a9, if_pos a]
    exact i6.1.symm
  · rw [if_neg a1, if_neg a2, if_neg a3, if_neg a4, if_neg a5, if_neg a6, if_neg a7, if_neg a8, if_neg a9, if_neg a10, if_pos a]
    exact i2.1.symm
  · rw [if_neg a1, if_neg a2, if_neg a3, if_neg a4, if_neg a5, if_neg a6, if_neg a7, if_neg a8, if_neg a9, if_neg a10, if_neg a12]
theorem w_count2 (hT : zRules T) {w : Int} (hw : isI w) : Way T 161 290 [(0, zr 1), (1, zi w)] [(0, zr 74), (1, zi w)] 2 2 B B True := by
  intro D m sc hIn κ hκ
  by_cases h10 : w = 10
  · obtain ⟨n, k, hI⟩ := hIn
    have hI0 := hI
    obtain ⟨i1, i2, i3, i4, i5, i6, i7, i8, i9, i10, i11⟩ := hI
    refine zb161_0 hT i1 hw (fun q => by omega) (fun _ q => by omega) (fun _ _ q => by omega) (fun _ _ _ q => by omega) (fun _ _ _ _ q => by omega) (fun _ _ _ _ _ q => by omega) (fun _ _ _ _ _ _ q => by omega) (fun _ _ _ _ _ _ _ q => by omega) (fun _ _ _ _ _ _ _ _ q => by omega) (fun _ _ _ _ _ _ _ _ _ q => by omega) (fun _ _ _ _ _ _ _ _ _ _ _ => ?_) (fun _ _ _ _ _ _ _ _ _ _ q _ => by omega) (fun _ _ _ _ _ _ _ _ _ _ q _ => by omega)
    refine hκ _ _ (fun D2 κ2 h2 => ?_)
    refine zb290_0 hT i1 hw (fun q _ => by omega) (fun _ q _ => by omega) (fun _ _ q _ => by omega) (fun _ _ _ q _ => by omega) (fun _ _ _ _ q _ => by omega) (fun _ _ _ _ _ q _ => by omega) (fun _ _ _ _ _ _ q _ => by omega) (fun _ _ _ _ _ _ _ q _ => by omega) (fun _ _ _ _ _ _ _ _ q _ => by omega) (fun _ _ _ _ _ _ _ _ _ q _ => by omega) (fun _ _ _ _ _ _ _ _ _ _ _ hz => ?_) (fun _ _ _ _ _ _ _ _ _ _ q _ _ => by omega) (fun _ _ _ _ _ _ _ _ _ _ q _ _ => by omega)
    rw [← i11.2.2.2.1]
    exact h2 _ _ (fun _ => rfl) ⟨n, k, Inv_fr (.of (L := [(74, some 12)]) (zFr.refl.set rfl) rfl) hz hI0⟩
  · exact w_count hT hw D m sc hIn κ (fun r m1 h => hκ r m1 (fun D2 κ2 h2 => h D2 κ2 (fun r2 m2 hs hI2 => h2 r2 m2 (fun _ => hs h10) hI2)))
end ZReadW
