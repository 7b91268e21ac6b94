/-! person(), cloth(), piece(), compared: what each answers, of each side for itself (the law writes its row of one long between the two calls). -/
noncomputable def pvP (m : zM) (n : Nat) (p w : Int) : Option Int := if 0 ≤ p ∧ p < (n : Int) then (if w = 0 then some (m 18 p.toNat) else if w = 1 then some (m 19 p.toNat) else if w = 2 then some (m 20 p.toNat) else if w = 3 then some (LW m (m 18 p.toNat) p (m 19 p.toNat).toNat (m 17 11)) else if w = 4 then some (if m 20 p.toNat < 0 then 0 else if m 21 (m 20 p.toNat).toNat = LW m (m 18 p.toNat) p (m 19 p.toNat).toNat (m 17 11) then 1 else 0) else none) else none
noncomputable def pvC (m : zM) (n k : Nat) (c w : Int) : Option Int := if 0 ≤ c ∧ c < (k : Int) then (if w = 0 then some (m 21 c.toNat) else if w = 1 then some (m 22 c.toNat) else if w = 2 then some (m 21 c.toNat + m 22 c.toNat) else if w = 3 then some (wr (m 23 c.toNat)) else if w = 4 then some (wIx (m 20) c 0 n) else none) else none
noncomputable def pvI (m : zM) (i : Int) : Option Int := if 0 ≤ i ∧ i < m 25 2 then some (m 26 i.toNat) else none
/-- the class's side -/
noncomputable def XC (T : Nat → Nat → zG → (Option zA → zM → Prop) → Prop) (kC dC : Nat) (aC : zL) (m : zM) (pv : Option Int) : Prop := ∀ (D : Nat) (κ : Option zA → zM → Prop), (∀ m1, zB m1 → zFr (rowW 13) m m1 → κ (pv.map (fun v => .inl v)) m1) → T (D + dC) kC (0, aC, [], m) κ
/-- the reference's side -/
noncomputable def XR (T : Nat → Nat → zG → (Option zA → zM → Prop) → Prop) (B : Int) (sc : zSc) (kR dR : Nat) (aR : zL) (m : zM) (pv : Option Int) : Prop := ∀ (D : Nat) (κ : Option zA → zM → Prop), (∀ r m1, ((pv = none ∧ m1 74 12 = 1) ∨ ∃ v, pv = some v ∧ r = some (zi v) ∧ m1 74 12 = 0) → m1 109 0 = m 109 0 → (∃ n k, Inv B sc n k m1) → κ r m1) → T (D + dR) kR (0, aR, [], m) κ
section ZXRead
variable {T : Nat → Nat → zG → (Option zA → zM → Prop) → Prop} {B : Int}
set_option maxHeartbeats 4000000 in
theorem xc_person (hT : zRules T) {sc : zSc} {n k : Nat} {m : zM} {p w : Int} (hp : isI p) (hw : isI w) (hI : Inv B sc n k m) : XC T 117 6 [(0, zr 1), (1, zi p), (2, zi w)] m (pvP m n p w) := by
  intro D κ hκ
  obtain ⟨i1, i2, i3, i4, i5, i6, i7, i8, i9, i10, i11⟩ := hI
  obtain ⟨⟨n1, n2⟩, ⟨k1, k2⟩, hh, hRel, hok⟩ := i4
  have b17 : 0 ≤ m 17 0 ∧ m 17 0 ≤ 6 := i1 17 0
  have b171 : 0 ≤ m 17 1 ∧ m 17 1 ≤ 8 := i1 17 1
  have yes : ∀ v : Int, pvP m n p w = some v → κ (some (zi v)) m := fun v e => by
    have := hκ m i1 zFr.refl
    rw [e] at this
    exact this
  have yes1 : ∀ v : Int, pvP m n p w = some v → ∀ m1, zB m1 → zFr (rowW 13) m m1 → κ (some (zi v)) m1 := fun v e m1 h1 h2 => by
    have := hκ m1 h1 h2
    rw [e] at this
    exact this
  have nil : pvP m n p w = none → κ none m := fun e => by
    have := hκ m i1 zFr.refl
    rw [e] at this
    exact this
  by_cases hr : 0 ≤ p ∧ p < n
  · obtain ⟨a, rfl⟩ : ∃ a : Nat, p = (a : Int) := ⟨p.toNat, by omega⟩
    have han : a < n := by omega
    obtain ⟨ok1, ok2⟩ := hok.1 a han
    obtain ⟨r1, r2⟩ := hRel.1 a han
    obtain ⟨h78, h18⟩ := hh a han
    obtain ⟨pl, hpl⟩ : ∃ pl : Nat, m 19 a = (pl : Int) := ⟨(m 19 a).toNat, by omega⟩
    have hpl3 : pl ≤ 3 := by omega
    have epl : (m 19 a).toNat = pl := by omega
    unfold pvP at yes yes1 nil
    rw [if_pos hr, Int.toNat_natCast, epl] at yes yes1 nil
    refine zb117_0n hT i1 (by omega) hw (fun x => by omega) (fun _ w0 => yes _ (by rw [if_pos w0])) (fun _ w0 w1 => yes _ (by rw [if_neg w0, if_pos w1])) (fun _ w0 w1 w2 => yes _ (by rw [if_neg w0, if_neg w1, if_pos w2])) (fun _ w0 w1 w2 w3 => ?_) (fun _ w0 w1 w2 w3 w4 => ?_) (fun _ w0 w1 w2 w3 w4 => nil (by rw [if_neg w0, if_neg w1, if_neg w2, if_neg w3, if_neg w4]))
    · refine z_lawNow hT i1 (by omega) (by omega) hpl hpl3 i3.1 (fun m1 hB1 hF1 => ?_)
      exact zb117_91 hT rfl LWB (yes1 _ (by rw [if_neg w0, if_neg w1, if_neg w2, if_pos w3]) m1 hB1 hF1)
    · rw [if_neg w0, if_neg w1, if_neg w2, if_neg w3, if_pos w4] at yes yes1
      refine zb172_0 hT i1 (by omega) (fun x => ?_) (fun x y => ?_) (fun x y => ?_)
      · exact zb117_97 hT rfl (by omega) (fun _ => yes 0 (by rw [if_pos x])) (fun x => absurd rfl x)
      · exact zb117_97 hT rfl (by omega) (fun _ => by omega) (fun x => absurd rfl x)
      · have hc1 : 0 ≤ m 75 (a + 6) ∧ m 75 (a + 6) < k := by omega
        obtain ⟨c, hc⟩ : ∃ c : Nat, m 75 (a + 6) = (c : Int) := ⟨(m 75 (a + 6)).toNat, by omega⟩
        have b21 : -1 ≤ m 21 c ∧ m 21 c ≤ 99 := i1 21 c
        rw [if_neg x, r2, hc, Int.toNat_natCast] at yes1
        rw [r2, hc, Int.toNat_natCast]
        refine z_lawNow hT i1 (by omega) (by omega) hpl hpl3 i3.1 (fun m1 hB1 hF1 => ?_)
        have lv := LWB (m := m) (h := m 18 a) (i := (a : Int)) (p := pl) (w := m 17 11)
        refine zb172_35 hT rfl b21 lv (fun x => ?_) (fun x => ?_)
        · exact zb117_97 hT rfl (by omega) (fun _ => yes1 0 (by rw [if_neg x]) m1 hB1 hF1) (fun x => absurd rfl x)
        · exact zb117_97 hT rfl (by omega) (fun x => by omega) (fun _ => yes1 1 (by rw [if_pos x]) m1 hB1 hF1)
  · unfold pvP at nil
    rw [if_neg hr] at nil
    have nil := nil rfl
    exact zb117_0 hT i1 hp hw (fun _ => nil) (fun _ _ => nil) (fun q1 q2 => absurd ⟨by omega, by omega⟩ hr) (fun q1 q2 => absurd ⟨by omega, by omega⟩ hr) (fun q1 q2 => absurd ⟨by omega, by omega⟩ hr) (fun q1 q2 => absurd ⟨by omega, by omega⟩ hr) (fun q1 q2 => absurd ⟨by omega, by omega⟩ hr) (fun q1 q2 => absurd ⟨by omega, by omega⟩ hr)
set_option maxHeartbeats 4000000 in
theorem xr_person (hT : zRules T) {sc : zSc} {n k : Nat} {m : zM} {p w : Int} (hp : isI p) (hw : isI w) (hI : Inv B sc n k m) : XR T B sc 218 172 [(0, zr 74), (1, zi p), (2, zi w)] m (pvP m n p w) := by
  intro D2 κ2 h2
  have hI0 := hI
  obtain ⟨i1, i2, i3, i4, i5, i6, i7, i8, i9, i10, i11⟩ := hI
  have hA12 : Agree coreK m (zu m 74 12 0) := .of (L := [(74, some 12)]) (zFr.refl.set rfl) rfl
  have hA121 : Agree coreK m (zu (zu m 74 12 0) 74 12 1) := .of (L := [(74, some 12)]) ((zFr.refl.set rfl).set rfl) rfl
  obtain ⟨⟨n1, n2⟩, ⟨k1, k2⟩, hh, hRel, hok⟩ := i4
  have b17 : 0 ≤ m 17 0 ∧ m 17 0 ≤ 6 := i1 17 0
  have b171 : 0 ≤ m 17 1 ∧ m 17 1 ≤ 8 := i1 17 1
  have f : ∀ v : Int, pvP m n p w = some v → zB (zu m 74 12 0) → κ2 (some (zi v)) (zu m 74 12 0) := fun v e hz => h2 _ _ (Or.inr ⟨v, e, rfl, by rw [zu_sm rfl]⟩) rfl ⟨n, k, Inv_fr hA12 hz hI0⟩
  have g : pvP m n p w = none → ∀ v : Option zA, zB (zu (zu m 74 12 0) 74 12 1) → κ2 v (zu (zu m 74 12 0) 74 12 1) := fun e v hz => h2 _ _ (Or.inl ⟨e, by rw [zu_sm rfl]⟩) rfl ⟨n, k, Inv_fr hA121 hz hI0⟩
  by_cases hr : 0 ≤ p ∧ p < n
  · obtain ⟨a, rfl⟩ : ∃ a : Nat, p = (a : Int) := ⟨p.toNat, by omega⟩
    have han : a < n := by omega
    obtain ⟨ok1, ok2⟩ := hok.1 a han
    obtain ⟨r1, r2⟩ := hRel.1 a han
    obtain ⟨h78, h18⟩ := hh a han
    obtain ⟨pl, hpl⟩ : ∃ pl : Nat, m 75 a = (pl : Int) := ⟨(m 75 a).toNat, by omega⟩
    have hpl3 : pl ≤ 3 := by omega
    have epl : (m 19 a).toNat = pl := by omega
    have e1711 : m 17 11 = m 75 57 := hRel.2.2.2.2.1
    unfold pvP at h2 f g
    rw [if_pos hr, Int.toNat_natCast, epl] at h2 f g
    have law : zB (zu m 74 12 0) → ∀ κ3 : Option zA → zM → Prop, (∀ M2, zB M2 → Agree coreK m M2 → M2 74 12 = 0 → M2 109 0 = m 109 0 → κ3 (some (zi (LW m (m 18 a) (a : Int) pl (m 17 11)))) M2) → T (D2 + 171) 216 (0, [(0, zr 74), (1, zi (a : Int)), (2, zi 0)], [], zu m 74 12 0) κ3 := by
      intro hz κ3 hk
      have hI2 := Inv_fr hA12 hz hI0
      have eL : LW (zu m 74 12 0) = LW m := (Agree.of (L := [(74, some 12)]) (zFr.refl.set rfl) rfl : Agree KL m (zu m 74 12 0)).law.2
      refine z_lawIn (pl := pl) hT hz (by omega) (by rw [zu_dn (by omega)]; exact hpl) (by omega) hI2.2.2.1 (fun m2 hB2 hF2 => ?_)
      rw [eL, show (zu m 74 12 0) 78 a = m 78 a from rfl, show (zu m 74 12 0) 75 57 = m 75 57 from rfl, h78, Int.add_zero, ← e1711]
      refine hk m2 hB2 (hA12.trans (.of (hF2.sub lbWL) rfl)) ?_ ?_
      · rw [(hF2.sub lbWL) 74 12 rfl, zu_sm rfl]
      · rw [(hF2.sub lbWL) 109 0 rfl]
        rfl
    refine zb218_0n (D := D2 + 167) hT i1 (by omega) hw (fun x => by omega) (fun _ x hz => g (by rw [if_neg (by omega), if_neg (by omega), if_neg (by omega), if_neg (by omega), if_neg (by omega)]) _ hz) (fun _ _ x hz => g (by rw [if_neg (by omega), if_neg (by omega), if_neg (by omega), if_neg (by omega), if_neg (by omega)]) _ hz) (fun _ _ _ w0 hz => f _ (by rw [if_pos w0, h78]) hz) (fun _ _ _ w0 w1 hz => f _ (by rw [if_neg w0, if_pos w1, r1]) hz) (fun _ _ _ w0 w1 w2 hz => f _ (by rw [if_neg w0, if_neg w1, if_pos w2, r2]) hz) (fun _ _ _ w0 w1 w2 w3 hz => ?_) (fun _ _ _ w0 w1 w2 w3 x hz => f _ (by rw [if_neg w0, if_neg w1, if_neg w2, if_neg w3, if_pos (by omega), if_pos (by omega)]) hz) (fun _ _ _ w0 w1 w2 w3 x hz => ?_)
    · refine law hz _ (fun M2 g1 g2 g3 g4 => ?_)
      exact zb218_90 (D := D2 + 167) hT rfl LWB (h2 _ _ (Or.inr ⟨_, by rw [if_neg w0, if_neg w1, if_neg w2, if_pos w3], rfl, g3⟩) g4 ⟨n, k, Inv_fr g2 g1 hI0⟩)
    · refine law hz _ (fun M2 g1 g2 g3 g4 => ?_)
      have b21 : ∀ c : Nat, c < 8 → -1 ≤ m 75 (12 + c) ∧ m 75 (12 + c) ≤ 99 := fun c hc => zSg i1 75 12 20 (-1) 99 rfl _ (by omega) (by omega)
      obtain ⟨c, hc⟩ : ∃ c : Nat, m 75 (a + 6) = (c : Int) := ⟨(m 75 (a + 6)).toNat, by omega⟩
      have e21 : m 21 c = m 75 (c + 12) := (hRel.2.1 c (by omega)).1
      rw [if_neg w0, if_neg w1, if_neg w2, if_neg w3, if_pos (by omega), if_neg (by omega), r2, hc, Int.toNat_natCast, e21, Nat.add_comm c 12] at h2
      rw [hc, show (12 + (c : Int)).toNat = 12 + c by omega]
      exact zb218_111 (D := D2 + 167) hT rfl (b21 c (by omega)) LWB (fun x => h2 _ _ (Or.inr ⟨0, by rw [if_neg x], rfl, g3⟩) g4 ⟨n, k, Inv_fr g2 g1 hI0⟩) (fun x => h2 _ _ (Or.inr ⟨1, by rw [if_pos x], rfl, g3⟩) g4 ⟨n, k, Inv_fr g2 g1 hI0⟩)
  · unfold pvP at g
    rw [if_neg hr] at g
    have g := g rfl
    exact zb218_0 (D := D2 + 167) hT i1 hp hw (fun _ hz => g _ hz) (fun _ _ hz => g _ hz) (fun q1 q2 => absurd ⟨by omega, by omega⟩ hr) (fun q1 q2 => absurd ⟨by omega, by omega⟩ hr) (fun q1 q2 => absurd ⟨by omega, by omega⟩ hr) (fun q1 q2 => absurd ⟨by omega, by omega⟩ hr) (fun q1 q2 => absurd ⟨by omega, by omega⟩ hr) (fun q1 q2 => absurd ⟨by omega, by omega⟩ hr) (fun q1 q2 => absurd ⟨by omega, by omega⟩ hr) (fun q1 q2 => absurd ⟨by omega, by omega⟩ hr) (fun q1 q2 => absurd ⟨by omega, by omega⟩ hr) (fun q1 q2 => absurd ⟨by omega, by omega⟩ hr)
set_option maxHeartbeats 4000000 in
theorem xc_cloth (hT : zRules T) {sc : zSc} {n k : Nat} {m : zM} {p w : Int} (hp : isI p) (hw : isI w) (hI : Inv B sc n k m) : XC T 118 3 [(0, zr 1), (1, zi p), (2, zi w)] m (pvC m n k p w) := by
  intro D κ hκ
  obtain ⟨i1, i2, i3, i4, i5, i6, i7, i8, i9, i10, i11⟩ := hI
  obtain ⟨⟨n1, n2⟩, ⟨k1, k2⟩, hh, hRel, hok⟩ := i4
  have b17 : 0 ≤ m 17 0 ∧ m 17 0 ≤ 6 := i1 17 0
  have b171 : 0 ≤ m 17 1 ∧ m 17 1 ≤ 8 := i1 17 1
  have yes : ∀ v : Int, pvC m n k p w = some v → κ (some (zi v)) m := fun v e => by
    have := hκ m i1 zFr.refl
    rw [e] at this
    exact this
  have nil : pvC m n k p w = none → κ none m := fun e => by
    have := hκ m i1 zFr.refl
    rw [e] at this
    exact this
  by_cases hr : 0 ≤ p ∧ p < k
  · obtain ⟨c, rfl⟩ : ∃ a : Nat, p = (a : Int) := ⟨p.toNat, by omega⟩
    unfold pvC at yes nil
    rw [if_pos hr, Int.toNat_natCast] at yes nil
    refine zb118_0n hT i1 (by omega) hw (fun x => by omega) (fun _ w0 => yes _ (by rw [if_pos w0])) (fun _ w0 w1 => yes _ (by rw [if_neg w0, if_pos w1])) (fun _ w0 w1 w2 => yes _ (by rw [if_neg w0, if_neg w1, if_pos w2])) (fun _ w0 w1 w2 w3 => yes _ (by rw [if_neg w0, if_neg w1, if_neg w2, if_pos w3])) (fun _ w0 w1 w2 w3 w4 => ?_) (fun _ w0 w1 w2 w3 w4 => nil (by rw [if_neg w0, if_neg w1, if_neg w2, if_neg w3, if_neg w4]))
    have hw1 := wIx_b (f := m 20) (c := (c : Int)) n 0
    refine z_wearerOf (n := n) hT i1 (by omega) n1 ?_
    exact zb118_103 hT rfl (by omega) (yes _ (by rw [if_neg w0, if_neg w1, if_neg w2, if_neg w3, if_pos w4]))
  · unfold pvC at nil
    rw [if_neg hr] at nil
    have nil := nil rfl
    exact zb118_0 hT i1 hp hw (fun _ => nil) (fun _ _ => nil) (fun q1 q2 => absurd ⟨by omega, by omega⟩ hr) (fun q1 q2 => absurd ⟨by omega, by omega⟩ hr) (fun q1 q2 => absurd ⟨by omega, by omega⟩ hr) (fun q1 q2 => absurd ⟨by omega, by omega⟩ hr) (fun q1 q2 => absurd ⟨by omega, by omega⟩ hr) (fun q1 q2 => absurd ⟨by omega, by omega⟩ hr)
set_option maxHeartbeats 4000000 in
theorem xr_cloth (hT : zRules T) {sc : zSc} {n k : Nat} {m : zM} {p w : Int} (hp : isI p) (hw : isI w) (hI : Inv B sc n k m) : XR T B sc 219 3 [(0, zr 74), (1, zi p), (2, zi w)] m (pvC m n k p w) := by
  intro D2 κ2 h2
  have hI0 := hI
  obtain ⟨i1, i2, i3, i4, i5, i6, i7, i8, i9, i10, i11⟩ := hI
  have hA12 : Agree coreK m (zu m 74 12 0) := .of (L := [(74, some 12)]) (zFr.refl.set rfl) rfl
  have hA121 : Agree coreK m (zu (zu m 74 12 0) 74 12 1) := .of (L := [(74, some 12)]) ((zFr.refl.set rfl).set rfl) rfl
  obtain ⟨⟨n1, n2⟩, ⟨k1, k2⟩, hh, hRel, hok⟩ := i4
  have b17 : 0 ≤ m 17 0 ∧ m 17 0 ≤ 6 := i1 17 0
  have b171 : 0 ≤ m 17 1 ∧ m 17 1 ≤ 8 := i1 17 1
  have f : ∀ v : Int, pvC m n k p w = some v → zB (zu m 74 12 0) → κ2 (some (zi v)) (zu m 74 12 0) := fun v e hz => h2 _ _ (Or.inr ⟨v, e, rfl, by rw [zu_sm rfl]⟩) rfl ⟨n, k, Inv_fr hA12 hz hI0⟩
  have g : pvC m n k p w = none → ∀ v : Option zA, zB (zu (zu m 74 12 0) 74 12 1) → κ2 v (zu (zu m 74 12 0) 74 12 1) := fun e v hz => h2 _ _ (Or.inl ⟨e, by rw [zu_sm rfl]⟩) rfl ⟨n, k, Inv_fr hA121 hz hI0⟩
  by_cases hr : 0 ≤ p ∧ p < k
  · obtain ⟨c, rfl⟩ : ∃ a : Nat, p = (a : Int) := ⟨p.toNat, by omega⟩
    obtain ⟨r1, r2, r3⟩ := hRel.2.1 c (by omega)
    unfold pvC at f g
    rw [if_pos hr, Int.toNat_natCast] at f g
    refine zb219_0n hT i1 (by omega) hw (fun x => by omega) (fun _ x hz => g (by rw [if_neg (by omega), if_neg (by omega), if_neg (by omega), if_neg (by omega), if_neg (by omega)]) _ hz) (fun _ _ x hz => g (by rw [if_neg (by omega), if_neg (by omega), if_neg (by omega), if_neg (by omega), if_neg (by omega)]) _ hz) (fun _ _ _ w0 hz => f _ (by rw [if_pos w0, r1]) hz) (fun _ _ _ w0 w1 hz => f _ (by rw [if_neg w0, if_pos w1, r2]) hz) (fun _ _ _ w0 w1 w2 hz => f _ (by rw [if_neg w0, if_neg w1, if_pos w2, r1, r2]) hz) (fun _ _ _ w0 w1 w2 w3 hz => f _ (by rw [if_neg w0, if_neg w1, if_neg w2, if_pos w3, r3]) hz) (fun _ _ _ w0 w1 w2 w3 hz => ?_)
    have hw1 := wIx_b (f := m 20) (c := (c : Int)) n 0
    have ew : wIx (m 20) (c : Int) 0 n = wIx (fun p => m 75 (p + 6)) (c : Int) 0 n := wIx_congr n 0 (fun i _ hi => (hRel.1 i (by omega)).2)
    refine z_wearer (n := n) hT hz (by omega) n2 ?_
    rw [show (fun p => (zu m 74 12 0) 75 (p + 6)) = fun p => m 75 (p + 6) from rfl, ← ew]
    exact zb219_119 hT rfl (by omega) (f _ (by rw [if_neg w0, if_neg w1, if_neg w2, if_neg w3, if_pos (by omega)]) hz)
  · unfold pvC at g
    rw [if_neg hr] at g
    have g := g rfl
    exact zb219_0 hT i1 hp hw (fun _ hz => g _ hz) (fun _ _ hz => g _ hz) (fun q1 q2 => absurd ⟨by omega, by omega⟩ hr) (fun q1 q2 => absurd ⟨by omega, by omega⟩ hr) (fun q1 q2 => absurd ⟨by omega, by omega⟩ hr) (fun q1 q2 => absurd ⟨by omega, by omega⟩ hr) (fun q1 q2 => absurd ⟨by omega, by omega⟩ hr) (fun q1 q2 => absurd ⟨by omega, by omega⟩ hr) (fun q1 q2 => absurd ⟨by omega, by omega⟩ hr) (fun q1 q2 => absurd ⟨by omega, by omega⟩ hr) (fun q1 q2 => absurd ⟨by omega, by omega⟩ hr) (fun q1 q2 => absurd ⟨by omega, by omega⟩ hr) (fun q1 q2 => absurd ⟨by omega, by omega⟩ hr) (fun q1 q2 => absurd ⟨by omega, by omega⟩ hr)
theorem xc_piece (hT : zRules T) {sc : zSc} {n k : Nat} {m : zM} {p : Int} (hp : isI p) (hI : Inv B sc n k m) : XC T 130 2 [(0, zr 1), (1, zi p)] m (pvI m p) := by
  intro D κ hκ
  have i1 := hI.1
  have h0 := hκ m i1 zFr.refl
  unfold pvI at h0
  refine zb130_0 hT i1 hp (fun q => ?_) (fun q1 q2 => ?_) (fun q1 q2 => ?_)
  · rw [if_neg (by omega)] at h0
    exact h0
  · rw [if_neg (by omega)] at h0
    exact h0
  · rw [if_pos (by omega)] at h0
    exact h0
theorem xr_piece (hT : zRules T) {sc : zSc} {n k : Nat} {m : zM} {p : Int} (hp : isI p) (hI : Inv B sc n k m) : XR T B sc 242 2 [(0, zr 74), (1, zi p)] m (pvI m p) := by
  intro D2 κ2 h2
  have hI0 := hI
  obtain ⟨i1, i2, i3, i4, i5, i6, i7, i8, i9, i10, i11⟩ := hI
  have hA12 : Agree coreK m (zu m 74 12 0) := .of (L := [(74, some 12)]) (zFr.refl.set rfl) rfl
  have hA121 : Agree coreK m (zu (zu m 74 12 0) 74 12 1) := .of (L := [(74, some 12)]) ((zFr.refl.set rfl).set rfl) rfl
  obtain ⟨⟨n1, n2⟩, ⟨k1, k2⟩, hh, hRel, hok⟩ := i4
  have b25 : 0 ≤ m 25 2 ∧ m 25 2 ≤ 20 := i1 25 2
  have e56 : m 25 2 = m 75 56 := hRel.2.2.1
  have g : pvI m p = none → ∀ v : Option zA, zB (zu (zu m 74 12 0) 74 12 1) → κ2 v (zu (zu m 74 12 0) 74 12 1) := fun e v hz => h2 _ _ (Or.inl ⟨e, by rw [zu_sm rfl]⟩) rfl ⟨n, k, Inv_fr hA121 hz hI0⟩
  by_cases hr : 0 ≤ p ∧ p < m 25 2
  · obtain ⟨a, rfl⟩ : ∃ a : Nat, p = (a : Int) := ⟨p.toNat, by omega⟩
    refine zb242_0n hT i1 (by omega) (fun x => by omega) (fun _ hz => ?_)
    rw [← hRel.2.2.2.1 a (by omega)]
    exact h2 _ _ (Or.inr ⟨_, by unfold pvI; rw [if_pos hr, Int.toNat_natCast], rfl, by rw [zu_sm rfl]⟩) rfl ⟨n, k, Inv_fr hA12 hz hI0⟩
  · have g := g (by unfold pvI; rw [if_neg hr])
    exact zb242_0 hT i1 hp (fun _ hz => g _ hz) (fun _ _ hz => g _ hz) (fun q1 q2 => absurd ⟨by omega, by omega⟩ hr) (fun q1 q2 => absurd ⟨by omega, by omega⟩ hr)
/-- the answers behind the law's write, and behind the class's own call -/
theorem pvP_fr {m N : zM} {n : Nat} {p w : Int} (hF : zFr (inL [(13, none), (109, none)]) m N) : pvP N n p w = pvP m n p w := by
  have eL : LW N = LW m := (Agree.of hF rfl : Agree KL m N).law.2
  unfold pvP
  rw [eL, hF 17 11 rfl, hF 18 p.toNat rfl, hF 19 p.toNat rfl, hF 20 p.toNat rfl, hF 21 _ rfl]
theorem pvC_fr {m N : zM} {n k : Nat} {p w : Int} (hF : zFr (inL [(13, none), (109, none)]) m N) : pvC N n k p w = pvC m n k p w := by
  have e20 : N 20 = m 20 := funext (fun j => hF 20 j rfl)
  unfold pvC
  rw [e20, hF 21 p.toNat rfl, hF 22 p.toNat rfl, hF 23 p.toNat rfl]
theorem pvI_fr {m N : zM} {p : Int} (hF : zFr (inL [(13, none), (109, none)]) m N) : pvI N p = pvI m p := by
  unfold pvI
  rw [hF 25 2 rfl, hF 26 p.toNat rfl]
theorem xfr13 {m m1 : zM} (h : zFr (rowW 13) m m1) : zFr (inL [(13, none), (109, none)]) m m1 := h.sub (fun c j q => by
  have := Nat.eq_of_beq_eq_true q
  subst this
  rfl)
theorem xfr109 {m m1 : zM} {v : Int} (h : zFr (rowW 13) m m1) : zFr (inL [(13, none), (109, none)]) m (zu m1 109 0 v) := (xfr13 h).set rfl
theorem xInv13 {sc : zSc} {n k : Nat} {m m1 : zM} (hI : Inv B sc n k m) (hB : zB m1) (h : zFr (rowW 13) m m1) : Inv B sc n k m1 := Inv_fr (.of (rowW13 h) rfl) hB hI
theorem xInv109 {sc : zSc} {n k : Nat} {m m1 : zM} {v : Int} (hI : Inv B sc n k m) (hB : zB m1) (h : zFr (rowW 13) m m1) : Inv B sc n k (zu m1 109 0 v) := Inv_fr (.of (L := [(109, some 0)]) (zFr.refl.set rfl) rfl) (zB_u hB trivial) (xInv13 hI hB h)
end ZXRead
