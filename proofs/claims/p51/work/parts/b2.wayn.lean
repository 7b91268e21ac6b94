/-! What may throw, and is not compared: the call of the class, the call of the reference, each for itself. -/
noncomputable def WayN (T : Nat → Nat → zG → (Option zA → zM → Prop) → Prop) (kC kR : Nat) (aC aR : zL) (dC dR : Nat) (B : Int) : Prop := (∀ (D : Nat) (m : zM) (sc : zSc), (∃ n k, Inv B sc n k m) → ∀ κ : Option zA → zM → Prop, (∀ r m1, (r = none ∨ ∃ v, r = some (zi v)) → (∃ n k, Inv B sc n k m1) → κ r m1) → T (D + dC) kC (0, aC, [], m) κ) ∧ (∀ (D : Nat) (m : zM) (sc : zSc), (∃ n k, Inv B sc n k m) → ∀ κ2 : Option zA → zM → Prop, (∀ r2 m2, (∃ n k, Inv B sc n k m2) → κ2 r2 m2) → T (D + dR) kR (0, aR, [], m) κ2)
section ZWayN
variable {T : Nat → Nat → zG → (Option zA → zM → Prop) → Prop} {B : Int}
theorem rowW13 {m m1 : zM} (h : zFr (rowW 13) m m1) : zFr (inL [(13, none)]) m m1 := h.sub (fun c j q => by
  have := Nat.eq_of_beq_eq_true q
  subst this
  rfl)
set_option maxHeartbeats 4000000 in
theorem n_person (hT : zRules T) {p w : Int} (hp : isI p) (hw : isI w) : WayN T 117 218 [(0, zr 1), (1, zi p), (2, zi w)] [(0, zr 74), (1, zi p), (2, zi w)] 6 172 B := by
  constructor
  · rintro D m sc ⟨n, k, hI⟩ κ hκ
    have hI0 := hI
    obtain ⟨i1, i2, i3, i4, i5, i6, i7, i8, i9, i10, i11⟩ := hI
    obtain ⟨⟨n1, n2⟩, ⟨k1, k2⟩, hh, hRel, hok⟩ := i4
    have b17 : 0 ≤ m 17 0 ∧ m 17 0 ≤ 6 := i1 17 0
    have b171 : 0 ≤ m 17 1 ∧ m 17 1 ≤ 8 := i1 17 1
    have yes : ∀ v : Int, κ (some (zi v)) m := fun v => hκ _ _ (Or.inr ⟨_, rfl⟩) ⟨n, k, hI0⟩
    have nil : κ none m := hκ _ _ (Or.inl rfl) ⟨n, k, hI0⟩
    have yes1 : ∀ (v : Int) (m1 : zM), zB m1 → zFr (rowW 13) m m1 → κ (some (zi v)) m1 := fun v m1 hB1 hF1 => hκ _ _ (Or.inr ⟨_, rfl⟩) ⟨n, k, Inv_fr (.of (rowW13 hF1) rfl) hB1 hI0⟩
    by_cases hr : 0 ≤ p ∧ p < n
    · obtain ⟨a, rfl⟩ : ∃ a : Nat, p = (a : Int) := ⟨p.toNat, by omega⟩
      have han : a < n := by omega
      obtain ⟨ok1, ok2⟩ := hok.1 a han
      obtain ⟨r1, r2⟩ := hRel.1 a han
      obtain ⟨h78, h18⟩ := hh a han
      obtain ⟨pl, hpl⟩ : ∃ pl : Nat, m 19 a = (pl : Int) := ⟨(m 19 a).toNat, by omega⟩
      have hpl3 : pl ≤ 3 := by omega
      refine zb117_0n hT i1 (by omega) hw (fun x => by omega) (fun _ w0 => yes _) (fun _ w0 w1 => yes _) (fun _ w0 w1 w2 => yes _) (fun _ w0 w1 w2 w3 => ?_) (fun _ w0 w1 w2 w3 w4 => ?_) (fun _ w0 w1 w2 w3 w4 => nil)
      · refine z_lawNow hT i1 (by omega) (by omega) hpl hpl3 i3.1 (fun m1 hB1 hF1 => ?_)
        exact zb117_91 hT rfl LWB (yes1 _ m1 hB1 hF1)
      · refine zb172_0 hT i1 (by omega) (fun x => ?_) (fun x y => ?_) (fun x y => ?_)
        · exact zb117_97 hT rfl (by omega) (fun _ => yes _) (fun x => absurd rfl x)
        · exact zb117_97 hT rfl (by omega) (fun _ => yes _) (fun x => absurd rfl x)
        · have hc1 : 0 ≤ m 75 (a + 6) ∧ m 75 (a + 6) < k := by omega
          obtain ⟨c, hc⟩ : ∃ c : Nat, m 75 (a + 6) = (c : Int) := ⟨(m 75 (a + 6)).toNat, by omega⟩
          have b21 : -1 ≤ m 21 c ∧ m 21 c ≤ 99 := i1 21 c
          rw [r2, hc, Int.toNat_natCast]
          refine z_lawNow hT i1 (by omega) (by omega) hpl hpl3 i3.1 (fun m1 hB1 hF1 => ?_)
          have lv := LWB (m := m) (h := m 18 a) (i := (a : Int)) (p := pl) (w := m 17 11)
          refine zb172_35 hT rfl b21 lv (fun x => ?_) (fun x => ?_)
          · exact zb117_97 hT rfl (by omega) (fun _ => yes1 _ m1 hB1 hF1) (fun x => absurd rfl x)
          · exact zb117_97 hT rfl (by omega) (fun x => by omega) (fun _ => yes1 _ m1 hB1 hF1)
    · exact zb117_0 hT i1 hp hw (fun _ => nil) (fun _ _ => nil) (fun q1 q2 => absurd ⟨by omega, by omega⟩ hr) (fun q1 q2 => absurd ⟨by omega, by omega⟩ hr) (fun q1 q2 => absurd ⟨by omega, by omega⟩ hr) (fun q1 q2 => absurd ⟨by omega, by omega⟩ hr) (fun q1 q2 => absurd ⟨by omega, by omega⟩ hr) (fun q1 q2 => absurd ⟨by omega, by omega⟩ hr)
  · rintro D2 m sc ⟨n, k, hI⟩ κ2 h2
    have hI0 := hI
    obtain ⟨i1, i2, i3, i4, i5, i6, i7, i8, i9, i10, i11⟩ := hI
    have hA12 : Agree coreK m (zu m 74 12 0) := .of (L := [(74, some 12)]) (zFr.refl.set rfl) rfl
    have hA121 : Agree coreK m (zu (zu m 74 12 0) 74 12 1) := .of (L := [(74, some 12)]) ((zFr.refl.set rfl).set rfl) rfl
    obtain ⟨⟨n1, n2⟩, ⟨k1, k2⟩, hh, hRel, hok⟩ := i4
    have b17 : 0 ≤ m 17 0 ∧ m 17 0 ≤ 6 := i1 17 0
    have b171 : 0 ≤ m 17 1 ∧ m 17 1 ≤ 8 := i1 17 1
    have f : ∀ v : Option zA, zB (zu m 74 12 0) → κ2 v (zu m 74 12 0) := fun v hz => h2 _ _ ⟨n, k, Inv_fr hA12 hz hI0⟩
    have g : ∀ v : Option zA, zB (zu (zu m 74 12 0) 74 12 1) → κ2 v (zu (zu m 74 12 0) 74 12 1) := fun v hz => h2 _ _ ⟨n, k, Inv_fr hA121 hz hI0⟩
    by_cases hr : 0 ≤ p ∧ p < n
    · obtain ⟨a, rfl⟩ : ∃ a : Nat, p = (a : Int) := ⟨p.toNat, by omega⟩
      have han : a < n := by omega
      obtain ⟨ok1, ok2⟩ := hok.1 a han
      obtain ⟨r1, r2⟩ := hRel.1 a han
      obtain ⟨h78, h18⟩ := hh a han
      obtain ⟨pl, hpl⟩ : ∃ pl : Nat, m 75 a = (pl : Int) := ⟨(m 75 a).toNat, by omega⟩
      have hpl3 : pl ≤ 3 := by omega
      have law : zB (zu m 74 12 0) → ∀ κ3 : Option zA → zM → Prop, (∀ M2, zB M2 → Agree coreK m M2 → κ3 (some (zi (LW (zu m 74 12 0) ((zu m 74 12 0) 78 a) (a : Int) pl ((zu m 74 12 0) 75 57 + 0)))) M2) → T (D2 + 171) 216 (0, [(0, zr 74), (1, zi (a : Int)), (2, zi 0)], [], zu m 74 12 0) κ3 := by
        intro hz κ3 hk
        have hI2 := Inv_fr hA12 hz hI0
        exact z_lawIn (pl := pl) hT hz (by omega) (by rw [zu_dn (by omega)]; exact hpl) (by omega) hI2.2.2.1 (fun m2 hB2 hF2 => hk m2 hB2 (hA12.trans (.of (hF2.sub lbWL) rfl)))
      refine zb218_0n (D := D2 + 167) hT i1 (by omega) hw (fun x => by omega) (fun _ _ hz => g _ hz) (fun _ _ _ hz => g _ hz) (fun _ _ _ _ hz => f _ hz) (fun _ _ _ _ _ hz => f _ hz) (fun _ _ _ _ _ _ hz => f _ hz) (fun _ _ _ _ _ _ _ hz => ?_) (fun _ _ _ _ _ _ _ _ hz => f _ hz) (fun _ _ _ _ _ _ _ _ hz => ?_)
      · refine law hz _ (fun M2 g1 g2 => ?_)
        exact zb218_90 (D := D2 + 167) hT rfl LWB (h2 _ _ ⟨n, k, Inv_fr g2 g1 hI0⟩)
      · refine law hz _ (fun M2 g1 g2 => ?_)
        have b21 : ∀ c : Nat, c < 8 → -1 ≤ m 75 (12 + c) ∧ m 75 (12 + c) ≤ 99 := fun c hc => zSg i1 75 12 20 (-1) 99 rfl _ (by omega) (by omega)
        obtain ⟨c, hc⟩ : ∃ c : Nat, m 75 (a + 6) = (c : Int) := ⟨(m 75 (a + 6)).toNat, by omega⟩
        rw [hc, show (12 + (c : Int)).toNat = 12 + c by omega]
        exact zb218_111 (D := D2 + 167) hT rfl (b21 c (by omega)) LWB (fun x => h2 _ _ ⟨n, k, Inv_fr g2 g1 hI0⟩) (fun x => h2 _ _ ⟨n, k, Inv_fr g2 g1 hI0⟩)
    · exact zb218_0 (D := D2 + 167) hT i1 hp hw (fun _ hz => g _ hz) (fun _ _ hz => g _ hz) (fun q1 q2 => absurd ⟨by omega, by omega⟩ hr) (fun q1 q2 => absurd ⟨by omega, by omega⟩ hr) (fun q1 q2 => absurd ⟨by omega, by omega⟩ hr) (fun q1 q2 => absurd ⟨by omega, by omega⟩ hr) (fun q1 q2 => absurd ⟨by omega, by omega⟩ hr) (fun q1 q2 => absurd ⟨by omega, by omega⟩ hr) (fun q1 q2 => absurd ⟨by omega, by omega⟩ hr) (fun q1 q2 => absurd ⟨by omega, by omega⟩ hr) (fun q1 q2 => absurd ⟨by omega, by omega⟩ hr) (fun q1 q2 => absurd ⟨by omega, by omega⟩ hr)
set_option maxHeartbeats 4000000 in
theorem n_cloth (hT : zRules T) {p w : Int} (hp : isI p) (hw : isI w) : WayN T 118 219 [(0, zr 1), (1, zi p), (2, zi w)] [(0, zr 74), (1, zi p), (2, zi w)] 3 3 B := by
  constructor
  · rintro D m sc ⟨n, k, hI⟩ κ hκ
    have hI0 := hI
    obtain ⟨i1, i2, i3, i4, i5, i6, i7, i8, i9, i10, i11⟩ := hI
    obtain ⟨⟨n1, n2⟩, ⟨k1, k2⟩, hh, hRel, hok⟩ := i4
    have b17 : 0 ≤ m 17 0 ∧ m 17 0 ≤ 6 := i1 17 0
    have b171 : 0 ≤ m 17 1 ∧ m 17 1 ≤ 8 := i1 17 1
    have yes : ∀ v : Int, κ (some (zi v)) m := fun v => hκ _ _ (Or.inr ⟨_, rfl⟩) ⟨n, k, hI0⟩
    have nil : κ none m := hκ _ _ (Or.inl rfl) ⟨n, k, hI0⟩
    by_cases hr : 0 ≤ p ∧ p < k
    · obtain ⟨c, rfl⟩ : ∃ a : Nat, p = (a : Int) := ⟨p.toNat, by omega⟩
      refine zb118_0n hT i1 (by omega) hw (fun x => by omega) (fun _ w0 => yes _) (fun _ w0 w1 => yes _) (fun _ w0 w1 w2 => yes _) (fun _ w0 w1 w2 w3 => yes _) (fun _ w0 w1 w2 w3 w4 => ?_) (fun _ w0 w1 w2 w3 w4 => nil)
      have hw1 := wIx_b (f := m 20) (c := (c : Int)) n 0
      refine z_wearerOf (n := n) hT i1 (by omega) n1 ?_
      exact zb118_103 hT rfl (by omega) (yes _)
    · exact zb118_0 hT i1 hp hw (fun _ => nil) (fun _ _ => nil) (fun q1 q2 => absurd ⟨by omega, by omega⟩ hr) (fun q1 q2 => absurd ⟨by omega, by omega⟩ hr) (fun q1 q2 => absurd ⟨by omega, by omega⟩ hr) (fun q1 q2 => absurd ⟨by omega, by omega⟩ hr) (fun q1 q2 => absurd ⟨by omega, by omega⟩ hr) (fun q1 q2 => absurd ⟨by omega, by omega⟩ hr)
  · rintro D2 m sc ⟨n, k, hI⟩ κ2 h2
    have hI0 := hI
    obtain ⟨i1, i2, i3, i4, i5, i6, i7, i8, i9, i10, i11⟩ := hI
    have hA12 : Agree coreK m (zu m 74 12 0) := .of (L := [(74, some 12)]) (zFr.refl.set rfl) rfl
    have hA121 : Agree coreK m (zu (zu m 74 12 0) 74 12 1) := .of (L := [(74, some 12)]) ((zFr.refl.set rfl).set rfl) rfl
    obtain ⟨⟨n1, n2⟩, ⟨k1, k2⟩, hh, hRel, hok⟩ := i4
    have b17 : 0 ≤ m 17 0 ∧ m 17 0 ≤ 6 := i1 17 0
    have b171 : 0 ≤ m 17 1 ∧ m 17 1 ≤ 8 := i1 17 1
    have f : ∀ v : Option zA, zB (zu m 74 12 0) → κ2 v (zu m 74 12 0) := fun v hz => h2 _ _ ⟨n, k, Inv_fr hA12 hz hI0⟩
    have g : ∀ v : Option zA, zB (zu (zu m 74 12 0) 74 12 1) → κ2 v (zu (zu m 74 12 0) 74 12 1) := fun v hz => h2 _ _ ⟨n, k, Inv_fr hA121 hz hI0⟩
    by_cases hr : 0 ≤ p ∧ p < k
    · obtain ⟨c, rfl⟩ : ∃ a : Nat, p = (a : Int) := ⟨p.toNat, by omega⟩
      refine zb219_0n hT i1 (by omega) hw (fun x => by omega) (fun _ _ hz => g _ hz) (fun _ _ _ hz => g _ hz) (fun _ _ _ _ hz => f _ hz) (fun _ _ _ _ _ hz => f _ hz) (fun _ _ _ _ _ _ hz => f _ hz) (fun _ _ _ _ _ _ _ hz => f _ hz) (fun _ _ _ _ _ _ _ hz => ?_)
      have hw1 := wIx_b (f := fun p => (zu m 74 12 0) 75 (p + 6)) (c := (c : Int)) n 0
      refine z_wearer (n := n) hT hz (by omega) n2 ?_
      exact zb219_119 hT rfl (by omega) (f _ hz)
    · exact zb219_0 hT i1 hp hw (fun _ hz => g _ hz) (fun _ _ hz => g _ hz) (fun q1 q2 => absurd ⟨by omega, by omega⟩ hr) (fun q1 q2 => absurd ⟨by omega, by omega⟩ hr) (fun q1 q2 => absurd ⟨by omega, by omega⟩ hr) (fun q1 q2 => absurd ⟨by omega, by omega⟩ hr) (fun q1 q2 => absurd ⟨by omega, by omega⟩ hr) (fun q1 q2 => absurd ⟨by omega, by omega⟩ hr) (fun q1 q2 => absurd ⟨by omega, by omega⟩ hr) (fun q1 q2 => absurd ⟨by omega, by omega⟩ hr) (fun q1 q2 => absurd ⟨by omega, by omega⟩ hr) (fun q1 q2 => absurd ⟨by omega, by omega⟩ hr) (fun q1 q2 => absurd ⟨by omega, by omega⟩ hr) (fun q1 q2 => absurd ⟨by omega, by omega⟩ hr)
theorem n_piece (hT : zRules T) {p : Int} (hp : isI p) : WayN T 130 242 [(0, zr 1), (1, zi p)] [(0, zr 74), (1, zi p)] 2 2 B := by
  constructor
  · rintro D m sc ⟨n, k, hI⟩ κ hκ
    have i1 := hI.1
    exact zb130_0 hT i1 hp (fun _ => hκ _ _ (Or.inl rfl) ⟨n, k, hI⟩) (fun _ _ => hκ _ _ (Or.inl rfl) ⟨n, k, hI⟩) (fun _ _ => hκ _ _ (Or.inr ⟨_, rfl⟩) ⟨n, k, hI⟩)
  · rintro D2 m sc ⟨n, k, hI⟩ κ2 h2
    have i1 := hI.1
    have hA12 : Agree coreK m (zu m 74 12 0) := .of (L := [(74, some 12)]) (zFr.refl.set rfl) rfl
    have hA121 : Agree coreK m (zu (zu m 74 12 0) 74 12 1) := .of (L := [(74, some 12)]) ((zFr.refl.set rfl).set rfl) rfl
    exact zb242_0 hT i1 hp (fun _ hz => h2 _ _ ⟨n, k, Inv_fr hA121 hz hI⟩) (fun _ _ hz => h2 _ _ ⟨n, k, Inv_fr hA121 hz hI⟩) (fun q1 q2 => by
      have b : 0 ≤ m 75 56 ∧ m 75 56 ≤ 20 := i1 75 56
      rw [wr_id (by omega) (by omega)]
      omega) (fun _ _ hz => h2 _ _ ⟨n, k, Inv_fr hA12 hz hI⟩)
theorem n_row (hT : zRules T) {p : Int} (hp : isI p) : WayN T 162 291 [(0, zr 1), (1, zi p)] [(0, zr 74), (1, zi p)] 2 2 B := by
  constructor
  · rintro D m sc ⟨n, k, hI⟩ κ hκ
    have i1 := hI.1
    exact zb162_0 hT i1 hp (fun _ => hκ _ _ (Or.inl rfl) ⟨n, k, hI⟩) (fun _ _ => hκ _ _ (Or.inr ⟨_, rfl⟩) ⟨n, k, hI⟩) (fun _ _ => hκ _ _ (Or.inl rfl) ⟨n, k, hI⟩)
  · rintro D2 m sc ⟨n, k, hI⟩ κ2 h2
    have i1 := hI.1
    have hA12 : Agree coreK m (zu m 74 12 0) := .of (L := [(74, some 12)]) (zFr.refl.set rfl) rfl
    have hA121 : Agree coreK m (zu (zu m 74 12 0) 74 12 1) := .of (L := [(74, some 12)]) ((zFr.refl.set rfl).set rfl) rfl
    exact zb291_0 hT i1 hp (fun _ hz => h2 _ _ ⟨n, k, Inv_fr hA121 hz hI⟩) (fun _ _ hz => h2 _ _ ⟨n, k, Inv_fr hA121 hz hI⟩) (fun _ _ hz => h2 _ _ ⟨n, k, Inv_fr hA12 hz hI⟩)
/-- the law's row of one long is no part of what holds -/
theorem Inv_109 {sc : zSc} {m : zM} {v : Int} (h : ∃ n k, Inv B sc n k m) : ∃ n k, Inv B sc n k (zu m 109 0 v) := by
  obtain ⟨n, k, hI⟩ := h
  exact ⟨n, k, Inv_fr (.of (L := [(109, some 0)]) (zFr.refl.set rfl) rfl) (zB_u hI.1 trivial) hI⟩
end ZWayN
