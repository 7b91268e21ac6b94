/-! LIGHT, LAW, a year drawn. -/
section ZWays2
variable {T : Nat → Nat → zG → (Option zA → zM → Prop) → Prop} {B : Int}
theorem w_light (hT : zRules T) {p w : Int} (hp : isI p) (hw : isI w) : Way T 119 220 [(0, zr 1), (1, zi p), (2, zi w)] [(0, zr 74), (1, zi p), (2, zi w)] 2 2 B B True := by
  rintro D m sc ⟨n, k, hI⟩ κ hκ
  have hI0 := hI
  obtain ⟨i1, i2, i3, i4, i5, i6, i7, i8, i9, i10, i11⟩ := hI
  have hB1 : zB (zu m 74 12 0) := zB_u i1 trivial
  have hA12 : Agree coreK m (zu m 74 12 0) := .of (L := [(74, some 12)]) (zFr.refl.set rfl) rfl
  have e1 := i3.2.1.1
  have b44 : 0 ≤ m 4 4 ∧ m 4 4 ≤ 4 := i1 4 4
  have no : ¬ (0 ≤ p ∧ p < m 4 4 ∧ 0 ≤ w ∧ w ≤ 9999) → κ (some (zi (-1))) m := by
    intro hno
    refine hκ _ _ (fun D2 κ2 h2 => ?_)
    have fin : κ2 (some (zi (-1))) (zu m 74 12 0) := h2 _ _ (fun _ => rfl) ⟨n, k, Inv_fr hA12 hB1 hI0⟩
    exact zb220_0 hT i1 hp hw (fun _ _ => fin) (fun _ _ _ => fin) (fun _ _ _ _ => fin) (fun _ _ _ _ _ => fin) (fun q1 q2 q3 q4 => absurd ⟨by omega, by omega, by omega, by omega⟩ hno)
  have yes : 0 ≤ p → p < m 4 4 → 0 ≤ w → w ≤ 9999 → κ (some (zi (lgt m p.toNat w))) m := by
    intro q1 q2 q3 q4
    refine hκ _ _ (fun D2 κ2 h2 => ?_)
    obtain ⟨a, rfl⟩ : ∃ a : Nat, p = (a : Int) := ⟨p.toNat, by omega⟩
    rw [Int.toNat_natCast] at h2
    obtain ⟨g1, g2, g3⟩ := lgt_R i1 i3 q2 q3
    have bl : 0 ≤ lgt m a w ∧ lgt m a w ≤ 9 := i1 5 _
    refine zb220_0 hT i1 hp hw (fun x => by omega) (fun _ x => by omega) (fun _ _ x => by omega) (fun _ _ _ x => by omega) (fun _ _ _ _ hz => ?_)
    refine zb213_0 hT hz (by omega) (by omega) ⟨g2, g3⟩ ?_
    have e9 : (zu m 74 12 0) 76 (26 * (a : Int) + Int.tmod w ((zu m 74 12 0) 77 a)).toNat = lgt m a w := g1
    rw [e9]
    exact zb220_32 hT rfl bl (h2 _ _ (fun _ => rfl) ⟨n, k, Inv_fr hA12 hz hI0⟩)
  have wf : 0 ≤ p → p < m 4 4 → 1 ≤ m 6 p.toNat := fun q1 q2 => i3.1.1 p.toNat (by omega)
  have b6 : 0 ≤ m 6 p.toNat ∧ m 6 p.toNat ≤ 26 := i1 6 _
  refine zb119_0 hT i1 hp hw (fun q1 => no (by omega)) (fun q1 q2 => no (by omega)) (fun q1 q2 q3 => no (by omega)) (fun q1 q2 q3 q4 => no (by omega)) (fun q1 q2 q3 q4 q5 => ?_) (fun q1 q2 q3 q4 q5 => ?_) (fun q1 q2 q3 q4 q5 => ?_)
  · have := z_tmodB w (m 6 p.toNat) 25 (by omega) (by omega) (by omega)
    rw [wr_id (by omega) (by omega)]
    omega
  · have hm := z_tmodB w (m 6 p.toNat) 25 (by omega) (by omega) (by omega)
    have hy := yes (by omega) q4 (by omega) (by omega)
    unfold lgt at hy
    rw [wr_id (by omega) (by omega)]
    rw [show ((p.toNat : Nat) : Int) = p by omega] at hy
    exact hy
  · have := wf (by omega) q4
    omega
theorem w_law (hT : zRules T) {i p w : Int} (hi : isI i) (hp : isI p) (hw : isI w) : Way T 120 221 [(0, zr 1), (1, zi i), (2, zi p), (3, zi w)] [(0, zr 74), (1, zi i), (2, zi p), (3, zi w)] 5 171 B B True := by
  rintro D m sc ⟨n, k, hI⟩ κ hκ
  have hI0 := hI
  obtain ⟨i1, i2, i3, i4, i5, i6, i7, i8, i9, i10, i11⟩ := hI
  have hB1 : zB (zu m 74 12 0) := zB_u i1 trivial
  have hA12 : Agree coreK m (zu m 74 12 0) := .of (L := [(74, some 12)]) (zFr.refl.set rfl) rfl
  obtain ⟨n1, n2⟩ := i4.1
  have b17 : 0 ≤ m 17 0 ∧ m 17 0 ≤ 6 := i1 17 0
  have no : ¬ (0 ≤ i ∧ i < n ∧ 0 ≤ p ∧ p ≤ 3 ∧ 0 ≤ w ∧ w ≤ 9999) → κ (some (zi (-1))) m := by
    intro hno
    refine hκ _ _ (fun D2 κ2 h2 => ?_)
    have fin : κ2 (some (zi (-1))) (zu m 74 12 0) := h2 _ _ (fun _ => rfl) ⟨n, k, Inv_fr hA12 hB1 hI0⟩
    exact zb221_0 (D := D2 + 167) hT i1 hi hp hw (fun _ _ => fin) (fun _ _ _ => fin) (fun _ _ _ _ => fin) (fun _ _ _ _ _ => fin) (fun _ _ _ _ _ _ => fin) (fun _ _ _ _ _ _ _ => fin) (fun q1 q2 q3 q4 q5 q6 => absurd ⟨by omega, by omega, by omega, by omega, by omega, by omega⟩ hno)
  refine zb120_0 hT i1 hi hp hw (fun q1 => no (by omega)) (fun q1 q2 => no (by omega)) (fun q1 q2 q3 => no (by omega)) (fun q1 q2 q3 q4 => no (by omega)) (fun q1 q2 q3 q4 q5 => no (by omega)) (fun q1 q2 q3 q4 q5 q6 => no (by omega)) (fun q1 q2 q3 q4 q5 q6 => ?_)
  obtain ⟨a, rfl⟩ : ∃ a : Nat, i = (a : Int) := ⟨i.toNat, by omega⟩
  obtain ⟨pl, rfl⟩ : ∃ a : Nat, p = (a : Int) := ⟨p.toNat, by omega⟩
  obtain ⟨h78, h18⟩ := i4.2.2.1 a (by omega)
  refine z_lawAt hT i1 (by omega) (by omega) (by omega) (by omega) i3.1 (fun m1 hB2 hF => ?_)
  refine zb120_34 hT rfl LWB (hκ _ _ (fun D2 κ2 h2 => ?_))
  have hF1 : zFr (inL [(13, none)]) m m1 := hF.sub (fun c j q => by
    have := Nat.eq_of_beq_eq_true q
    subst this
    rfl)
  have hA1 : Agree coreK m m1 := .of hF1 rfl
  have e4 : m1 74 4 = (n : Int) := by rw [hF 74 4 rfl]; exact n2
  refine zb221_0 (D := D2 + 167) hT hB2 hi hp hw (fun x => by omega) (fun _ x => by omega) (fun _ _ x => by omega) (fun _ _ _ x => by omega) (fun _ _ _ _ x => by omega) (fun _ _ _ _ _ x => by omega) (fun _ _ _ _ _ _ hz => ?_)
  have hA2 : Agree coreK m (zu m1 74 12 0) := hA1.trans (.of (L := [(74, some 12)]) (zFr.refl.set rfl) rfl)
  have hI2 := Inv_fr hA2 hz hI0
  refine z_lawOf hT hz (by omega) (by omega) (by omega) hI2.2.2.1 (fun m2 hB3 hF3 => ?_)
  refine zb221_34 (D := D2 + 167) hT rfl LWB (h2 _ _ (fun _ => ?_) ⟨n, k, ?_⟩)
  · have hL : LW (zu m1 74 12 0) = LW m := (hA2.sub (K2 := KL) (fun q hq => List.mem_append.mpr (Or.inr (List.mem_append.mpr (Or.inl hq))))).law.2
    rw [hL, show (zu m1 74 12 0) 78 a = m 78 a from hA2 78 a rfl, h78]
  · refine Inv_fr (.of (L := [(74, some 13), (74, some 14), (74, some 15), (74, some 16), (74, some 17), (74, some 26), (74, some 27), (74, some 28), (74, some 29), (74, some 30)]) (hF3.sub lbWL) rfl) hB3 hI2
noncomputable def rr (s : Int) : Nat → Int
  | 0 => s
  | t + 1 => rr s t * 1103515245 + 12345
noncomputable def dv (s : Int) (t : Nat) : Int := Int.tmod (z_ush (rr s (t + 1)) 16) 10
theorem dvB (s : Int) (t : Nat) : 0 ≤ dv s t ∧ dv s t ≤ 9 := by
  have h1 := z_ushN (rr s (t + 1)) (n := 16) (by omega)
  have h2 := z_ushB (rr s (t + 1)) 16
  have h3 : z_ush (rr s (t + 1)) 16 % 4294967296 = (rr s (t + 1) % 4294967296) / 65536 := h1
  exact z_tmodB _ _ _ (by omega) (by omega) (by omega)
theorem z_drawOne (hT : zRules T) {D : Nat} {κ : Option zA → zM → Prop} {m : zM} {s : Int} {p n : Nat} (hB : zB m) (hp : p ≤ 3) (hn : n ≤ 26)
    (h : ∀ M, zB M → zFr (inL [(4, some 4), (5, none), (6, none)]) m M → (∀ t, t < n → M 5 (26 * p + t) = dv s t) → (∀ j, (j < 26 * p ∨ 26 * p + n ≤ j) → M 5 j = m 5 j) → M 6 p = (n : Int) → (∀ j, j ≠ p → M 6 j = m 6 j) → M 4 4 = (if m 4 4 < (p : Int) + 1 then (p : Int) + 1 else m 4 4) → κ (some (zi (if m 4 4 < (p : Int) + 1 then (p : Int) + 1 else m 4 4))) M) : T (D + 1) 5 (36, [(0, zr 4), (2, zi (p : Int)), (3, zi (n : Int)), (4, zi s), (5, zi 0)], [], m) κ := by
  have key : ∀ (j t : Nat) (M : zM), t + j = n → zB M → zFr (inL [(4, some 4), (5, none), (6, none)]) m M → (∀ u, u < t → M 5 (26 * p + u) = dv s u) → (∀ u, (u < 26 * p ∨ 26 * p + t ≤ u) → M 5 u = m 5 u) → M 6 = m 6 → M 4 4 = m 4 4 → T (D + 1) 5 (36, [(0, zr 4), (2, zi (p : Int)), (3, zi (n : Int)), (4, zi (rr s t)), (5, zi (t : Int))], [], M) κ := by
    intro j
    induction j with
    | zero =>
      intro t M ht hBM hF h1 h2 h3 h4
      have et : t = n := by omega
      subst et
      have fin : ∀ v, v = (if m 4 4 < (p : Int) + 1 then (p : Int) + 1 else m 4 4) → zB (zu (zu M 6 p (t : Int)) 4 4 v) → κ (some (zi v)) (zu (zu M 6 p (t : Int)) 4 4 v) := by
        intro v hv hz
        have := h _ hz ((hF.set rfl).set rfl) (fun u hu => by rw [zu_dn (by omega), zu_dn (by omega)]; exact h1 u hu) (fun u hu => by rw [zu_dn (by omega), zu_dn (by omega)]; exact h2 u hu) (by rw [zu_dn (by omega), zu_sm rfl]) (fun u hu => by rw [zu_dn (by omega), zu_off hu, h3]) (by rw [zu_sm rfl]; exact hv)
        rw [← hv] at this
        exact this
      refine zb5_36 hT rfl hBM hp hn (by omega) (fun _ q hz => ?_) (fun _ q hz => ?_) (fun q => by omega)
      · exact fin _ (by rw [if_pos (by omega)]) hz
      · exact fin _ (by rw [if_neg (by omega)]; exact h4) hz
    | succ j ih =>
      intro t M ht hBM hF h1 h2 h3 h4
      have bd := dvB s t
      refine zb5_36 hT rfl hBM hp hn (by omega) (fun q => by omega) (fun q => by omega) (fun _ => ?_)
      refine zd5 hT hp (by omega) ?_
      refine ih (t + 1) _ (by omega) (zB_u hBM (show 0 ≤ dv s t ∧ dv s t ≤ 9 from bd)) (hF.set rfl) (fun u hu => ?_) (fun u hu => ?_) ?_ ?_
      · by_cases e : u = t
        · subst e
          rw [zu_sm rfl]
          rfl
        · rw [zu_off (by omega)]
          exact h1 u (by omega)
      · rw [zu_off (by omega)]
        exact h2 u (by omega)
      · rw [zu_dnR (by omega)]
        exact h3
      · rw [zu_dn (by omega)]
        exact h4
  exact key n 0 m (by omega) hB zFr.refl (fun u hu => by omega) (fun _ _ => rfl) rfl rfl
theorem z_drawR (hT : zRules T) {D : Nat} {κ : Option zA → zM → Prop} {m : zM} {s : Int} {p n : Nat} (hB : zB m) (hp : p ≤ 3) (hn : n ≤ 26)
    (h : ∀ M, zB M → zFr (inL [(74, some 1), (76, none), (77, none)]) m M → (∀ t, t < n → M 76 (26 * p + t) = dv s t) → (∀ j, (j < 26 * p ∨ 26 * p + n ≤ j) → M 76 j = m 76 j) → M 77 p = (n : Int) → (∀ j, j ≠ p → M 77 j = m 77 j) → M 74 1 = (if m 74 1 < (p : Int) + 1 then (p : Int) + 1 else m 74 1) → κ (some (zi (if m 74 1 < (p : Int) + 1 then (p : Int) + 1 else m 74 1))) M) : T (D + 2) 286 (38, [(0, zr 74), (2, zi (p : Int)), (3, zi (n : Int)), (4, zi s), (5, zi 0)], [], m) κ := by
  have key : ∀ (j t : Nat) (M : zM), t + j = n → zB M → zFr (inL [(74, some 1), (76, none), (77, none)]) m M → (∀ u, u < t → M 76 (26 * p + u) = dv s u) → (∀ u, (u < 26 * p ∨ 26 * p + t ≤ u) → M 76 u = m 76 u) → M 77 = m 77 → M 74 1 = m 74 1 → T (D + 2) 286 (38, [(0, zr 74), (2, zi (p : Int)), (3, zi (n : Int)), (4, zi (rr s t)), (5, zi (t : Int))], [], M) κ := by
    intro j
    induction j with
    | zero =>
      intro t M ht hBM hF h1 h2 h3 h4
      have et : t = n := by omega
      subst et
      have fin : ∀ v, v = (if m 74 1 < (p : Int) + 1 then (p : Int) + 1 else m 74 1) → zB (zu (zu M 77 p (t : Int)) 74 1 v) → κ (some (zi v)) (zu (zu M 77 p (t : Int)) 74 1 v) := by
        intro v hv hz
        have := h _ hz ((hF.set rfl).set rfl) (fun u hu => by rw [zu_dn (by omega), zu_dn (by omega)]; exact h1 u hu) (fun u hu => by rw [zu_dn (by omega), zu_dn (by omega)]; exact h2 u hu) (by rw [zu_dn (by omega), zu_sm rfl]) (fun u hu => by rw [zu_dn (by omega), zu_off hu, h3]) (by rw [zu_sm rfl]; exact hv)
        rw [← hv] at this
        exact this
      refine zb286_38 hT rfl hBM hp hn (by omega) (fun _ q hz => ?_) (fun _ q hz => ?_) (fun q => by omega)
      · exact fin _ (by rw [if_pos (by omega)]) hz
      · exact fin _ (by rw [if_neg (by omega)]; exact h4) hz
    | succ j ih =>
      intro t M ht hBM hF h1 h2 h3 h4
      have bd := dvB s t
      refine zb286_38 hT rfl hBM hp hn (by omega) (fun q => by omega) (fun q => by omega) (fun _ => ?_)
      refine zd286 hT hp (by omega) ?_
      refine ih (t + 1) _ (by omega) (zB_u hBM (show 0 ≤ dv s t ∧ dv s t ≤ 9 from bd)) (hF.set rfl) (fun u hu => ?_) (fun u hu => ?_) ?_ ?_
      · by_cases e : u = t
        · subst e
          rw [zu_sm rfl]
          rfl
        · rw [zu_off (by omega)]
          exact h1 u (by omega)
      · rw [zu_off (by omega)]
        exact h2 u (by omega)
      · rw [zu_dnR (by omega)]
        exact h3
      · rw [zu_dn (by omega)]
        exact h4
  exact key n 0 m (by omega) hB zFr.refl (fun u hu => by omega) (fun _ _ => rfl) rfl rfl
theorem w_draw (hT : zRules T) {s p nn : Int} (hs : isI s) (hp : isI p) (hn : isI nn) : Way T 158 286 [(0, zr 1), (1, zi s), (2, zi p), (3, zi nn)] [(0, zr 74), (1, zi s), (2, zi p), (3, zi nn)] 2 2 B B True := by
  rintro D m sc ⟨n, k, hI⟩ κ hκ
  have hI0 := hI
  obtain ⟨i1, i2, i3, i4, i5, i6, i7, i8, i9, i10, i11⟩ := hI
  have hB1 : zB (zu m 74 12 0) := zB_u i1 trivial
  have hA12 : Agree coreK m (zu m 74 12 0) := .of (L := [(74, some 12)]) (zFr.refl.set rfl) rfl
  have e1 := i3.2.1.1
  have b44 : 0 ≤ m 4 4 ∧ m 4 4 ≤ 4 := i1 4 4
  have no : ¬ (0 ≤ p ∧ p ≤ m 4 4 ∧ p ≤ 3 ∧ 1 ≤ nn ∧ nn ≤ 26) → T (D + 2) 158 (10, [(0, zr 1), (1, zi s), (2, zi p), (3, zi nn)], [zi (-1)], m) κ := by
    intro hno
    refine zb158_10 hT rfl (by omega) (hκ _ _ (fun D2 κ2 h2 => ?_))
    have fin : κ2 (some (zi (-1))) (zu m 74 12 0) := h2 _ _ (fun _ => rfl) ⟨n, k, Inv_fr hA12 hB1 hI0⟩
    exact zb286_0 hT i1 hs hp hn (fun _ _ => fin) (fun _ _ _ => fin) (fun _ _ _ _ => fin) (fun _ _ _ _ _ => fin) (fun _ _ _ _ _ _ => fin) (fun q1 q2 q3 q4 q5 => absurd ⟨by omega, by omega, by omega, by omega, by omega⟩ hno)
  refine zb158_0 hT i1 hs hp hn ?_
  refine zb5_0 hT i1 hs hp hn (fun q1 => no (by omega)) (fun q1 q2 => no (by omega)) (fun q1 q2 q3 => no (by omega)) (fun q1 q2 q3 q4 => no (by omega)) (fun q1 q2 q3 q4 q5 => ?_) (fun q1 q2 q3 q4 q5 => no (by omega))
  obtain ⟨a, rfl⟩ : ∃ a : Nat, p = (a : Int) := ⟨p.toNat, by omega⟩
  obtain ⟨c, rfl⟩ : ∃ a : Nat, nn = (a : Int) := ⟨nn.toNat, by omega⟩
  refine z_drawOne hT i1 (by omega) (by omega) (fun M hBM hF g1 g2 g3 g4 g5 => ?_)
  have bpl : 0 ≤ (if m 4 4 < (a : Int) + 1 then (a : Int) + 1 else m 4 4) ∧ (if m 4 4 < (a : Int) + 1 then (a : Int) + 1 else m 4 4) ≤ 4 := by
    split <;> omega
  refine zb158_10 hT rfl (by omega) (hκ _ _ (fun D2 κ2 h2 => ?_))
  have e74 : M 74 1 = m 4 4 := by rw [hF 74 1 rfl]; exact e1
  refine zb286_0 hT hBM hs hp hn (fun x => by omega) (fun _ x => by omega) (fun _ _ x => by omega) (fun _ _ _ x => by omega) (fun _ _ _ _ x => by omega) (fun _ _ _ _ _ hz => ?_)
  refine z_drawR hT hz (by omega) (by omega) (fun M2 hB2 hF2 f1 f2 f3 f4 f5 => ?_)
  have e74b : (zu M 74 12 0) 74 1 = m 4 4 := e74
  rw [e74b] at f5 ⊢
  refine h2 _ _ (fun _ => rfl) ⟨n, k, ?_⟩
  have hF1 : zFr (inL [(4, some 4), (5, none), (6, none), (74, some 12), (74, some 1), (76, none), (77, none)]) m M2 := ((hF.sub (inL_sub (by decide))).set rfl).trans (hF2.sub (inL_sub (by decide)))
  have d4 : M2 4 4 = M 4 4 := hF2 4 4 rfl
  have d5 : ∀ j, M2 5 j = M 5 j := fun j => hF2 5 j rfl
  have d6 : ∀ j, M2 6 j = M 6 j := fun j => hF2 6 j rfl
  refine ⟨hB2, Text_fr (.of hF1 rfl) i2, ⟨⟨fun q hq => ?_, ?_⟩, ⟨?_, fun q hq => ?_⟩, ?_⟩, House_fr (.of hF1 rfl) i4, Term_fr (.of hF1 rfl) i5, Undo_fr (.of hF1 rfl) i6, Kept_fr (.of hF1 rfl) i7, Seen_fr (.of hF1 rfl) i8, Job_fr (.of hF1 rfl) i9, Now_fr (.of hF1 rfl) i10, Scr_fr (.of hF1 rfl) i11⟩
  · rw [d4, g5] at hq
    rw [d6]
    by_cases e : q = a
    · subst e
      rw [g3]
      omega
    · rw [g4 q e]
      refine i3.1.1 q ?_
      split at hq <;> omega
  · have ec : ∀ c, (c = 10 ∨ c = 11 ∨ c = 12) → M2 c = m c := fun c hc => by
      rcases hc with rfl | rfl | rfl <;> exact funext fun j => hF1 _ j rfl
    rw [ec 10 (by omega), ec 11 (by omega), ec 12 (by omega), hF1 9 4 rfl]
    exact i3.1.2
  · rw [f5, d4, g5]
  · rw [d4, g5] at hq
    rw [d6]
    by_cases e : q = a
    · subst e
      rw [f3, g3]
      refine ⟨rfl, fun t ht => ?_⟩
      rw [f1 t (by omega), d5, g1 t (by omega)]
    · have hq2 : (q : Int) < m 4 4 := by split at hq <;> omega
      obtain ⟨r1, r2⟩ := i3.2.1.2 q hq2
      have b6 : 0 ≤ m 6 q ∧ m 6 q ≤ 26 := i1 6 q
      rw [f4 q e, g4 q e]
      refine ⟨?_, fun t ht => ?_⟩
      · show (zu M 74 12 0) 77 q = _
        rw [zu_dn (by omega), hF 77 q rfl]
        exact r1
      · rw [f2 _ (by omega), d5, g2 _ (by omega)]
        show (zu M 74 12 0) 76 _ = _
        rw [zu_dn (by omega), hF 76 _ rfl]
        exact r2 t ht
  · have h9 : Agree [(9, some 4), (10, none), (11, none), (12, none), (74, some 25), (86, none)] m M2 := .of hF1 rfl
    have es : sQ M2 = sQ m := by
      funext x
      unfold sQ
      rw [h9 74 25 rfl, h9 86 x rfl]
    have er : ruleV M2 = ruleV m := by
      funext x
      unfold ruleV
      rw [h9 9 4 rfl, show M2 10 = m 10 from funext fun j => h9 10 j rfl, show M2 11 = m 11 from funext fun j => h9 11 j rfl, show M2 12 = m 12 from funext fun j => h9 12 j rfl]
    unfold RuleRel
    rw [h9 9 4 rfl, h9 74 25 rfl, es, er]
    exact i3.2.2
end ZWays2
