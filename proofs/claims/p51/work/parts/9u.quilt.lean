/-! patches(), quilt(). -/
/-- each that is left has its place -/
theorem b_left {x : Nat} : ∀ n j, j + b_cnt n x < n → ∃ k, k < n ∧ x.testBit k = false ∧ k - b_cnt k x = j
  | 0, j, h => by omega
  | n + 1, j, h => by
    rw [b_cnt] at h
    have hc := b_cnt_le (x := x) n
    by_cases e : x.testBit n = true
    · rw [if_pos e] at h
      obtain ⟨k, k1, k2, k3⟩ := b_left (x := x) n j (by omega)
      exact ⟨k, by omega, k2, k3⟩
    · rw [if_neg e] at h
      by_cases q : j + b_cnt n x < n
      · obtain ⟨k, k1, k2, k3⟩ := b_left (x := x) n j q
        exact ⟨k, by omega, k2, k3⟩
      · exact ⟨n, by omega, by simpa using e, by omega⟩
section ZQuilt
variable {T : Nat → Nat → zG → (Option zA → zM → Prop) → Prop} {B : Int}
/-- a set is taken out of the class's box -/
theorem z_takeOutS (hT : zRules T) {D : Nat} {κ : Option zA → zM → Prop} {m : zM} {x N : Nat} (hB : zB m) (hN : m 25 2 = (N : Int)) (hx : x ≤ 2 ^ 20)
    (hk : ∀ m1, zB m1 → zFr (inL [(25, some 2), (26, none)]) m m1 → m1 25 2 = ((N - b_cnt N x : Nat) : Int) → (∀ k, k < N → x.testBit k = false → m1 26 (k - b_cnt k x) = m 26 k) → κ none m1) : T (D + 1) 10 (0, [(0, zr 25), (1, zi (x : Int))], [], m) κ := by
  have b25 : 0 ≤ m 25 2 ∧ m 25 2 ≤ 20 := hB 25 2
  have key : ∀ (j t : Nat) (M : zM), t + j = N → zB M → zFr (inL [(26, none)]) m M → (∀ k, k < t → x.testBit k = false → M 26 (k - b_cnt k x) = m 26 k) → (∀ k, t ≤ k → M 26 k = m 26 k) → T (D + 1) 10 (4, [(0, zr 25), (1, zi (x : Int)), (2, zi ((t - b_cnt t x : Nat) : Int)), (3, zi (t : Int))], [], M) κ := by
    intro j
    induction j with
    | zero =>
      intro t M ht hBM hF g1 g2
      have et : t = N := by omega
      subst et
      have e25 : M 25 2 = (t : Int) := (hF 25 2 rfl).trans hN
      refine zb10_4 hT rfl hBM (by omega) (by omega) (by omega) (fun _ hz => ?_) (fun q => by omega) (fun q => by omega) (fun q => by omega)
      exact hk _ hz ((hF.sub (inL_sub (by decide))).set rfl) (by rw [zu_sm rfl]) (fun k k1 k2 => by rw [zu_dn (by omega)]; exact g1 k k1 k2)
    | succ j ih =>
      intro t M ht hBM hF g1 g2
      have e25 : M 25 2 = (N : Int) := (hF 25 2 rfl).trans hN
      have hc := b_cnt_le (x := x) t
      have hb : z_and (z_shr (x : Int) (t : Int)) 1 = if x.testBit t = true then 1 else 0 := z_bit (by omega) (by omega)
      refine zb10_4 hT rfl hBM (by omega) (by omega) (by omega) (fun q => by omega) (fun _ q => ?_) (fun _ _ => by omega) (fun _ q hz => ?_)
      · have e : x.testBit t = true := by
          by_cases e : x.testBit t = true
          · exact e
          · rw [hb, if_neg e] at q
            exact absurd rfl q
        have := ih (t + 1) M (by omega) hBM hF (fun k k1 k2 => ?_) (fun k k1 => g2 k (by omega))
        · rw [show t + 1 - b_cnt (t + 1) x = t - b_cnt t x by rw [b_cnt, if_pos e]; omega] at this
          exact this
        · by_cases ek : k = t
          · rw [ek, e] at k2
            cases k2
          · exact g1 k (by omega) k2
      · have e : ¬ x.testBit t = true := by
          intro e
          rw [hb, if_pos e] at q
          exact absurd q (by decide)
        have h1 : t + 1 - b_cnt (t + 1) x = t - b_cnt t x + 1 := by rw [b_cnt, if_neg e]; omega
        have := ih (t + 1) _ (by omega) hz (hF.set rfl) (fun k k1 k2 => ?_) (fun k k1 => ?_)
        · rw [h1] at this
          exact this
        · by_cases ek : k = t
          · rw [ek, zu_sm rfl, g2 t (Nat.le_refl t)]
          · have h2 := b_cnt_le (x := x) k
            have h3 := b_cnt_slow (x := x) (k + 1) t (by omega)
            have h4 : b_cnt (k + 1) x = b_cnt k x := by rw [b_cnt, k2]; rfl
            rw [zu_off (by omega), g1 k (by omega) k2]
        · rw [zu_off (by omega), g2 k (by omega)]
  refine zb10_0 (D := D) hT hB (by omega) ?_
  exact key N 0 m (by omega) hB zFr.refl (fun k k1 => by omega) (fun k _ => rfl)
/-- and out of the reference's -/
theorem z_takesS (hT : zRules T) {D : Nat} {κ : Option zA → zM → Prop} {m : zM} {x N r : Nat} (hB : zB m) (hN : m 75 56 = (N : Int)) (hx : x < 2 ^ N) (hr : r ≤ 20) (h38 : m 74 38 = (x : Int))
    (hk : ∀ m1, zB m1 → zFr (inL [(75, none)]) m m1 → m1 75 56 = ((N - b_cnt N x : Nat) : Int) → (∀ y, (y < 36 ∨ 56 < y) → m1 75 y = m 75 y) → (∀ k, k < N → x.testBit k = false → m1 75 (k - b_cnt k x + 36) = m 75 (k + 36)) → T (D + 4) 248 (41, [(0, zr 74), (2, zi (r : Int)), (3, zi (-1))], [], m1) κ) : T (D + 4) 248 (38, [(0, zr 74), (2, zi (r : Int))], [], m) κ := by
  have b56 : 0 ≤ m 75 56 ∧ m 75 56 ≤ 20 := hB 75 56
  have pn : 2 ^ N ≤ 2 ^ 20 := Nat.pow_le_pow_right (by omega) (by omega)
  have top : ∀ k, N ≤ k → x.testBit k = false := fun k hk => Nat.testBit_lt_two_pow (Nat.lt_of_lt_of_le hx (Nat.pow_le_pow_right (by omega) hk))
  have key : ∀ (i : Nat) (M : zM), i ≤ 20 → zB M → zFr (inL [(75, none)]) m M → M 75 56 = (N : Int) - (b_cnt N x - b_cnt i x : Nat) → (∀ y, (y < 36 ∨ 56 < y) → M 75 y = m 75 y) → (∀ k, k < N → k < i → M 75 (k + 36) = m 75 (k + 36)) → (∀ k, k < N → i ≤ k → x.testBit k = false → M 75 (k - (b_cnt k x - b_cnt i x) + 36) = m 75 (k + 36)) → T (D + 4) 248 (41, [(0, zr 74), (2, zi (r : Int)), (3, zi ((i : Int) - 1))], [], M) κ := by
    intro i
    induction i with
    | zero =>
      intro M hi hBM hF g0 g1 g2 g3
      have hc := b_cnt_le (x := x) N
      refine hk M hBM hF ?_ g1 (fun k k1 k2 => ?_)
      · rw [g0]
        show (N : Int) - ((b_cnt N x - 0 : Nat) : Int) = _
        omega
      · have := g3 k k1 (Nat.zero_le k) k2
        rwa [show b_cnt k x - b_cnt 0 x = b_cnt k x from Nat.sub_zero _] at this
    | succ i ih =>
      intro M hi hBM hF g0 g1 g2 g3
      have ei : ((i + 1 : Nat) : Int) - 1 = (i : Int) := by omega
      have e38 : M 74 38 = (x : Int) := (hF 74 38 rfl).trans h38
      have hb : z_and (z_shr (M 74 38) (((i + 1 : Nat) : Int) - 1)) 1 = if x.testBit i = true then 1 else 0 := by
        rw [ei, e38]
        exact z_bit (by omega) (by omega)
      refine zb248_41 hT rfl hBM hr (by omega) (fun q => by omega) (fun _ q => ?_) (fun _ q => ?_)
      · have e : x.testBit i = false := by
          cases e : x.testBit i with
          | false => rfl
          | true =>
            rw [hb, e] at q
            exact absurd rfl q
        have ec : b_cnt (i + 1) x = b_cnt i x := by rw [b_cnt, e]; rfl
        rw [ec] at g0 g3
        rw [show ((i + 1 : Nat) : Int) - 1 + -1 = (i : Int) - 1 by omega]
        refine ih M (by omega) hBM hF g0 g1 (fun k k1 k2 => g2 k k1 (by omega)) (fun k k1 k2 k3 => ?_)
        by_cases ek : k = i
        · rw [ek, Nat.sub_self, Nat.sub_zero]
          exact g2 i (by omega) (by omega)
        · exact g3 k k1 (by omega) k3
      · have e : x.testBit i = true := by
          cases e : x.testBit i with
          | true => rfl
          | false =>
            rw [hb, e] at q
            exact absurd q (by decide)
        have iN : i < N := by
          rcases Nat.lt_or_ge i N with h | h
          · exact h
          · rw [top i h] at e
            cases e
        have ec : b_cnt (i + 1) x = b_cnt i x + 1 := by rw [b_cnt, e]; rfl
        have hm := b_cnt_mono (x := x) (i + 1) N (by omega)
        have hs := b_cnt_slow (x := x) (i + 1) N (by omega)
        obtain ⟨S, hS⟩ : ∃ S : Nat, M 75 56 = (S : Int) := ⟨(M 75 56).toNat, by have := hBM 75 56; have h2 : 0 ≤ M 75 56 ∧ M 75 56 ≤ 20 := this; omega⟩
        rw [ei]
        refine z_takes1 (N := S) hT hBM hS (by omega) (fun m5 hB5 hF5 y1 y2 y3 => ?_)
        refine zb248_61 hT rfl hB5 hr (by omega) ?_
        rw [show (i : Int) + -1 = (i : Int) - 1 by omega]
        refine ih m5 (by omega) hB5 (hF.trans hF5) (by rw [y1]; omega) (fun y hy => by rw [y2 y hy, g1 y hy]) (fun k k1 k2 => ?_) (fun k k1 k2 k3 => ?_)
        · rw [y3 k (by omega), if_pos k2, g2 k k1 (by omega)]
        · have ek : ¬ k = i := fun q => by rw [q, e] at k3; cases k3
          have hm2 := b_cnt_mono (x := x) (i + 1) k (by omega)
          have hs2 := b_cnt_slow (x := x) (i + 1) k (by omega)
          have hm3 := b_cnt_mono (x := x) (k + 1) N (by omega)
          have hs3 := b_cnt_slow (x := x) (k + 1) N (by omega)
          have hk1 : b_cnt (k + 1) x = b_cnt k x := by rw [b_cnt, k3]; rfl
          have := g3 k k1 (by omega) k3
          rw [y3 _ (by omega), if_neg (by omega)]
          rw [show k - (b_cnt k x - b_cnt i x) + 37 = k - (b_cnt k x - b_cnt (i + 1) x) + 36 by omega]
          exact this
  refine zb248_38 hT rfl hB hr ?_
  have h22 := b_cnt_ge N 20 hx (by omega)
  have := key 20 m (by omega) hB zFr.refl (by rw [hN, h22]; omega) (fun _ _ => rfl) (fun _ _ _ => rfl) (fun k k1 k2 _ => by omega)
  exact this
/-- patches(), quilt(): what the class's Box says of v -/
theorem z_piecesFor (hT : zRules T) {D : Nat} {κ : Option zA → zM → Prop} {m : zM} {n : Nat} {v : Int} (hB : zB m) (hn : m 25 2 = (n : Int)) (hv : isI v)
    (hb : ¬ (1 ≤ v ∧ v ≤ 999) → κ (some (zi (-1))) m)
    (h0 : ∀ v0 : Nat, v = (v0 : Int) → 1 ≤ v0 → v0 ≤ 999 → b_non (b_pf (m 26)) n v0 → κ (some (zi (-2))) m)
    (h1 : ∀ (v0 w q : Nat) (M : zM), v = (v0 : Int) → 1 ≤ v0 → v0 ≤ 999 → zB M → zFr (inL [(27, none), (25, some 3), (25, some 4)]) m M → b_few (b_pf (m 26)) n v0 w → (v0 ≤ q ∧ b_mk (b_pf (m 26)) n w q = true) → (∀ s : Int, (v0 : Int) ≤ s → b_mk (b_pf (m 26)) n w s = true → (q : Int) ≤ s) → M 25 4 = (q : Int) → M 25 3 = (b_pick (b_pf (m 26)) n w q : Int) → κ (some (zi (w : Int))) M) : T (D + 4) 178 (0, [(0, zr 1), (1, zi v)], [], m) κ := by
  have b25 : 0 ≤ m 25 2 ∧ m 25 2 ≤ 20 := hB 25 2
  refine zb178_0 hT hB hv (fun _ => hb (by omega)) (fun q1 q2 => ?_) (fun _ _ => hb (by omega))
  obtain ⟨v0, rfl⟩ : ∃ a : Nat, v = (a : Int) := ⟨v.toNat, by omega⟩
  refine z_choose hT hB hn (by omega) (by omega) rfl (fun hnon => ?_) (fun w q M hBM hF g1 g2 g3 g4 g5 => ?_)
  · exact zb178_24 hT rfl (by omega) (h0 v0 rfl (by omega) (by omega) hnon)
  · have := g1.1
    exact zb178_24 hT rfl (by omega) (h1 v0 w q M rfl (by omega) (by omega) hBM hF g1 g2 g3 g4 g5)
theorem w_patches (hT : zRules T) {v : Int} (hv : isI v) : Way T 132 247 [(0, zr 1), (1, zi v)] [(0, zr 74), (1, zi v)] 5 4 B B True := by
  rintro D m sc ⟨n, k, hI⟩ κ hκ
  have hI0 := hI
  have i1 := hI.1
  have hRel := hI.2.2.2.1.2.2.2.1
  have b25 : 0 ≤ m 25 2 ∧ m 25 2 ≤ 20 := i1 25 2
  have e25 : m 25 2 = m 75 56 := hRel.2.2.1
  obtain ⟨N, hN⟩ : ∃ N : Nat, m 25 2 = (N : Int) := ⟨(m 25 2).toNat, by omega⟩
  have hfg : ∀ M : zM, M 75 = m 75 → ∀ i, i < N → b_pf (m 26) i = b_pc M i := fun M hM i hi => by
    show (if i < 20 then m 26 i else 0) = M 75 (i + 36)
    rw [if_pos (by omega), hM]
    exact hRel.2.2.2.1 i (by omega)
  have bad : ∀ M0, zB M0 → Agree coreK m M0 → ¬ (1 ≤ v ∧ v ≤ 999) → κ (some (zi (-1))) M0 := by
    intro M0 hB0 hA0 hno
    refine hκ _ _ (fun D2 κ2 h2 => ?_)
    have fin : zB (zu M0 74 12 0) → κ2 (some (zi (-1))) (zu M0 74 12 0) := fun hz => h2 _ _ (fun _ => rfl) ⟨n, k, Inv_fr (hA0.trans (.of (L := [(74, some 12)]) (zFr.refl.set rfl) rfl)) hz hI0⟩
    exact zb247_0 hT hB0 hv (fun _ hz => fin hz) (fun _ _ hz => fin hz) (fun q1 q2 => absurd ⟨by omega, by omega⟩ hno)
  refine zb132_0 hT i1 hv ?_
  refine z_piecesFor (n := N) hT i1 hN hv (fun hno => ?_) (fun v0 ev v1 v9 hnon => ?_) (fun v0 w q M ev v1 v9 hBM hF g1 g2 g3 g4 g5 => ?_)
  · exact zb132_5 hT rfl i1 hv (by omega) (fun _ => bad m i1 (fun _ _ _ => rfl) hno) (fun q => by omega)
  · subst ev
    refine zb132_5 hT rfl i1 hv (by omega) (fun _ => ?_) (fun q => by omega)
    refine hκ _ _ (fun D2 κ2 h2 => ?_)
    refine zb247_0 hT i1 hv (fun q => by omega) (fun _ q => by omega) (fun _ _ hz => ?_)
    refine z_findP (n := N) hT hz (by rw [zu_dn (by omega), ← e25, hN]) v9 v1 (fun M hBM hF _ => ?_) (fun w P M hBM hF g1 _ _ _ => ?_)
    · exact zb247_23 hT rfl hBM hv (by omega) (fun q => by omega) (fun _ => h2 _ _ (fun _ => rfl) ⟨n, k, Inv_fr ((Agree.of (L := [(74, some 12)]) (zFr.refl.set rfl) rfl).trans (.of hF rfl)) hBM hI0⟩)
    · exact (b_agree0 (hfg (zu m 74 12 0) (zu_dnR (by omega))) hnon g1).elim
  · subst ev
    have hw := g1.1
    refine zb132_5 hT rfl hBM hv (by omega) (fun q => by omega) (fun _ hz => ?_)
    refine hκ _ _ (fun D2 κ2 h2 => ?_)
    have hF1 : zFr (inL [(27, none), (25, some 3), (25, some 4), (72, some 1), (73, none)]) m (zu (zu (zu M 72 1 2) 73 0 ((M 25 4) - (v0 : Int))) 73 1 (M 25 3)) := (((hF.sub (inL_sub (by decide))).set rfl).set rfl).set rfl
    have x72 : (zu (zu (zu M 72 1 2) 73 0 ((M 25 4) - (v0 : Int))) 73 1 (M 25 3)) 72 1 = 2 := by simp (disch := decide) only [zu_sm, zu_off, zu_dn] <;> rfl
    generalize (zu (zu (zu M 72 1 2) 73 0 ((M 25 4) - (v0 : Int))) 73 1 (M 25 3)) = M1 at hz hF1 x72 ⊢
    have f75 : M1 75 = m 75 := funext fun j => hF1 75 j rfl
    refine zb247_0 hT hz hv (fun q => by omega) (fun _ q => by omega) (fun _ _ hz2 => ?_)
    have hF2 : zFr (inL [(27, none), (25, some 3), (25, some 4), (72, some 1), (73, none), (74, some 12)]) m (zu M1 74 12 0) := (hF1.sub (inL_sub (by decide))).set rfl
    refine z_findP (n := N) hT hz2 (by rw [zu_dn (by omega), f75, ← e25, hN]) v9 v1 (fun M3 hB3 hF3 hnon => ?_) (fun w2 P M3 hB3 hF3 g6 g7 _ _ => ?_)
    · exfalso
      obtain ⟨_, ⟨s, a, b⟩, _⟩ := g1
      have := hnon w s (by rw [← b_mk_fcongr N w s (hfg (zu M1 74 12 0) (by rw [zu_dnR (by omega)]; exact f75))]; exact b)
      omega
    · obtain ⟨rfl, -, -⟩ := b_agree (hfg (zu M1 74 12 0) (by rw [zu_dnR (by omega)]; exact f75)) g1 g6 g2 g3 g7
      refine zb247_23 hT rfl hB3 hv (by omega) (fun _ hz4 => ?_) (fun q => by omega)
      have g72 : M3 72 1 = 2 := (hF3 72 1 rfl).trans ((zu_dn (by decide)).trans x72)
      refine h2 _ _ (fun _ => rfl) ⟨n, k, Inv_row ((Agree.of hF2 rfl).trans ((Agree.of hF3 rfl).trans (.of (L := [(74, some 11), (81, none)]) (((((zFr.refl.set rfl).set rfl).set rfl).set rfl).set rfl) rfl))) hz4 (RowP.len (by simp (disch := decide) only [zu_sm, zu_off, zu_dn, g72] <;> rfl)) hI0⟩
theorem w_quilt (hT : zRules T) {v : Int} (hv : isI v) : Way T 133 248 [(0, zr 1), (1, zi v)] [(0, zr 74), (1, zi v)] 5 4 B B True := by
  rintro D m sc ⟨n, k, hI⟩ κ hκ
  have hI0 := hI
  obtain ⟨i1, i2, i3, i4, i5, i6, i7, i8, i9, i10, i11⟩ := hI
  obtain ⟨⟨n1, n2⟩, ⟨k1, k2⟩, hh, hRel, hok⟩ := i4
  have b17 : 0 ≤ m 17 0 ∧ m 17 0 ≤ 6 := i1 17 0
  have b171 : 0 ≤ m 17 1 ∧ m 17 1 ≤ 8 := i1 17 1
  have b25 : 0 ≤ m 25 2 ∧ m 25 2 ≤ 20 := i1 25 2
  have e25 : m 25 2 = m 75 56 := hRel.2.2.1
  have e79 : m 79 2 = m 24 2 := i5 2 (by omega)
  have b242 : 0 ≤ m 24 2 ∧ m 24 2 ≤ 9 := i1 24 2
  obtain ⟨N, hN⟩ : ∃ N : Nat, m 25 2 = (N : Int) := ⟨(m 25 2).toNat, by omega⟩
  have pn : 2 ^ N ≤ 2 ^ 20 := Nat.pow_le_pow_right (by omega) (by omega)
  have hfg : ∀ M : zM, M 75 = m 75 → ∀ i, i < N → b_pf (m 26) i = b_pc M i := fun M hM i hi => by
    show (if i < 20 then m 26 i else 0) = M 75 (i + 36)
    rw [if_pos (by omega), hM]
    exact hRel.2.2.2.1 i (by omega)
  refine zb133_0 hT i1 hv ?_
  refine z_piecesFor (n := N) hT i1 hN hv (fun hno => ?_) (fun v0 ev v1 v9 hnon => ?_) (fun v0 w q M ev v1 v9 hBM hF g1 g2 g3 g4 g5 => ?_)
  · refine zb133_5 hT rfl i1 hv (by omega) (fun q => by omega) (fun _ => ?_)
    refine hκ _ _ (fun D2 κ2 h2 => ?_)
    have fin : zB (zu m 74 12 0) → κ2 (some (zi (-1))) (zu m 74 12 0) := fun hz => h2 _ _ (fun _ => rfl) ⟨n, k, Inv_fr (.of (L := [(74, some 12)]) (zFr.refl.set rfl) rfl) hz hI0⟩
    exact zb248_0 hT i1 hv (fun _ hz => fin hz) (fun _ _ hz => fin hz) (fun q1 q2 => absurd ⟨by omega, by omega⟩ hno)
  · subst ev
    refine zb133_5 hT rfl i1 hv (by omega) (fun q => by omega) (fun _ => ?_)
    refine hκ _ _ (fun D2 κ2 h2 => ?_)
    refine zb248_0 hT i1 hv (fun q => by omega) (fun _ q => by omega) (fun _ _ hz => ?_)
    refine z_findP (n := N) hT hz (by rw [zu_dn (by omega), ← e25, hN]) v9 v1 (fun M hBM hF _ => ?_) (fun w P M hBM hF g1 _ _ _ => ?_)
    · exact zb248_23 hT rfl hBM hv (by omega) (fun q => by omega) (fun _ => h2 _ _ (fun _ => rfl) ⟨n, k, Inv_fr ((Agree.of (L := [(74, some 12)]) (zFr.refl.set rfl) rfl).trans (.of hF rfl)) hBM hI0⟩)
    · exact (b_agree0 (hfg (zu m 74 12 0) (zu_dnR (by omega))) hnon g1).elim
  · subst ev
    have hw := g1.1
    generalize hx : b_pick (b_pf (m 26)) N w q = x at g5
    have hxl : x < 2 ^ N := hx ▸ b_pick_lt N w q
    have hIM : Inv B sc n k M := Inv_fr (.of hF rfl) hBM hI0
    have f26 : M 26 = m 26 := funext fun j => hF 26 j rfl
    have f75 : M 75 = m 75 := funext fun j => hF 75 j rfl
    have gN : M 25 2 = (N : Int) := (hF 25 2 rfl).trans hN
    rw [← f26] at g1 g2 g3 hfg
    rw [← f75] at hfg
    clear i2 i3 i5 i6 i7 i8 i9 i10 i11 hh hRel hok n1 n2 k1 k2 hI0
    obtain ⟨i1', i2, i3, i4, i5, i6, i7, i8, i9, i10, i11⟩ := hIM
    have hIM : Inv B sc n k M := ⟨i1', i2, i3, i4, i5, i6, i7, i8, i9, i10, i11⟩
    obtain ⟨⟨n1, n2⟩, ⟨k1, k2⟩, hh, hRel, hok⟩ := i4
    have e79 : M 79 2 = M 24 2 := i5 2 (by omega)
    have b242 : 0 ≤ M 24 2 ∧ M 24 2 ≤ 9 := hBM 24 2
    have ct : b_cnt N x = w := by
      rw [← hx, ← f26]
      exact (b_pick_ok N w q g2.2).1
    have c17 : 0 ≤ M 17 0 ∧ M 17 0 ≤ 6 := hBM 17 0
    have c171 : 0 ≤ M 17 1 ∧ M 17 1 ≤ 8 := hBM 17 1
    refine zb133_5 hT rfl hBM hv (by omega) (fun _ => ?_) (fun q => by omega)
    refine z_remC hT hBM (fun m1 hB1 hF1 hC => ?_)
    refine zb133_17 (w := w) hT rfl hB1 (by omega) (fun hz => ?_)
    have x3 : m1 25 3 = (x : Int) := (hF1 25 3 rfl).trans g5
    rw [x3]
    have hFa : zFr (inL (remCL ++ [(17, some 12), (17, some 13), (17, some 14)])) M (zu (zu (zu (zu m1 17 12 0) 17 13 0) 17 14 0) 17 13 ((w : Int) - 1)) := ((((hF1.sub (inL_sub (by decide))).set rfl).set rfl).set rfl).set rfl
    have hFb : zFr (inL [(17, some 12), (17, some 13), (17, some 14)]) m1 (zu (zu (zu (zu m1 17 12 0) 17 13 0) 17 14 0) 17 13 ((w : Int) - 1)) := (((zFr.refl.set rfl).set rfl).set rfl).set rfl
    have a12 : (zu (zu (zu (zu m1 17 12 0) 17 13 0) 17 14 0) 17 13 ((w : Int) - 1)) 17 12 = 0 := by rw [zu_off (by omega), zu_off (by omega), zu_off (by omega), zu_sm rfl]
    have a13 : (zu (zu (zu (zu m1 17 12 0) 17 13 0) 17 14 0) 17 13 ((w : Int) - 1)) 17 13 = (w : Int) - 1 := by rw [zu_sm rfl]
    generalize (zu (zu (zu (zu m1 17 12 0) 17 13 0) 17 14 0) 17 13 ((w : Int) - 1)) = Ma at hz hFa hFb a12 a13 ⊢
    refine z_takeOutS (D := D + 3) (N := N) (x := x) hT hz ((hFa 25 2 rfl).trans gN) (by omega) (fun m2 hB2 hF2 g6 g7 => ?_)
    rw [ct] at g6
    have c12 : m2 17 12 = 0 := (hF2 17 12 rfl).trans a12
    have c13 : m2 17 13 = (w : Int) - 1 := (hF2 17 13 rfl).trans a13
    have c24 : m2 24 2 = M 24 2 := (hF2 24 2 rfl).trans (hFa 24 2 rfl)
    refine zb133_48 hT rfl hB2 (fun hz3 => ?_)
    have ev : wr (((m2 17 12) * (m2 24 1)) + ((m2 17 13) * (m2 24 2))) = ((w : Int) - 1) * M 24 2 := by
      have hb := z_mulB ((w : Int) - 1) (M 24 2) 19 9 171 (by omega) (by omega) (by omega) (by omega) rfl
      rw [c12, c13, c24, Int.zero_mul, Int.zero_add]
      exact wr_id (by omega) (by omega)
    have hb := z_mulB ((w : Int) - 1) (M 24 2) 19 9 171 (by omega) (by omega) (by omega) (by omega) rfl
    rw [ev] at hz3 ⊢
    generalize hcost : ((w : Int) - 1) * M 24 2 = cst at hb hz3 ⊢
    refine hκ _ _ (fun D2 κ2 h2 => ?_)
    have hFc : zFr (inL (remCL ++ [(17, some 10), (17, some 12), (17, some 13), (17, some 14), (25, some 2), (26, none)])) M (zu m2 17 10 (m2 17 10 - cst)) := ((hFa.sub (inL_sub (by decide))).trans (hF2.sub (inL_sub (by decide)))).set rfl
    have hFd : zFr (inL [(17, some 10), (17, some 12), (17, some 13), (17, some 14), (25, some 2), (26, none)]) m1 (zu m2 17 10 (m2 17 10 - cst)) := ((hFb.sub (inL_sub (by decide))).trans (hF2.sub (inL_sub (by decide)))).set rfl
    have d10 : (zu m2 17 10 (m2 17 10 - cst)) 17 10 = M 17 10 - cst := by rw [zu_sm rfl, hF2 17 10 rfl, hFa 17 10 rfl]
    have d25 : (zu m2 17 10 (m2 17 10 - cst)) 25 2 = ((N - w : Nat) : Int) := by rw [zu_dn (by omega), g6]
    have d26 : ∀ j, j < N → x.testBit j = false → (zu m2 17 10 (m2 17 10 - cst)) 26 (j - b_cnt j x) = M 26 j := fun j j1 j2 => by rw [zu_dn (by omega), g7 j j1 j2, hFa 26 j rfl]
    generalize (zu m2 17 10 (m2 17 10 - cst)) = Mc at hz3 hFc hFd d10 d25 d26 ⊢
    refine zb248_0 hT hz3 hv (fun q => by omega) (fun _ q => by omega) (fun _ _ hz4 => ?_)
    have hFe : zFr (inL (remCL ++ [(17, some 10), (17, some 12), (17, some 13), (17, some 14), (25, some 2), (26, none), (74, some 12)])) M (zu Mc 74 12 0) := (hFc.sub (inL_sub (by decide))).set rfl
    have hFf : zFr (inL [(17, some 10), (17, some 12), (17, some 13), (17, some 14), (25, some 2), (26, none), (74, some 12)]) m1 (zu Mc 74 12 0) := (hFd.sub (inL_sub (by decide))).set rfl
    have l10 : (zu Mc 74 12 0) 17 10 = M 17 10 - cst := by rw [zu_dn (by omega), d10]
    have l25 : (zu Mc 74 12 0) 25 2 = ((N - w : Nat) : Int) := by rw [zu_dn (by omega), d25]
    have l26 : ∀ j, j < N → x.testBit j = false → (zu Mc 74 12 0) 26 (j - b_cnt j x) = M 26 j := fun j j1 j2 => by rw [zu_dn (by omega), d26 j j1 j2]
    generalize (zu Mc 74 12 0) = Me at hz4 hFe hFf l10 l25 l26 ⊢
    have r75 : Me 75 = M 75 := funext fun j => hFe 75 j rfl
    have n56 : M 75 56 = (N : Int) := hRel.2.2.1.symm.trans gN
    refine z_findP (n := N) hT hz4 (by rw [r75, n56]) v9 v1 (fun M3 hB3 hF3 hnon => ?_) (fun w2 P M3 hB3 hF3 g8 g9 s38 _ => ?_)
    · exfalso
      obtain ⟨_, ⟨s, a, b⟩, _⟩ := g1
      have := hnon w s (by rw [← b_mk_fcongr N w s (hfg Me r75)]; exact b)
      omega
    obtain ⟨rfl, eP, -⟩ := b_agree (hfg Me r75) g1 g8 g2 g3 g9
    rw [f26, hx] at eP
    subst eP
    have hF3b : zFr (inL (remCL ++ [(17, some 10), (17, some 12), (17, some 13), (17, some 14), (25, some 2), (26, none), (74, some 12), (74, some 38), (74, some 39), (90, none)])) M M3 := (hFe.sub (inL_sub (by decide))).trans (hF3.sub (inL_sub (by decide)))
    have hF3c : zFr (inL [(17, some 10), (17, some 12), (17, some 13), (17, some 14), (25, some 2), (26, none), (74, some 12), (74, some 38), (74, some 39), (90, none)]) m1 M3 := (hFf.sub (inL_sub (by decide))).trans (hF3.sub (inL_sub (by decide)))
    have t75 : M3 75 = M 75 := funext fun j => hF3b 75 j rfl
    refine zb248_23 hT rfl hB3 hv (by omega) (fun _ => ?_) (fun q => by omega)
    refine z_remR_75 hT hB3 (fun m4 hB4 hF4 hR => ?_)
    rw [t75] at hR
    have hF4b : zFr (inL [(74, some 35), (87, none)]) M3 m4 := hF4.sub remWL
    have u75 : m4 75 = M 75 := (funext fun j => hF4b 75 j rfl).trans t75
    refine z_takesS (N := N) (x := x) (r := w) hT hB4 (by rw [u75, n56]) hxl (by omega) ((hF4b 74 38 rfl).trans s38) (fun m5 hB5 hF5 y1 y2 y3 => ?_)
    rw [ct] at y1
    refine zb248_41 (w := w) (i := -1) hT rfl hB5 (by omega) (by omega) (fun _ hz6 => ?_) (fun q => by omega) (fun q => by omega)
    have e5 : m5 79 2 * ((w : Int) - 1) = cst := by
      rw [hF5 79 2 rfl, hF4b 79 2 rfl, hF3b 79 2 rfl, e79, Int.mul_comm]
      exact hcost
    have ew5 : wr cst = cst := wr_id (by omega) (by omega)
    rw [e5] at hz6 ⊢
    rw [ew5]
    have t4 : zFr (inL [(75, none)]) m4 (zu m5 75 58 (m5 75 58 - cst)) := hF5.set rfl
    have z75 : ∀ j, (j < 36 ∨ j = 57) → (zu m5 75 58 (m5 75 58 - cst)) 75 j = M 75 j := fun j hj => by rw [zu_off (by omega), y2 j (by omega), u75]
    have z58 : (zu m5 75 58 (m5 75 58 - cst)) 75 58 = M 75 58 - cst := by rw [zu_sm rfl, y2 58 (by omega), u75]
    have z56 : (zu m5 75 58 (m5 75 58 - cst)) 75 56 = ((N - w : Nat) : Int) := by rw [zu_off (by omega), y1]
    have zbx : ∀ j, j < N → x.testBit j = false → (zu m5 75 58 (m5 75 58 - cst)) 75 (j - b_cnt j x + 36) = M 75 (j + 36) := fun j j1 j2 => by rw [zu_off (by omega), y3 j j1 j2, u75]
    generalize (zu m5 75 58 (m5 75 58 - cst)) = Mz at hz6 t4 z75 z58 z56 zbx ⊢
    have hFz : zFr (inL (remCL ++ [(17, some 10), (17, some 12), (17, some 13), (17, some 14), (25, some 2), (26, none), (74, some 12), (74, some 35), (74, some 38), (74, some 39), (75, none), (87, none), (90, none)])) M Mz := ((hF3b.sub (inL_sub (by decide))).trans (hF4b.sub (inL_sub (by decide)))).trans (t4.sub (inL_sub (by decide)))
    have hFy : zFr (inL [(74, some 35), (74, some 38), (74, some 39), (75, none), (87, none), (90, none)]) Me Mz := ((hF3.sub (inL_sub (by decide))).trans (hF4b.sub (inL_sub (by decide)))).trans (t4.sub (inL_sub (by decide)))
    refine h2 _ _ (fun _ => rfl) ⟨n, k, ?_⟩
    have hh' : HouseRel n k Mz := by
      refine ⟨⟨(hFz 17 0 rfl).trans n1, (hFz 74 4 rfl).trans n2⟩, ⟨(hFz 17 1 rfl).trans k1, (hFz 74 6 rfl).trans k2⟩, fun p hp => ?_, ?_, ?_⟩
      · rw [hFz 78 p rfl, hFz 18 p rfl]
        exact hh p hp
      · obtain ⟨r1, r2, r3, r4, r5, r6⟩ := hRel
        refine ⟨fun p hp => ?_, fun c hc => ?_, ?_, fun j hj => ?_, ?_, ?_⟩
        · rw [hFz 19 p rfl, hFz 20 p rfl, z75 p (by omega), z75 (p + 6) (by omega)]
          exact r1 p hp
        · rw [hFz 21 c rfl, hFz 22 c rfl, hFz 23 c rfl, z75 (c + 12) (by omega), z75 (c + 20) (by omega), z75 (c + 28) (by omega)]
          exact r2 c hc
        · rw [hFy 25 2 rfl, l25, z56]
        · rw [z56] at hj
          obtain ⟨y, y4, y5, y6⟩ := b_left (x := x) N j (by omega)
          rw [← y6, hFy 26 _ rfl, l26 y y4 y5, zbx y y4 y5]
          exact r4 y (by omega)
        · rw [hFz 17 11 rfl, z75 57 (by omega)]
          exact r5
        · rw [hFy 17 10 rfl, l10, z58, r6]
      · refine ⟨fun p hp => ?_, by rw [z56]; omega, by rw [z75 57 (by omega)]; exact hok.2.2.1, fun c hc => by rw [z75 (c + 20) (by omega)]; exact hok.2.2.2 c hc⟩
        rw [z75 p (by omega), z75 (p + 6) (by omega)]
        exact hok.1 p hp
    refine Inv_hu hIM hz6 (.of hFz rfl) hh' ?_ (by rw [z75 57 (by omega)]; exact i10)
    have a1 : Agree remCL m1 Mz := (Agree.of hFf rfl).trans (.of hFy rfl)
    have hF3d : zFr (inL (remCL ++ [(17, some 10), (17, some 12), (17, some 13), (17, some 14), (25, some 2), (26, none), (74, some 12), (74, some 38), (74, some 39), (90, none)])) M M3 := hF3b
    exact Undo_rem (by omega) (by omega) i6 hRel hok i10 hC a1 (.of hF3d rfl) (.of t4 rfl) hR
end ZQuilt
