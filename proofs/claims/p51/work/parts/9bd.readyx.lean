/-! ready(): how many, by both: as many as there are cloths so long, length by length. -/
/-- how many of the first t of S have the law v -/
noncomputable def cnP (lw : Nat → Int) (S : Nat) (v : Int) : Nat → Nat
  | 0 => 0
  | t + 1 => cnP lw S v t + (if S.testBit t = true ∧ lw t = v then 1 else 0)
/-- how many of the first t cloths that are not in U are v long -/
noncomputable def cnC (ln : Nat → Int) (U : Nat) (v : Int) : Nat → Nat
  | 0 => 0
  | t + 1 => cnC ln U v t + (if U.testBit t = false ∧ ln t = v then 1 else 0)
theorem cnP_del {lw : Nat → Int} {S S2 p : Nat} {v : Int} (hb : S.testBit p = true) : ∀ t : Nat, (∀ q, q < t → S2.testBit q = (S.testBit q && !(Nat.beq q p))) → cnP lw S v t = cnP lw S2 v t + (if p < t ∧ lw p = v then 1 else 0)
  | 0, _ => by rw [cnP, cnP, if_neg (fun y => Nat.not_lt_zero p y.1)]
  | t + 1, h => by
    have ih := cnP_del (lw := lw) (v := v) hb t (fun q hq => h q (by omega))
    have ht := h t (by omega)
    rw [cnP, cnP, ih, ht]
    by_cases e : t = p
    · subst e
      rw [Nat.beq_refl, hb, if_neg (fun y => Nat.lt_irrefl t y.1)]
      by_cases q : lw t = v
      · rw [if_pos ⟨rfl, q⟩, if_neg (fun y => by cases y.1), if_pos ⟨Nat.lt_succ_self t, q⟩]
      · rw [if_neg (fun y => q y.2), if_neg (fun y => q y.2), if_neg (fun y => q y.2)]
    · have e2 : Nat.beq t p = false := by
        cases h : Nat.beq t p with
        | false => rfl
        | true => exact absurd (Nat.eq_of_beq_eq_true h) e
      rw [e2, Bool.not_false, Bool.and_true]
      have ad : (if p < t ∧ lw p = v then 1 else 0) = (if p < t + 1 ∧ lw p = v then 1 else 0) := by
        by_cases q : p < t ∧ lw p = v
        · exact (if_pos q).trans (if_pos ⟨by have := q.1; omega, q.2⟩ : (if p < t + 1 ∧ lw p = v then 1 else 0) = 1).symm
        · exact (if_neg q).trans (if_neg (fun y => q ⟨by have := y.1; omega, y.2⟩) : (if p < t + 1 ∧ lw p = v then 1 else 0) = 0).symm
      rw [ad]
      exact Nat.add_right_comm _ _ _
theorem cnC_add {ln : Nat → Int} {U c : Nat} {v : Int} (hb : U.testBit c = false) : ∀ t : Nat, cnC ln U v t = cnC ln (U ||| 2 ^ c) v t + (if c < t ∧ ln c = v then 1 else 0)
  | 0 => by rw [cnC, cnC, if_neg (fun y => Nat.not_lt_zero c y.1)]
  | t + 1 => by
    rw [cnC, cnC, cnC_add hb t, Nat.testBit_or, Nat.testBit_two_pow]
    by_cases e : c = t
    · subst e
      rw [hb, if_neg (fun y => Nat.lt_irrefl c y.1)]
      by_cases q : ln c = v
      · rw [if_pos ⟨rfl, q⟩, if_neg (fun y => by simp at y), if_pos ⟨Nat.lt_succ_self c, q⟩]
      · rw [if_neg (fun y => q y.2), if_neg (fun y => q y.2), if_neg (fun y => q y.2)]
    · rw [decide_eq_false e, Bool.or_false]
      have ad : (if c < t ∧ ln c = v then 1 else 0) = (if c < t + 1 ∧ ln c = v then 1 else 0) := by
        by_cases q : c < t ∧ ln c = v
        · exact (if_pos q).trans (if_pos ⟨by have := q.1; omega, q.2⟩ : (if c < t + 1 ∧ ln c = v then 1 else 0) = 1).symm
        · exact (if_neg q).trans (if_neg (fun y => q ⟨by have := y.1; omega, y.2⟩) : (if c < t + 1 ∧ ln c = v then 1 else 0) = 0).symm
      rw [ad]
      exact Nat.add_right_comm _ _ _
theorem cnC_pos {ln : Nat → Int} {U : Nat} {v : Int} : ∀ t : Nat, 1 ≤ cnC ln U v t → ∃ c, c < t ∧ U.testBit c = false ∧ ln c = v
  | 0, h => by rw [cnC] at h; omega
  | t + 1, h => by
    by_cases q : U.testBit t = false ∧ ln t = v
    · exact ⟨t, by omega, q.1, q.2⟩
    · rw [cnC, if_neg q] at h
      obtain ⟨c, c1, c2⟩ := cnC_pos t (by omega)
      exact ⟨c, by omega, c2⟩
theorem cnC_ge {ln : Nat → Int} {U c : Nat} {v : Int} (hb : U.testBit c = false) (hv : ln c = v) {t : Nat} (hc : c < t) : 1 ≤ cnC ln U v t := by
  rw [cnC_add hb t, if_pos ⟨hc, hv⟩]
  omega
theorem cnC_none {ln : Nat → Int} {U : Nat} {v : Int} {t : Nat} (h : ∀ c, c < t → U.testBit c = false → ¬ ln c = v) : cnC ln U v t = 0 := by
  by_cases q : cnC ln U v t = 0
  · exact q
  · obtain ⟨c, c1, c2, c3⟩ := cnC_pos (ln := ln) (U := U) (v := v) t (by omega)
    exact absurd c3 (h c c1 c2)
theorem cnP_mono {lw : Nat → Int} {S O : Nat} {v : Int} : ∀ t : Nat, (∀ p, p < t → S.testBit p = true → lw p = v → O.testBit p = true) → cnP lw S v t ≤ cnP lw O v t
  | 0, _ => Nat.le_refl 0
  | t + 1, h => by
    have ih := cnP_mono (lw := lw) (v := v) t (fun p hp => h p (by omega))
    rw [cnP, cnP]
    by_cases q : S.testBit t = true ∧ lw t = v
    · rw [if_pos q, if_pos ⟨h t (by omega) q.1 q.2, q.2⟩]
      omega
    · rw [if_neg q]
      omega
/-- all of S can be dressed, those of U being given away -/
noncomputable def Ry (n k : Nat) (lw ln : Nat → Int) (S U : Nat) : Prop := ∀ v : Int, cnP lw S v n ≤ cnC ln U v k
theorem Ry_step {n k : Nat} {lw ln : Nat → Int} {S S2 U p : Nat} (hp : p < n) (hb : S.testBit p = true) (h2 : ∀ q, q < n → S2.testBit q = (S.testBit q && !(Nat.beq q p))) : Ry n k lw ln S U ↔ ∃ c, c < k ∧ U.testBit c = false ∧ ln c = lw p ∧ Ry n k lw ln S2 (U ||| 2 ^ c) := by
  have hd := fun v => cnP_del (lw := lw) (v := v) hb n h2
  constructor
  · intro h
    have h1 := h (lw p)
    rw [hd (lw p), if_pos ⟨hp, rfl⟩] at h1
    obtain ⟨c, c1, c2, c3⟩ := cnC_pos (ln := ln) (U := U) (v := lw p) k (by omega)
    refine ⟨c, c1, c2, c3, fun v => ?_⟩
    have h3 := h v
    rw [hd v, cnC_add c2 k] at h3
    by_cases e : lw p = v
    · rw [if_pos ⟨hp, e⟩, if_pos ⟨c1, c3.trans e⟩] at h3
      omega
    · rw [if_neg (fun y => e y.2), if_neg (fun y => e (c3.symm.trans y.2))] at h3
      omega
  · rintro ⟨c, c1, c2, c3, c4⟩ v
    have h3 := c4 v
    rw [hd v, cnC_add c2 k]
    by_cases e : lw p = v
    · rw [if_pos ⟨hp, e⟩, if_pos ⟨c1, c3.trans e⟩]
      omega
    · rw [if_neg (fun y => e y.2), if_neg (fun y => e (c3.symm.trans y.2))]
      omega
noncomputable def sV (f : Nat → Nat) : Nat → Nat
  | 0 => 0
  | t + 1 => sV f t + f t
theorem sV_le {f g : Nat → Nat} (h : ∀ v, f v ≤ g v) : ∀ t : Nat, sV f t ≤ sV g t
  | 0 => Nat.le_refl 0
  | t + 1 => by
    have := sV_le h t
    have := h t
    rw [sV, sV]
    omega
theorem sV_add {f g h : Nat → Nat} (e : ∀ v, h v = f v + g v) : ∀ t : Nat, sV h t = sV f t + sV g t
  | 0 => rfl
  | t + 1 => by
    have := sV_add e t
    have := e t
    rw [sV, sV, sV]
    omega
theorem sV_0 : ∀ t : Nat, sV (fun _ => 0) t = 0
  | 0 => rfl
  | t + 1 => by rw [sV, sV_0 t]
theorem sV_1 {w : Int} (h0 : 0 ≤ w) : ∀ t : Nat, sV (fun v => if w = (v : Int) then 1 else 0) t = (if w < (t : Int) then 1 else 0)
  | 0 => by
    rw [sV, if_neg (by omega)]
  | t + 1 => by
    rw [sV, sV_1 h0 t]
    by_cases e : w = (t : Int)
    · rw [if_neg (by omega), if_pos e, if_pos (by omega)]
    · by_cases q : w < (t : Int)
      · rw [if_pos q, if_neg e, if_pos (by omega)]
      · rw [if_neg q, if_neg e, if_neg (by omega)]
theorem cnP_sum {lw : Nat → Int} {S : Nat} (hl : ∀ p, 0 ≤ lw p ∧ lw p ≤ 99) : ∀ t : Nat, sV (fun v => cnP lw S (v : Int) t) 100 = pcn S t
  | 0 => sV_0 100
  | t + 1 => by
    have ih := cnP_sum (S := S) hl t
    rw [pcn]
    by_cases q : S.testBit t = true
    · rw [if_pos q, ← ih]
      have h1 := sV_add (f := fun v => cnP lw S (v : Int) t) (g := fun v => if lw t = (v : Int) then 1 else 0) (h := fun v => cnP lw S (v : Int) (t + 1)) (fun v => by
        rw [cnP]
        by_cases e : lw t = (v : Int)
        · rw [if_pos ⟨q, e⟩, if_pos e]
        · rw [if_neg (fun y => e y.2), if_neg e]) 100
      rw [h1, sV_1 (hl t).1 100, if_pos (by have := (hl t).2; omega)]
    · rw [if_neg q]
      have e : (fun v : Nat => cnP lw S (v : Int) (t + 1)) = (fun v : Nat => cnP lw S (v : Int) t) := funext fun v => by
        rw [cnP, if_neg (fun y => q y.1), Nat.add_zero]
      exact (congrArg (fun F => sV F 100) e).trans ih
theorem bst_spec {P : Nat → Prop} : ∀ (j x b : Nat), popc8 b ≤ popc8 (bst P j x b) ∧ (∀ y, x ≤ y → y < x + j → P y → popc8 y ≤ popc8 (bst P j x b)) ∧ (bst P j x b = b ∨ (P (bst P j x b) ∧ x ≤ bst P j x b ∧ bst P j x b < x + j))
  | 0, x, b => ⟨Nat.le_refl _, fun y h1 h2 => by omega, Or.inl rfl⟩
  | j + 1, x, b => by
    by_cases h : P x ∧ popc8 b < popc8 x
    · obtain ⟨g1, g2, g3⟩ := bst_spec (P := P) j (x + 1) x
      rw [bst_yes h.1 h.2]
      refine ⟨by omega, fun y h1 h2 hy => ?_, ?_⟩
      · by_cases e : y = x
        · rw [e]; exact g1
        · exact g2 y (by omega) (by omega) hy
      · rcases g3 with e | ⟨e1, e2, e3⟩
        · rw [e]
          exact Or.inr ⟨h.1, by omega, by omega⟩
        · exact Or.inr ⟨e1, by omega, by omega⟩
    · obtain ⟨g1, g2, g3⟩ := bst_spec (P := P) j (x + 1) b
      rw [bst_no (by
        by_cases q : P x
        · exact Or.inr (fun y => h ⟨q, y⟩)
        · exact Or.inl q)]
      refine ⟨g1, fun y h1 h2 hy => ?_, ?_⟩
      · by_cases e : y = x
        · rw [e] at hy ⊢
          have : ¬ popc8 b < popc8 x := fun y => h ⟨hy, y⟩
          omega
        · exact g2 y (by omega) (by omega) hy
      · rcases g3 with e | ⟨e1, e2, e3⟩
        · exact Or.inl e
        · exact Or.inr ⟨e1, by omega, by omega⟩
noncomputable def lowB (x i : Nat) : Bool := x.testBit i && (List.range 6).all (fun q => (x &&& (x - 1)).testBit q == (x.testBit q && !(Nat.beq q i)))
theorem lowB_0 : ∀ x : Nat, x < 64 → ¬ x = 0 → z_and (z_xor (x : Int) (-1)) ((x : Int) - 1) = 0 → lowB x 0 = true := by decide +kernel
theorem lowB_1 : ∀ x : Nat, x < 64 → ¬ x = 0 → z_and (z_xor (x : Int) (-1)) ((x : Int) - 1) = 1 → lowB x 1 = true := by decide +kernel
theorem lowB_2 : ∀ x : Nat, x < 64 → ¬ x = 0 → z_and (z_xor (x : Int) (-1)) ((x : Int) - 1) = 3 → lowB x 2 = true := by decide +kernel
theorem lowB_3 : ∀ x : Nat, x < 64 → ¬ x = 0 → z_and (z_xor (x : Int) (-1)) ((x : Int) - 1) = 7 → lowB x 3 = true := by decide +kernel
theorem lowB_4 : ∀ x : Nat, x < 64 → ¬ x = 0 → z_and (z_xor (x : Int) (-1)) ((x : Int) - 1) = 15 → lowB x 4 = true := by decide +kernel
theorem lowB_5 : ∀ x : Nat, x < 64 → ¬ x = 0 → z_and (z_xor (x : Int) (-1)) ((x : Int) - 1) = 31 → lowB x 5 = true := by decide +kernel
theorem lowB_S {x i : Nat} (h : lowB x i = true) : x.testBit i = true ∧ ∀ q, q < 6 → (x &&& (x - 1)).testBit q = (x.testBit q && !(Nat.beq q i)) := by
  unfold lowB at h
  rw [Bool.and_eq_true] at h
  refine ⟨h.1, fun q hq => ?_⟩
  have := List.all_eq_true.mp h.2 q (List.mem_range.mpr hq)
  exact eq_of_beq this
section ZReadyX
variable {T : Nat → Nat → zG → (Option zA → zM → Prop) → Prop} {B : Int}
theorem z_ntz (hT : zRules T) {D : Nat} {κ : Option zA → zM → Prop} {m : zM} {x n : Nat} (hn : n ≤ 6) (hx : x < 2 ^ n) (h0 : ¬ x = 0) (hk : ∀ t : Nat, t < n → lowB x t = true → κ (some (zi (t : Int))) m) : T (D + 1) 292 (0, [(0, zi (x : Int))], [], m) κ := by
  have p6 : 2 ^ n ≤ 2 ^ 6 := Nat.pow_le_pow_right (by omega) (by omega)
  have h := zb292_0 (D := D) (κ := κ) (m := m) (x := x) hT (by omega)
  have e1 : z_ush 31 4 = 1 := by decide +kernel
  rcases ntz_n x (by omega) h0 with e | e | e | e | e | e
  · have hg := hk 0 (ntz_b0 n (by omega) x hx h0 e) (lowB_0 x (by omega) h0 e)
    have go : ∀ v : Int, v = ((0 : Nat) : Int) → κ (some (zi v)) m := fun v hv => by rw [hv]; exact hg
    rw [e] at h
    apply h
    all_goals (intros; first | omega | exact go _ (by decide +kernel))
  · have hg := hk 1 (ntz_b1 n (by omega) x hx h0 e) (lowB_1 x (by omega) h0 e)
    have go : ∀ v : Int, v = ((1 : Nat) : Int) → κ (some (zi v)) m := fun v hv => by rw [hv]; exact hg
    rw [e] at h
    apply h
    all_goals (intros; first | omega | exact go _ (by decide +kernel))
  · have hg := hk 2 (ntz_b2 n (by omega) x hx h0 e) (lowB_2 x (by omega) h0 e)
    have go : ∀ v : Int, v = ((2 : Nat) : Int) → κ (some (zi v)) m := fun v hv => by rw [hv]; exact hg
    rw [e] at h
    apply h
    all_goals (intros; first | omega | exact go _ (by decide +kernel))
  · have hg := hk 3 (ntz_b3 n (by omega) x hx h0 e) (lowB_3 x (by omega) h0 e)
    have go : ∀ v : Int, v = ((3 : Nat) : Int) → κ (some (zi v)) m := fun v hv => by rw [hv]; exact hg
    rw [e] at h
    apply h
    all_goals (intros; first | omega | exact go _ (by decide +kernel))
  · have hg := hk 4 (ntz_b4 n (by omega) x hx h0 e) (lowB_4 x (by omega) h0 e)
    have go : ∀ v : Int, v = ((4 : Nat) : Int) → κ (some (zi v)) m := fun v hv => by rw [hv]; exact hg
    rw [e] at h
    apply h
    all_goals (intros; first | omega | exact go _ (by decide +kernel))
  · have hg := hk 5 (ntz_b5 n (by omega) x hx h0 e) (lowB_5 x (by omega) h0 e)
    have go : ∀ v : Int, v = ((5 : Nat) : Int) → κ (some (zi v)) m := fun v hv => by rw [hv]; exact hg
    rw [e, e1] at h
    apply h
    all_goals (intros; first | omega | exact go _ (by decide +kernel))
theorem z_canReadyX (hT : zRules T) {m : zM} {sc : zSc} {n k : Nat} (hI : Inv B sc n k m) : ∀ (j : Nat) (D : Nat) (κ : Option zA → zM → Prop) (M : zM) (x u : Nat), popc x ≤ j → x < 2 ^ n → u ≤ 255 → zB M → (Agree coreK0 m M ∧ M 72 1 = 1) →
    (∀ v M1, ((v = 1 ∧ Ry n k (lawN m) (fun c => m 75 (c + 12)) x u) ∨ (v = 0 ∧ ¬ Ry n k (lawN m) (fun c => m 75 (c + 12)) x u)) → zB M1 → (Agree coreK0 m M1 ∧ M1 72 1 = 1) → κ (some (zi v)) M1) → T (D + j + 172) 265 (0, [(0, zr 74), (1, zi (x : Int)), (2, zi (u : Int))], [], M) κ := by
  have i1 := hI.1
  have h4 := hI.2.2.2.1
  have b17 : 0 ≤ m 17 0 ∧ m 17 0 ≤ 6 := i1 17 0
  have b171 : 0 ≤ m 17 1 ∧ m 17 1 ≤ 8 := i1 17 1
  have n1 := h4.1.1
  have k1 := h4.2.1.1
  have k2 := h4.2.1.2
  have p6 : 2 ^ n ≤ 2 ^ 6 := Nat.pow_le_pow_right (by omega) (by omega)
  have r0 : ∀ u, Ry n k (lawN m) (fun c => m 75 (c + 12)) 0 u := fun u v => by
    have : ∀ t, cnP (lawN m) 0 v t = 0 := by
      intro t
      induction t with
      | zero => rfl
      | succ t ih => rw [cnP, ih, Nat.zero_testBit, if_neg (fun y => by cases y.1)]
    rw [this n]
    exact Nat.zero_le _
  intro j
  induction j with
  | zero =>
    intro D κ M x u hx hxn hu hBM hA hk
    have x0 : x = 0 := by
      by_cases e : x = 0
      · exact e
      · have := popc_low x (by omega) e
        omega
    subst x0
    exact zb265_0 (D := D + 170) hT hBM (by omega) hu (fun q => absurd rfl q) (fun _ => hk 1 M (Or.inl ⟨rfl, r0 u⟩) hBM hA)
  | succ j ih =>
    intro D κ M x u hx hxn hu hBM hA hk
    by_cases x0 : x = 0
    · subst x0
      exact zb265_0 (D := D + j + 171) hT hBM (by omega) hu (fun q => absurd rfl q) (fun _ => hk 1 M (Or.inl ⟨rfl, r0 u⟩) hBM hA)
    refine zb265_0 (D := D + j + 171) hT hBM (by omega) hu (fun _ => ?_) (fun q => by omega)
    refine z_ntz (D := D + j + 171) (n := n) hT (by omega) hxn x0 (fun t ht hlow => ?_)
    obtain ⟨hb, hb2⟩ := lowB_S hlow
    have en : z_and (x : Int) ((x : Int) - 1) = ((x &&& (x - 1) : Nat) : Int) := by
      rw [show (x : Int) - 1 = ((x - 1 : Nat) : Int) by omega, z_andN (by omega) (by omega)]
    have hstep := Ry_step (n := n) (k := k) (lw := lawN m) (ln := fun c => m 75 (c + 12)) (U := u) ht hb (fun q hq => hb2 q (by omega))
    refine zb265_10 (D := D + j + 171) hT rfl hBM (by omega) hu (by omega) ?_
    have loop : ∀ (i c : Nat) (M : zM), c + i = k → zB M → (Agree coreK0 m M ∧ M 72 1 = 1) → (¬ ∃ c1, c1 < c ∧ u.testBit c1 = false ∧ m 75 (c1 + 12) = lawN m t ∧ Ry n k (lawN m) (fun c => m 75 (c + 12)) (x &&& (x - 1)) (u ||| 2 ^ c1)) → T (D + j + 173) 265 (14, [(0, zr 74), (1, zi (x : Int)), (2, zi (u : Int)), (3, zi (t : Int)), (4, zi (c : Int))], [], M) κ := by
      intro i
      induction i with
      | zero =>
        intro c M hc hBM hA hno
        have ec : c = k := by omega
        subst ec
        have e6 : M 74 6 = (c : Int) := (hA.1 74 6 rfl).trans k2
        exact zb265_14 (D := D + j + 171) hT rfl hBM (by omega) hu (by omega) (by omega) (fun _ => hk 0 M (Or.inr ⟨rfl, fun w => hno (hstep.mp w)⟩) hBM hA) (fun q => by omega) (fun q => by omega)
      | succ i ih2 =>
        intro c M hc hBM hA hno
        have e6 : M 74 6 = (k : Int) := (hA.1 74 6 rfl).trans k2
        have nx : ∀ M1, zB M1 → (Agree coreK0 m M1 ∧ M1 72 1 = 1) → ¬ (u.testBit c = false ∧ m 75 (c + 12) = lawN m t ∧ Ry n k (lawN m) (fun c => m 75 (c + 12)) (x &&& (x - 1)) (u ||| 2 ^ c)) → T (D + j + 173) 265 (14, [(0, zr 74), (1, zi (x : Int)), (2, zi (u : Int)), (3, zi (t : Int)), (4, zi ((c : Int) + 1))], [], M1) κ := fun M1 h1 h2 h3 => ih2 (c + 1) M1 (by omega) h1 h2 (fun ⟨c1, y1, y2⟩ => by
          by_cases e : c1 = c
          · rw [e] at y2
            exact h3 y2
          · exact hno ⟨c1, by omega, y2⟩)
        have b12 : -1 ≤ M 75 (c + 12) ∧ M 75 (c + 12) ≤ 99 := zSg hBM 75 12 20 (-1) 99 rfl (c + 12) (by omega) (by omega)
        have bpl := (h4.2.2.2.2.1 t (by omega)).1
        obtain ⟨pl, hpl⟩ : ∃ pl : Nat, m 75 t = (pl : Int) := ⟨(m 75 t).toNat, by omega⟩
        have eL : laF m t pl 0 = lawN m t := by
          unfold laF lawN
          rw [show m 17 11 + ((0 : Nat) : Int) = m 17 11 by omega, hpl, Int.toNat_natCast]
        refine zb265_14 (D := D + j + 171) hT rfl hBM (by omega) hu (by omega) (by omega) (fun q => by omega) (fun _ qu => ?_) (fun _ qu => nx M hBM hA (fun y => by
          rw [zbt2 (x := u) (c := c) (by omega) (by omega) qu] at y
          cases y.1))
        have hbu := zbt1 (x := u) (c := c) (by omega) (by omega) qu
        refine z_lawInF (d := 0) (pl := pl) (D := D + j + 1) hT hI hBM (hA.1.sub (fun q hq => List.mem_append.mpr (Or.inr (List.mem_append.mpr (Or.inl hq))))) (funext fun j => hA.1 78 j rfl) (hA.1 75 57 rfl) (by omega) ((hA.1 75 t rfl).trans hpl) (by omega) (fun M1 hB1 hF1 => ?_)
        have hA1 : (Agree coreK0 m M1 ∧ M1 72 1 = 1) := ⟨hA.1.trans (.of hF1 rfl), (hF1 72 1 rfl).trans hA.2⟩
        have e12 : M 75 (c + 12) = m 75 (c + 12) := hA.1 75 (c + 12) rfl
        refine zb265_48 (D := D + j + 171) hT rfl hB1 (by omega) hu (by omega) (by omega) b12 laFB (fun q => nx M1 hB1 hA1 (fun y => q (by rw [e12, eL]; exact y.2.1))) (fun q => ?_)
        rw [e12, eL] at q
        have eo : z_or (u : Int) (z_shl 1 (c : Int)) = ((u ||| 2 ^ c : Nat) : Int) := by
          have p8 : 2 ^ c ≤ 2 ^ 8 := Nat.pow_le_pow_right (by omega) (by omega)
          rw [z_shl1T c (by omega), z_orN (by omega) (by omega)]
        have ho : u ||| 2 ^ c < 2 ^ 8 := Nat.or_lt_two_pow (by omega) (Nat.pow_lt_pow_right (by omega) (by omega))
        have hl : x &&& (x - 1) ≤ x := Nat.and_le_left
        have hp := popc_low x (by omega) x0
        rw [en, eo]
        refine ih D _ M1 (x &&& (x - 1)) (u ||| 2 ^ c) (by omega) (by omega) (by omega) hB1 hA1 (fun v M2 hv hB2 hA2 => ?_)
        have hv1 : 0 ≤ v ∧ v ≤ 1 := by
          rcases hv with h | h <;> omega
        refine zb265_66 (D := D + j + 171) hT rfl hB2 (by omega) hu (by omega) (by omega) hv1 (fun q3 => ?_) (fun q3 => ?_)
        · rcases hv with h | h
          · omega
          · exact nx M2 hB2 hA2 (fun y => h.2 y.2.2)
        · rcases hv with h | h
          · exact hk 1 M2 (Or.inl ⟨rfl, hstep.mpr ⟨c, by omega, hbu, q, h.2⟩⟩) hB2 hA2
          · omega
    exact loop k 0 M (by omega) hBM hA (fun ⟨c1, y1, _⟩ => absurd y1 (Nat.not_lt_zero c1))
theorem w_ready (hT : zRules T) : Way T 145 266 [(0, zr 1)] [(0, zr 74)] 5 179 B B True := by
  rintro D m sc ⟨n, k, hI⟩ κ hκ
  have hI0 := hI
  obtain ⟨i1, i2, i3, i4, i5, i6, i7, i8, i9, i10, i11⟩ := hI
  obtain ⟨⟨n1, n2⟩, ⟨k1, k2⟩, hh, hRel, hok⟩ := i4
  have b17 : 0 ≤ m 17 0 ∧ m 17 0 ≤ 6 := i1 17 0
  have b171 : 0 ≤ m 17 1 ∧ m 17 1 ≤ 8 := i1 17 1
  have p6 : 2 ^ n ≤ 2 ^ 6 := Nat.pow_le_pow_right (by omega) (by omega)
  have p1 : 1 ≤ 2 ^ n := Nat.one_le_two_pow
  have lN : ∀ p, 0 ≤ lawN m p ∧ lawN m p ≤ 99 := fun p => by unfold lawN; exact LWB
  have ref : ∀ (r : Nat) (M0 : zM), r = popc8 (bst (fun x => Ry n k (lawN m) (fun c => m 75 (c + 12)) x 0) (2 ^ n - 1) 1 0) → zB M0 → Agree coreK0 m M0 → M0 72 1 = 1 → κ (some (zi (r : Int))) M0 := by
    intro r M0 hr hB0 hA0 h72
    refine hκ _ _ (fun D2 κ2 h2 => ?_)
    have fin : ∀ (x : Nat) M1, x = r → zB M1 → Agree coreK0 m M1 → RowP M1 → κ2 (some (zi (x : Int))) M1 := fun x M1 e hB1 hA1 hr => h2 _ _ (fun _ => by rw [e]) ⟨n, k, Inv_row hA1 hB1 hr hI0⟩
    refine zb266_0 (D := D2 + 176) hT hB0 (fun hz => ?_)
    have loop : ∀ (j x b : Nat) (M : zM), x + j = 2 ^ n → b ≤ 63 → zB M → (Agree coreK0 m M ∧ M 72 1 = 1) → bst (fun x => Ry n k (lawN m) (fun c => m 75 (c + 12)) x 0) j x b = bst (fun x => Ry n k (lawN m) (fun c => m 75 (c + 12)) x 0) (2 ^ n - 1) 1 0 → T (D2 + 179) 266 (9, [(0, zr 74), (1, zi (b : Int)), (2, zi (x : Int))], [], M) κ2 := by
      intro j
      induction j with
      | zero =>
        intro x b M hx hb hBM hA he
        rw [bst] at he
        have eb9 : popc8 b = r := by rw [hr, he]
        have e4 : z_shl 1 (M 74 4) = ((2 ^ n : Nat) : Int) := by rw [hA.1 74 4 rfl, n2, z_shl1T n (by omega)]
        generalize 2 ^ n = N at p6 hx e4
        refine zb266_9 (D := D2 + 176) hT rfl hBM hb (by omega) (fun _ hz2 => ?_) (fun q => by omega)
        refine z_bitCount (D := D2 + 177) hT (by omega) ?_
        have := popc8_8 b (by omega)
        exact zb266_61 (D := D2 + 176) hT rfl (by omega) (fin _ _ eb9 hz2 (hA.1.trans (.of (L := [(74, some 11), (81, none)]) (((zFr.refl.set rfl).set rfl).set rfl) rfl)) (RowP.len (by simp (disch := decide) only [zu_sm, zu_off, zu_dn, hA.2] <;> rfl)))
      | succ j ih =>
        intro x b M hx hb hBM hA he
        have e4 : z_shl 1 (M 74 4) = ((2 ^ n : Nat) : Int) := by rw [hA.1 74 4 rfl, n2, z_shl1T n (by omega)]
        have hxn : x < 2 ^ n := by omega
        have hx63 : x ≤ 63 := by omega
        have hlt : (x : Int) < z_shl 1 (M 74 4) := by
          rw [e4]
          exact Int.ofNat_lt.mpr hxn
        have q1 := popc8_8 b (by omega)
        have q2 := popc8_8 x (by omega)
        refine zb266_9 (D := D2 + 176) hT rfl hBM hb (by omega) (fun q => absurd hlt q) (fun _ => ?_)
        refine z_bitCount (D := D2 + 177) hT (by omega) ?_
        refine zb266_23 (D := D2 + 176) hT rfl hBM hb hx63 (by omega) ?_
        refine z_bitCount (D := D2 + 177) hT (by omega) ?_
        refine zb266_27 (D := D2 + 176) hT rfl hBM hb hx63 (by omega) (by omega) (fun q => ih (x + 1) b M (by omega) hb hBM hA (by rw [← he, bst_no (Or.inr (by omega))])) (fun q => ?_)
        have hp := popc_6 x (by omega)
        refine z_canReadyX hT hI0 6 D2 _ M x 0 hp hxn (by omega) hBM hA (fun v M1 hv hB1 hA1 => ?_)
        have hv1 : 0 ≤ v ∧ v ≤ 1 := by
          rcases hv with h | h <;> omega
        refine zb266_36 (D := D2 + 176) hT rfl hB1 hb hx63 hv1 (fun q3 => ?_) (fun q3 => ?_)
        · rcases hv with h | h
          · omega
          · exact ih (x + 1) b M1 (by omega) hb hB1 hA1 (by rw [← he, bst_no (P := fun x => Ry n k (lawN m) (fun c => m 75 (c + 12)) x 0) (Or.inl h.2)])
        · rcases hv with h | h
          · exact ih (x + 1) x M1 (by omega) hx63 hB1 hA1 (by rw [← he, bst_yes (P := fun x => Ry n k (lawN m) (fun c => m 75 (c + 12)) x 0) h.2 (by omega)])
          · omega
    exact loop (2 ^ n - 1) 1 0 _ (by omega) (by omega) hz ⟨hA0.trans (.of (L := [(74, some 12)]) (zFr.refl.set rfl) rfl), (zu_dn (by decide)).trans h72⟩ rfl
  -- what was found length by length is the most
  have most : ∀ o w : Nat, o < 2 ^ n → (∀ v : Int, cnP (lawN m) o v n + cnC (fun c => m 75 (c + 12)) w v k = cnC (fun c => m 75 (c + 12)) 0 v k) → (∀ v : Int, (∀ p, p < n → lawN m p = v → o.testBit p = true) ∨ cnC (fun c => m 75 (c + 12)) w v k = 0) → popc8 o = popc8 (bst (fun x => Ry n k (lawN m) (fun c => m 75 (c + 12)) x 0) (2 ^ n - 1) 1 0) := by
    intro o w ho ha hb
    obtain ⟨g1, g2, g3⟩ := bst_spec (P := fun x => Ry n k (lawN m) (fun c => m 75 (c + 12)) x 0) (2 ^ n - 1) 1 0
    have hPo : Ry n k (lawN m) (fun c => m 75 (c + 12)) o 0 := fun v => by
      have := ha v
      omega
    have le1 : popc8 o ≤ popc8 (bst (fun x => Ry n k (lawN m) (fun c => m 75 (c + 12)) x 0) (2 ^ n - 1) 1 0) := by
      by_cases e : o = 0
      · rw [e]
        exact g1
      · exact g2 o (by omega) (by omega) hPo
    generalize bst (fun x => Ry n k (lawN m) (fun c => m 75 (c + 12)) x 0) (2 ^ n - 1) 1 0 = r at g3 le1 ⊢
    have le2 : popc8 r ≤ popc8 o := by
      rcases g3 with e | ⟨e1, e2, e3⟩
      · rw [e]
        have : popc8 0 = 0 := by decide
        omega
      · have hrn : r < 2 ^ n := by omega
        rw [← pcn_eq n (by omega) r (by omega) hrn, ← pcn_eq n (by omega) o (by omega) ho, ← cnP_sum (S := r) lN n, ← cnP_sum (S := o) lN n]
        refine sV_le (fun v => ?_) 100
        rcases hb (v : Int) with q | q
        · exact cnP_mono n (fun p hp _ hv => q p hp hv)
        · have h1 := e1 (v : Int)
          have h2 := ha (v : Int)
          omega
    omega
  have loop : ∀ (j t w o : Nat) (M : zM), t + j = n → w < 2 ^ k → o < 2 ^ t → zB M → zFr (inL [(13, none)]) m M → (∀ v : Int, cnP (lawN m) o v n + cnC (fun c => m 75 (c + 12)) w v k = cnC (fun c => m 75 (c + 12)) 0 v k) → (∀ v : Int, (∀ p, p < t → lawN m p = v → o.testBit p = true) ∨ cnC (fun c => m 75 (c + 12)) w v k = 0) → T (D + 5) 145 (6, [(0, zr 1), (1, zi (w : Int)), (2, zi (o : Int)), (3, zi (t : Int))], [], M) κ := by
    have pk : 2 ^ k ≤ 2 ^ 8 := Nat.pow_le_pow_right (by omega) (by omega)
    intro j
    induction j with
    | zero =>
      intro t w o M ht hw ho hBM hF ha hb
      have et : t = n := by omega
      subst et
      have e17 : M 17 0 = (t : Int) := (hF 17 0 rfl).trans n1
      refine zb145_6 hT rfl hBM (by omega) (by omega) (by omega) (fun _ hz => ?_) (fun q => by omega)
      refine z_bitCount (D := D + 3) hT (by omega) ?_
      have := popc8_8 o (by omega)
      exact zb145_69 hT rfl (by omega) (ref _ _ (most o w ho ha hb) hz ((Agree.of hF rfl).trans (.of (L := [(72, some 1), (73, none)]) ((zFr.refl.set rfl).set rfl) rfl)) (by simp (disch := decide) only [zu_sm, zu_off, zu_dn] <;> rfl))
    | succ j ih =>
      intro t w o M ht hw ho hBM hF ha hb
      have e17 : M 17 0 = (n : Int) := (hF 17 0 rfl).trans n1
      have pt : 2 ^ t ≤ 2 ^ 6 := Nat.pow_le_pow_right (by omega) (by omega)
      have pt1 : 2 ^ (t + 1) = 2 ^ t + 2 ^ t := by rw [Nat.pow_succ]; omega
      obtain ⟨r1, r2⟩ := hRel.1 t (by omega)
      have h18 := (hh t (by omega)).2
      have bpl := (hok.1 t (by omega)).1
      obtain ⟨pl, hpl⟩ : ∃ pl : Nat, m 75 t = (pl : Int) := ⟨(m 75 t).toNat, by omega⟩
      have hA : Agree KL m M := .of hF rfl
      refine zb145_6 hT rfl hBM (by omega) (by omega) (by omega) (fun q => by omega) (fun _ => ?_)
      refine z_lawNow (pl := pl) hT hBM (by omega) (by rw [hF 18 t rfl]; omega) (by rw [hF 19 t rfl]; omega) (by omega) (hA.law.1 i3).1 (fun M1 hB1 hF1 => ?_)
      have hFa := hF.trans (hF1.sub rowL13)
      have ev : LW M (M 18 t) (t : Int) pl (M 17 11) = lawN m t := by
        unfold lawN
        rw [hA.law.2, hF 18 t rfl, hF 17 11 rfl, hpl, Int.toNat_natCast]
      rw [ev]
      have hl := lN t
      refine zb145_26 hT rfl hB1 (by omega) (by omega) (by omega) hl ?_
      have hot : o.testBit t = false := Nat.testBit_lt_two_pow ho
      -- none is so long
      have none5 : cnC (fun c => m 75 (c + 12)) w (lawN m t) k = 0 → T (D + 5) 145 (30, [(0, zr 1), (1, zi (w : Int)), (2, zi (o : Int)), (3, zi (t : Int))], [zi (-1)], M1) κ := fun h0 => by
        refine zb145_30 hT rfl hB1 (by omega) (by omega) (by omega) (by omega) (fun _ => ih (t + 1) w o M1 (by omega) hw (by omega) hB1 hFa ha (fun v => ?_)) (fun q => absurd rfl q)
        by_cases e : lawN m t = v
        · rw [← e]
          exact Or.inr h0
        · refine (hb v).imp (fun q p hp hv => ?_) id
          by_cases e2 : p = t
          · rw [e2] at hv
            exact absurd hv e
          · exact q p (by omega) hv
      have some5 : ∀ c : Nat, c < k → w.testBit c = false → m 75 (c + 12) = lawN m t → T (D + 5) 145 (30, [(0, zr 1), (1, zi (w : Int)), (2, zi (o : Int)), (3, zi (t : Int))], [zi (c : Int)], M1) κ := fun c hc hcb hcl => by
        refine zb145_30 hT rfl hB1 (by omega) (by omega) (by omega) (by omega) (fun q => by omega) (fun _ => ?_)
        have p8 : 2 ^ c ≤ 2 ^ 7 := Nat.pow_le_pow_right (by omega) (by omega)
        have ho3 : o ||| 2 ^ t < 2 ^ (t + 1) := Nat.or_lt_two_pow (by omega) (by omega)
        rw [z_shl1T c (by omega), z_shl1T t (by omega), z_orN (by omega) (by omega), z_orN (by omega) (by omega)]
        have hob : ∀ q, (o ||| 2 ^ t).testBit q = (o.testBit q || decide (t = q)) := fun q => by rw [Nat.testBit_or, Nat.testBit_two_pow]
        have hP := fun v => cnP_del (lw := lawN m) (S := o ||| 2 ^ t) (S2 := o) (p := t) (v := v) (by rw [hob]; simp) n (fun q hq => by
          rw [hob]
          by_cases e : q = t
          · rw [e, hot, Nat.beq_refl]
            simp
          · have e2 : Nat.beq q t = false := by
              cases h : Nat.beq q t with
              | false => rfl
              | true => exact absurd (Nat.eq_of_beq_eq_true h) e
            rw [e2, decide_eq_false (fun y => e y.symm)]
            simp)
        have hC := fun v => cnC_add (ln := fun c => m 75 (c + 12)) (v := v) hcb k
        refine ih (t + 1) (w ||| 2 ^ c) (o ||| 2 ^ t) M1 (by omega) (or_2p hw hc) ho3 hB1 hFa (fun v => ?_) (fun v => ?_)
        · have h1 := ha v
          rw [hC v] at h1
          rw [hP v]
          by_cases e : lawN m t = v
          · rw [if_pos ⟨hc, hcl.trans e⟩] at h1
            rw [if_pos ⟨by omega, e⟩]
            omega
          · rw [if_neg (fun y => e (hcl.symm.trans y.2))] at h1
            rw [if_neg (fun y => e y.2)]
            omega
        · rcases hb v with q | q
          · refine Or.inl (fun p hp hv => ?_)
            rw [hob]
            by_cases e2 : p = t
            · rw [e2]
              simp
            · rw [q p (by omega) hv]
              rfl
          · by_cases e : lawN m t = v
            · have := cnC_ge (ln := fun c => m 75 (c + 12)) hcb (hcl.trans e) hc
              omega
            · refine Or.inr ?_
              rw [hC v] at q
              omega
      have find : ∀ (i c : Nat), c + i = k → (∀ c1, c1 < c → w.testBit c1 = false → ¬ m 75 (c1 + 12) = lawN m t) → T (D + 4) 31 (2, [(0, zr 17), (1, zi (lawN m t)), (2, zi (w : Int)), (3, zi (c : Int))], [], M1) (fun r m1 => T (D + 5) 145 (30, [(0, zr 1), (1, zi (w : Int)), (2, zi (o : Int)), (3, zi (t : Int))], r.toList ++ [], m1) κ) := by
        intro i
        induction i with
        | zero =>
          intro c hc hno
          have ec : c = k := by omega
          subst ec
          have e171 : M1 17 1 = (c : Int) := (hFa 17 1 rfl).trans k1
          exact zb31_2 (D := D + 3) hT rfl hB1 hl (by omega) (by omega) (fun _ => none5 (cnC_none hno)) (fun q => by omega) (fun q => by omega) (fun q => by omega)
        | succ i ih2 =>
          intro c hc hno
          have e171 : M1 17 1 = (k : Int) := (hFa 17 1 rfl).trans k1
          have e21 : M1 21 c = m 75 (c + 12) := (hFa 21 c rfl).trans (hRel.2.1 c (by omega)).1
          have nx : (w.testBit c = true ∨ ¬ m 75 (c + 12) = lawN m t) → T (D + 4) 31 (2, [(0, zr 17), (1, zi (lawN m t)), (2, zi (w : Int)), (3, zi ((c : Int) + 1))], [], M1) (fun r m1 => T (D + 5) 145 (30, [(0, zr 1), (1, zi (w : Int)), (2, zi (o : Int)), (3, zi (t : Int))], r.toList ++ [], m1) κ) := fun h => ih2 (c + 1) (by omega) (fun c1 y1 y2 => by
            by_cases e : c1 = c
            · rw [e] at y2 ⊢
              rcases h with h | h
              · rw [h] at y2
                cases y2
              · exact h
            · exact hno c1 (by omega) y2)
          refine zb31_2 (D := D + 3) hT rfl hB1 hl (by omega) (by omega) (fun q => by omega) (fun _ q => nx (Or.inl (bit_yes8 (x := w) (t := c) (by omega) (by omega) q))) (fun _ q q2 => nx (Or.inr (by rw [← e21]; exact q2))) (fun _ q q2 => some5 c (by omega) (bit_no8 (x := w) (t := c) (by omega) (by omega) q) (by rw [← e21]; exact q2))
      exact zb31_0 (D := D + 3) hT hB1 hl (by omega) (find k 0 (by omega) (fun c1 y1 => absurd y1 (Nat.not_lt_zero c1)))
  refine zb145_0 hT i1 (loop n 0 0 0 m (by omega) (Nat.two_pow_pos k) (by rw [Nat.pow_zero]; omega) i1 zFr.refl (fun v => ?_) (fun v => Or.inl (fun p hp => absurd hp (Nat.not_lt_zero p))))
  have : ∀ t, cnP (lawN m) 0 v t = 0 := by
    intro t
    induction t with
    | zero => rfl
    | succ t ih => rw [cnP, ih, Nat.zero_testBit, if_neg (fun y => by cases y.1)]
  rw [this n, Nat.zero_add]
end ZReadyX
