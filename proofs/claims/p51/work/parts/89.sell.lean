/-! sell(). -/
theorem tb_pow (i t : Nat) : (2 ^ i).testBit t = decide (i = t) := Nat.testBit_two_pow
section ZSell
variable {T : Nat → Nat → zG → (Option zA → zM → Prop) → Prop} {B : Int}
/-- a piece is taken out of the class's box -/
theorem z_takeOut1 (hT : zRules T) {D : Nat} {κ : Option zA → zM → Prop} {m : zM} {i N : Nat} (hB : zB m) (hN : m 25 2 = (N : Int)) (hi : i < N)
    (hk : ∀ m1, zB m1 → zFr (inL [(25, some 2), (26, none)]) m m1 → m1 25 2 = (N : Int) - 1 → (∀ j, j + 1 < N → m1 26 j = if j < i then m 26 j else m 26 (j + 1)) → κ none m1) : T (D + 1) 10 (0, [(0, zr 25), (1, zi (z_shl 1 (i : Int)))], [], m) κ := by
  have b25 : 0 ≤ m 25 2 ∧ m 25 2 ≤ 20 := hB 25 2
  have p20 : 2 ^ i ≤ 2 ^ 20 := Nat.pow_le_pow_right (by omega) (by omega)
  rw [z_shl1T i (by omega)]
  generalize hbp : 2 ^ i = b at p20 ⊢
  have key : ∀ (j t l : Nat) (M : zM), t + j = N → l = (if t ≤ i then t else t - 1) → zB M → zFr (inL [(26, none)]) m M → (∀ x, x < 20 → M 26 x = if i ≤ x ∧ x < l then m 26 (x + 1) else m 26 x) → T (D + 1) 10 (4, [(0, zr 25), (1, zi (b : Int)), (2, zi (l : Int)), (3, zi (t : Int))], [], M) κ := by
    intro j
    induction j with
    | zero =>
      intro t l M ht hl hBM hF hx
      have et : t = N := by omega
      subst et
      rw [if_neg (by omega)] at hl
      have e25 : M 25 2 = (t : Int) := (hF 25 2 rfl).trans hN
      refine zb10_4 hT rfl hBM (by omega) (by omega) (by omega) (fun _ hz => ?_) (fun q => by omega) (fun q => by omega) (fun q => by omega)
      refine hk _ hz ((hF.sub (inL_sub (by decide))).set rfl) (by rw [zu_sm rfl]; omega) (fun x hx2 => ?_)
      rw [zu_dn (by omega), hx x (by omega)]
      by_cases e : x < i
      · rw [if_pos e, if_neg (by omega)]
      · rw [if_neg e, if_pos (by omega)]
    | succ j ih =>
      intro t l M ht hl hBM hF hx
      have e25 : M 25 2 = (N : Int) := (hF 25 2 rfl).trans hN
      have hl2 : l ≤ t := by
        rw [hl]
        split <;> omega
      have hb : z_and (z_shr (b : Int) (t : Int)) 1 = if i = t then 1 else 0 := by
        rw [z_bit (by omega) (by omega), ← hbp, tb_pow]
        by_cases e : i = t
        · rw [decide_eq_true e, if_pos rfl, if_pos e]
        · rw [decide_eq_false e, if_neg (by simp), if_neg e]
      refine zb10_4 hT rfl hBM (by omega) (by omega) (by omega) (fun q => by omega) (fun _ q => ?_) (fun _ _ => by omega) (fun _ q hz => ?_)
      · rw [hb] at q
        have e : i = t := by
          by_cases e : i = t
          · exact e
          · rw [if_neg e] at q
            exact absurd rfl q
        rw [if_pos (by omega)] at hl
        exact ih (t + 1) l M (by omega) (by rw [if_neg (by omega)]; omega) hBM hF hx
      · rw [hb] at q
        have e : ¬ i = t := by
          intro e
          rw [if_pos e] at q
          exact absurd q (by decide)
        refine ih (t + 1) (l + 1) _ (by omega) ?_ hz (hF.set rfl) (fun x hx2 => ?_)
        · by_cases e2 : t ≤ i
          · rw [if_pos e2] at hl
            rw [if_pos (by omega)]
            omega
          · rw [if_neg e2] at hl
            rw [if_neg (by omega)]
            omega
        · rw [zu_at, hx t (by omega), hx x hx2]
          by_cases e2 : t ≤ i
          · rw [if_pos e2] at hl
            rw [if_neg (show ¬ (i ≤ t ∧ t < l) by omega), if_neg (show ¬ (i ≤ x ∧ x < l) by omega), if_neg (show ¬ (i ≤ x ∧ x < l + 1) by omega)]
            by_cases e3 : x = l
            · rw [if_pos e3, e3, hl]
            · rw [if_neg e3]
          · rw [if_neg e2] at hl
            rw [if_neg (show ¬ (i ≤ t ∧ t < l) by omega)]
            by_cases e3 : x = l
            · rw [if_pos e3, if_pos (by omega), e3, hl, show t - 1 + 1 = t by omega]
            · rw [if_neg e3]
              by_cases e4 : i ≤ x ∧ x < l
              · rw [if_pos e4, if_pos (by omega)]
              · rw [if_neg e4, if_neg (by omega)]
  refine zb10_0 (D := D) hT hB (by omega) ?_
  exact key N 0 0 m (by omega) (by rw [if_pos (by omega)]) hB zFr.refl (fun x _ => by rw [if_neg (by omega)])
/-- and out of the reference's -/
theorem z_takes1 (hT : zRules T) {D : Nat} {κ : Option zA → zM → Prop} {m : zM} {i N : Nat} (hB : zB m) (hN : m 75 56 = (N : Int)) (hi : i < N)
    (hk : ∀ m1, zB m1 → zFr (inL [(75, none)]) m m1 → m1 75 56 = (N : Int) - 1 → (∀ x, (x < 36 ∨ 56 < x) → m1 75 x = m 75 x) → (∀ j, j + 1 < N → m1 75 (j + 36) = if j < i then m 75 (j + 36) else m 75 (j + 37)) → κ none m1) : T (D + 1) 243 (0, [(0, zr 74), (1, zi (i : Int))], [], m) κ := by
  have b56 : 0 ≤ m 75 56 ∧ m 75 56 ≤ 20 := hB 75 56
  have key : ∀ (j t : Nat) (M : zM), t + j + 1 = N → i ≤ t → zB M → zFr (inL [(75, none)]) m M → (∀ x, M 75 x = if i + 36 ≤ x ∧ x < t + 36 then m 75 (x + 1) else m 75 x) → T (D + 1) 243 (2, [(0, zr 74), (2, zi (t : Int))], [], M) κ := by
    intro j
    induction j with
    | zero =>
      intro t M ht hit hBM hF hx
      have e56 : M 75 56 = (N : Int) := by rw [hx 56, if_neg (by omega), hN]
      refine zb243_2 hT rfl hBM (by omega) (fun _ => ?_) (fun q => by omega)
      refine hk _ (zB_u hBM ?_) (hF.set rfl) (by rw [zu_sm rfl, e56]) (fun x hx2 => ?_) (fun x hx2 => ?_)
      · show 0 ≤ M 75 56 - 1 ∧ M 75 56 - 1 ≤ 20
        omega
      · rw [zu_off (by omega), hx x, if_neg (by omega)]
      · rw [zu_off (by omega), hx (x + 36)]
        by_cases e : x < i
        · rw [if_pos e, if_neg (by omega)]
        · rw [if_neg e, if_pos (by omega)]
    | succ j ih =>
      intro t M ht hit hBM hF hx
      have e56 : M 75 56 = (N : Int) := by rw [hx 56, if_neg (by omega), hN]
      refine zb243_2 hT rfl hBM (by omega) (fun q => by omega) (fun _ hz => ?_)
      refine ih (t + 1) _ (by omega) (by omega) hz (hF.set rfl) (fun x => ?_)
      rw [zu_at, hx x, hx (t + 37), if_neg (show ¬ (i + 36 ≤ t + 37 ∧ t + 37 < t + 36) by omega)]
      by_cases e : x = t + 36
      · rw [if_pos e, if_pos (by omega), e]
      · rw [if_neg e]
        by_cases e4 : i + 36 ≤ x ∧ x < t + 36
        · rw [if_pos e4, if_pos (by omega)]
        · rw [if_neg e4, if_neg (by omega)]
  exact zb243_0 hT hB (by omega) (key (N - 1 - i) i m (by omega) (Nat.le_refl i) hB zFr.refl (fun x => by rw [if_neg (by omega)]))
theorem w_sell (hT : zRules T) {p v : Int} (hp : isI p) (hv : isI v) : Way T 131 244 [(0, zr 1), (1, zi p), (2, zi v)] [(0, zr 74), (1, zi p), (2, zi v)] 4 3 B B True := by
  rintro D m sc ⟨n, k, hI⟩ κ hκ
  have hI0 := hI
  obtain ⟨i1, i2, i3, i4, i5, i6, i7, i8, i9, i10, i11⟩ := hI
  have hB1 : zB (zu m 74 12 0) := zB_u i1 trivial
  have hA12 : Agree coreK m (zu m 74 12 0) := .of (L := [(74, some 12)]) (zFr.refl.set rfl) rfl
  obtain ⟨⟨n1, n2⟩, ⟨k1, k2⟩, hh, hRel, hok⟩ := i4
  have b17 : 0 ≤ m 17 0 ∧ m 17 0 ≤ 6 := i1 17 0
  have b171 : 0 ≤ m 17 1 ∧ m 17 1 ≤ 8 := i1 17 1
  have b25 : 0 ≤ m 25 2 ∧ m 25 2 ≤ 20 := i1 25 2
  have e25 : m 25 2 = m 75 56 := hRel.2.2.1
  have no : ¬ (0 ≤ p ∧ p < m 25 2 ∧ 0 ≤ v ∧ v ≤ 9) → κ (some (zi (-1))) m := by
    intro hno
    refine hκ _ _ (fun D2 κ2 h2 => ?_)
    have fin : κ2 (some (zi (-1))) (zu m 74 12 0) := h2 _ _ (fun _ => rfl) ⟨n, k, Inv_fr hA12 hB1 hI0⟩
    refine zb244_0 hT i1 hp hv ?_ ?_ ?_ ?_ ?_
    · exact fun _ _ => fin
    · exact fun _ _ _ => fin
    · exact fun _ _ _ _ => fin
    · exact fun _ _ _ _ _ => fin
    · exact fun q1 q2 q3 q4 => absurd ⟨by omega, by omega, by omega, by omega⟩ hno
  refine zb131_0 hT i1 hp hv (fun _ => no (by omega)) (fun _ _ => no (by omega)) (fun _ _ _ => no (by omega)) (fun q1 q2 q3 q4 => ?_) (fun _ _ _ _ => no (by omega))
  obtain ⟨i, rfl⟩ : ∃ a : Nat, p = (a : Int) := ⟨p.toNat, by omega⟩
  obtain ⟨N, hN⟩ : ∃ N : Nat, m 25 2 = (N : Int) := ⟨(m 25 2).toNat, by omega⟩
  have b26 : 0 ≤ m 26 i ∧ m 26 i ≤ 108 := i1 26 i
  have e26 : m 26 i = m 75 (i + 36) := hRel.2.2.2.1 i (by omega)
  refine z_remC hT i1 (fun m1 hB2 hF1 hC => ?_)
  refine zb131_27 hT rfl hB2 (by omega) (by omega) ?_
  rw [hF1 26 i rfl]
  refine z_takeOut1 (D := D + 2) (N := N) hT hB2 (by rw [hF1 25 2 rfl, hN]) (by omega) (fun m2 hB3 hF2 g1 g2 => ?_)
  have hval : 0 ≤ m 26 i * v ∧ m 26 i * v ≤ 972 := by
    have h1 := Int.mul_nonneg b26.1 (show 0 ≤ v by omega)
    have h2 : m 26 i * v ≤ 108 * 9 := Int.mul_le_mul b26.2 (by omega) (by omega) (by omega)
    omega
  refine zb131_49 hT rfl hB3 hval (fun hz => hκ _ _ (fun D2 κ2 h2 => ?_))
  have hF2m : zFr (inL (remCL ++ [(25, some 2), (26, none)])) m m2 := (hF1.sub (inL_sub (by decide))).trans (hF2.sub (inL_sub (by decide)))
  generalize hM : (zu m2 17 10 (m2 17 10 + m 26 i * v)) = M at hz ⊢
  have hFM : zFr (inL (remCL ++ [(17, some 10), (25, some 2), (26, none)])) m M := by
    rw [← hM]
    exact (hF2m.sub (inL_sub (by decide))).set rfl
  have hM1 : zFr (inL [(17, some 10), (25, some 2), (26, none)]) m1 M := by
    rw [← hM]
    exact (hF2.sub (inL_sub (by decide))).set rfl
  have e10 : M 17 10 = m 17 10 + m 26 i * v := by rw [← hM, zu_sm rfl, hF2m 17 10 rfl]
  have f25 : M 25 2 = (N : Int) - 1 := by rw [← hM, zu_dn (by omega), g1]
  have f26 : ∀ j, j + 1 < N → M 26 j = if j < i then m 26 j else m 26 (j + 1) := fun j hj => by rw [← hM, zu_dn (by omega), g2 j hj, hF1 26 j rfl, hF1 26 (j + 1) rfl]
  have f75 : M 75 = m 75 := funext fun j => hFM 75 j rfl
  refine zb244_0 hT hz hp hv (fun x => by omega) (fun _ x => by rw [f75] at x; omega) (fun _ _ x => by omega) (fun _ _ _ x => by omega) (fun _ _ _ _ hz2 => ?_)
  have hFM2 : zFr (inL (remCL ++ [(17, some 10), (25, some 2), (26, none), (74, some 12)])) m (zu M 74 12 0) := (hFM.sub (inL_sub (by decide))).set rfl
  have hM2 : zFr (inL [(17, some 10), (25, some 2), (26, none), (74, some 12)]) m1 (zu M 74 12 0) := (hM1.sub (inL_sub (by decide))).set rfl
  have x10 : (zu M 74 12 0) 17 10 = m 17 10 + m 26 i * v := by rw [zu_dn (by omega), e10]
  have x25 : (zu M 74 12 0) 25 2 = (N : Int) - 1 := by rw [zu_dn (by omega), f25]
  have x26 : ∀ j, j + 1 < N → (zu M 74 12 0) 26 j = if j < i then m 26 j else m 26 (j + 1) := fun j hj => by rw [zu_dn (by omega), f26 j hj]
  generalize (zu M 74 12 0) = M' at hz2 hFM2 hM2 x10 x25 x26 ⊢
  have e75 : M' 75 = m 75 := funext fun j => hFM2 75 j rfl
  refine z_remR_75 hT hz2 (fun m3 hB4 hF3 hR => ?_)
  rw [e75] at hR
  have hF3b : zFr (inL [(74, some 35), (87, none)]) M' m3 := hF3.sub remWL
  have g75 : m3 75 = m 75 := (funext fun j => hF3b 75 j rfl).trans e75
  refine zb244_42 hT rfl hB4 (by omega) (by omega) (fun hz5 => ?_)
  rw [g75] at hz5 ⊢
  refine z_takes1 (N := N) hT hz5 (by rw [zu_off (by omega), g75]; omega) (by omega) (fun m5 hB5 hF5 y1 y2 y3 => ?_)
  refine zb244_70 hT rfl hB5 (by rw [← e26, Int.mul_comm]; exact hval) ?_
  have t35 : zFr (inL [(75, none)]) m3 m5 := (zFr.refl.set rfl).trans hF5
  have hF : zFr (inL (remCL ++ [(17, some 10), (25, some 2), (26, none), (74, some 12), (74, some 35), (75, none), (87, none)])) m m5 := ((hFM2.sub (inL_sub (by decide))).trans (hF3b.sub (inL_sub (by decide)))).trans (t35.sub (inL_sub (by decide)))
  have hFR : zFr (inL [(74, some 35), (75, none), (87, none)]) M' m5 := (hF3b.sub (inL_sub (by decide))).trans (t35.sub (inL_sub (by decide)))
  have z75 : ∀ x, (x < 36 ∨ x = 57) → m5 75 x = m 75 x := fun x hx => by rw [y2 x (by omega), zu_off (by omega), g75]
  have z58 : m5 75 58 = m 75 58 + v * m 75 (i + 36) := by rw [y2 58 (by omega), zu_sm rfl]
  have zbx : ∀ j, j + 1 < N → m5 75 (j + 36) = if j < i then m 75 (j + 36) else m 75 (j + 37) := fun j hj => by
    rw [y3 j hj, zu_off (by omega), zu_off (by omega), g75]
  refine h2 _ _ (fun _ => by rw [e26, Int.mul_comm]) ⟨n, k, ?_⟩
  have hh' : HouseRel n k m5 := by
    refine ⟨⟨(hF 17 0 rfl).trans n1, (hF 74 4 rfl).trans n2⟩, ⟨(hF 17 1 rfl).trans k1, (hF 74 6 rfl).trans k2⟩, fun p hp => ?_, ?_, ?_⟩
    · rw [hF 78 p rfl, hF 18 p rfl]
      exact hh p hp
    · obtain ⟨r1, r2, r3, r4, r5, r6⟩ := hRel
      refine ⟨fun p hp => ?_, fun c hc => ?_, ?_, fun j hj => ?_, ?_, ?_⟩
      · rw [hF 19 p rfl, hF 20 p rfl, z75 p (by omega), z75 (p + 6) (by omega)]
        exact r1 p hp
      · rw [hF 21 c rfl, hF 22 c rfl, hF 23 c rfl, z75 (c + 12) (by omega), z75 (c + 20) (by omega), z75 (c + 28) (by omega)]
        exact r2 c hc
      · rw [hFR 25 2 rfl, x25, y1]
      · rw [y1] at hj
        rw [hFR 26 j rfl, x26 j (by omega), zbx j (by omega), r4 j (by omega), r4 (j + 1) (by omega)]
      · rw [hF 17 11 rfl, z75 57 (by omega)]
        exact r5
      · rw [hFR 17 10 rfl, x10, z58, r6, e26, Int.mul_comm]
    · refine ⟨fun p hp => ?_, by rw [y1]; omega, by rw [z75 57 (by omega)]; exact hok.2.2.1, fun c hc => by rw [z75 (c + 20) (by omega)]; exact hok.2.2.2 c hc⟩
      rw [z75 p (by omega), z75 (p + 6) (by omega)]
      exact hok.1 p hp
  refine Inv_hu hI0 hB5 (.of hF rfl) hh' ?_ (by rw [z75 57 (by omega)]; exact i10)
  have a1 : Agree remCL m1 m5 := (Agree.of hM2 rfl).trans (.of hFR rfl)
  exact Undo_rem (by omega) (by omega) i6 hRel hok i10 hC a1 (.of hFM2 rfl) (.of t35 rfl) hR
end ZSell
