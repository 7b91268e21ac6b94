/-! sheet(). -/
noncomputable def shC (k z : Int) : Int := if k = 0 then z_b8 z else if k = 1 then z_s16 z else wr z
noncomputable def shX (k e f s : Int) (c : Nat) : Int := if (c : Int) < e then (if shC k (f + (c : Int) * s) < 99 then (if 0 < shC k (f + (c : Int) * s) then shC k (f + (c : Int) * s) else 0) else 99) else 0
noncomputable def shT (k e f s : Int) : Nat → Int
  | 0 => 0
  | c + 1 => shT k e f s c + shX k e f s c
theorem shXB {k e f s : Int} {c : Nat} : 0 ≤ shX k e f s c ∧ shX k e f s c ≤ 99 := by
  unfold shX
  split
  · split
    · split
      · omega
      · omega
    · omega
  · omega
theorem shTB {k e f s : Int} : ∀ c : Nat, 0 ≤ shT k e f s c ∧ shT k e f s c ≤ 99 * c
  | 0 => by
    rw [shT]
    omega
  | c + 1 => by
    have h1 := shTB (k := k) (e := e) (f := f) (s := s) c
    have h2 := shXB (k := k) (e := e) (f := f) (s := s) (c := c)
    rw [shT]
    omega
theorem shX_no {k e f s : Int} {c : Nat} (h : ¬ (c : Int) < e) : 0 = shX k e f s c := by
  rw [shX, if_neg h]
theorem shX_hi {k e f s y : Int} {c : Nat} (h : (c : Int) < e) (hy : shC k (f + (c : Int) * s) = y) (h1 : ¬ y < 99) : 99 = shX k e f s c := by
  rw [shX, if_pos h, hy, if_neg h1]
theorem shX_lo {k e f s y : Int} {c : Nat} (h : (c : Int) < e) (hy : shC k (f + (c : Int) * s) = y) (h1 : y < 99) (h2 : ¬ 0 < y) : 0 = shX k e f s c := by
  rw [shX, if_pos h, hy, if_pos h1, if_neg h2]
theorem shX_in {k e f s y : Int} {c : Nat} (h : (c : Int) < e) (hy : shC k (f + (c : Int) * s) = y) (h1 : y < 99) (h2 : 0 < y) : y = shX k e f s c := by
  rw [shX, if_pos h, hy, if_pos h1, if_pos h2]
theorem shC_0 {k z : Int} (h : k = 0) : shC k z = z_b8 z := if_pos h
theorem shC_1 {k z : Int} (h0 : ¬ k = 0) (h : k = 1) : shC k z = z_s16 z := by
  rw [shC, if_neg h0, if_pos h]
theorem shC_2 {k z : Int} (h0 : ¬ k = 0) (h : ¬ k = 1) : shC k z = wr z := by
  rw [shC, if_neg h0, if_neg h]
section ZSheet
variable {T : Nat → Nat → zG → (Option zA → zM → Prop) → Prop} {B : Int}
theorem z_shStepC (hT : zRules T) {D : Nat} {κ : Option zA → zM → Prop} {M : zM} {k f s e t : Int} {c : Nat} (hB : zB M) (hk : 0 ≤ k ∧ k ≤ 3) (hf : isI f) (hs : isI s) (he : 0 ≤ e ∧ e ≤ 8) (ht : 0 ≤ t ∧ t ≤ 800) (hc : c ≤ 8) (hlt : (c : Int) < M 17 1)
    (h : ∀ x, x = shX k e f s c → zB (zu M 21 c x) → T (D + 3) 122 (47, [(0, zr 1), (1, zi k), (3, zi f), (4, zi s), (5, zi e), (6, zi (t + x)), (7, zi ((c : Int) + 1))], [], (zu M 21 c x)) κ) : T (D + 3) 122 (47, [(0, zr 1), (1, zi k), (3, zi f), (4, zi s), (5, zi e), (6, zi t), (7, zi (c : Int))], [], M) κ := by
  refine zb122_47 hT rfl hB hk hf hs he ht hc (fun q => absurd hlt q) (fun q => absurd hlt q) ?_ ?_ ?_ ?_ ?_ ?_ ?_ ?_ ?_ ?_
  · exact fun _ q hz => h 0 (shX_no q) hz
  · exact fun _ q a b c1 c2 hz => h _ (shX_in q (shC_2 a b) c1 c2) hz
  · exact fun _ q a b c1 c2 hz => h _ (shX_lo q (shC_2 a b) c1 c2) hz
  · exact fun _ q a b c1 hz => h _ (shX_hi q (shC_2 a b) c1) hz
  · exact fun _ q a b c1 c2 hz => h _ (shX_in q (shC_1 a b) c1 c2) hz
  · exact fun _ q a b c1 c2 hz => h _ (shX_lo q (shC_1 a b) c1 c2) hz
  · exact fun _ q a b c1 hz => h _ (shX_hi q (shC_1 a b) c1) hz
  · exact fun _ q a c1 c2 hz => h _ (shX_in q (shC_0 a) c1 c2) hz
  · exact fun _ q a c1 c2 hz => h _ (shX_lo q (shC_0 a) c1 c2) hz
  · exact fun _ q a c1 hz => h _ (shX_hi q (shC_0 a) c1) hz
theorem z_shStepR (hT : zRules T) {D : Nat} {κ : Option zA → zM → Prop} {M : zM} {k n e f s t : Int} {c : Nat} (hB : zB M) (hk : 0 ≤ k ∧ k ≤ 3) (hn : -2147483648 ≤ n ∧ n ≤ 8) (hs : isI s) (ht : 0 ≤ t ∧ t ≤ 800) (hc : c ≤ 8) (hlt : (c : Int) < M 74 6) (he : e = if k = 3 then 0 else n)
    (h : ∀ x, x = shX k e f s c → zB (zu M 75 (c + 12) x) → T (D + 2) 223 (43, [(0, zr 74), (1, zi k), (2, zi n), (4, zi s), (5, zi (t + x)), (6, zi (f + (c : Int) * s + s)), (7, zi ((c : Int) + 1))], [], (zu M 75 (c + 12) x)) κ) : T (D + 2) 223 (43, [(0, zr 74), (1, zi k), (2, zi n), (4, zi s), (5, zi t), (6, zi (f + (c : Int) * s)), (7, zi (c : Int))], [], M) κ := by
  have en : ¬ k = 3 → e = n := fun q => by rw [he, if_neg q]
  refine zb223_43 hT rfl hB hk hn hs ht hc (fun q => absurd hlt q) (fun q => absurd hlt q) ?_ ?_ ?_ ?_ ?_ ?_ ?_ ?_ ?_ ?_ ?_ ?_ ?_
  · exact fun _ _ _ q hz => h 0 (shX_no (by rw [he, if_pos q]; omega)) hz
  · exact fun _ a b q3 q c1 c2 hz => h _ (shX_in (by rw [en q3]; exact q) (shC_2 a b) c1 c2) hz
  · exact fun _ a b q3 q c1 c2 hz => h _ (shX_lo (by rw [en q3]; exact q) (shC_2 a b) c1 c2) hz
  · exact fun _ a b q3 q c1 hz => h _ (shX_hi (by rw [en q3]; exact q) (shC_2 a b) c1) hz
  · exact fun _ a b q3 q hz => h 0 (shX_no (by rw [en q3]; exact q)) hz
  · exact fun _ a b q c1 c2 hz => h _ (shX_in (by rw [en (by omega)]; exact q) (shC_1 a b) c1 c2) hz
  · exact fun _ a b q c1 c2 hz => h _ (shX_lo (by rw [en (by omega)]; exact q) (shC_1 a b) c1 c2) hz
  · exact fun _ a b q c1 hz => h _ (shX_hi (by rw [en (by omega)]; exact q) (shC_1 a b) c1) hz
  · exact fun _ a b q hz => h 0 (shX_no (by rw [en (by omega)]; exact q)) hz
  · exact fun _ a q c1 c2 hz => h _ (shX_in (by rw [en (by omega)]; exact q) (shC_0 a) c1 c2) hz
  · exact fun _ a q c1 c2 hz => h _ (shX_lo (by rw [en (by omega)]; exact q) (shC_0 a) c1 c2) hz
  · exact fun _ a q c1 hz => h _ (shX_hi (by rw [en (by omega)]; exact q) (shC_0 a) c1) hz
  · exact fun _ a q hz => h 0 (shX_no (by rw [en (by omega)]; exact q)) hz
theorem w_sheet (hT : zRules T) {kd nn f s : Int} (hkd : isI kd) (hnn : isI nn) (hf : isI f) (hs : isI s) : Way T 122 223 [(0, zr 1), (1, zi kd), (2, zi nn), (3, zi f), (4, zi s)] [(0, zr 74), (1, zi kd), (2, zi nn), (3, zi f), (4, zi s)] 3 2 B B True := by
  rintro D m sc ⟨n, k, hI⟩ κ hκ
  have hI0 := hI
  obtain ⟨i1, i2, i3, i4, i5, i6, i7, i8, i9, i10, i11⟩ := hI
  have hB1 : zB (zu m 74 12 0) := zB_u i1 trivial
  have hA12 : Agree coreK m (zu m 74 12 0) := .of (L := [(74, some 12)]) (zFr.refl.set rfl) rfl
  obtain ⟨⟨n1, n2⟩, ⟨k1, k2⟩, hh, hRel, hok⟩ := i4
  have b17 : 0 ≤ m 17 0 ∧ m 17 0 ≤ 6 := i1 17 0
  have b171 : 0 ≤ m 17 1 ∧ m 17 1 ≤ 8 := i1 17 1
  have no1 : ¬ (0 ≤ kd ∧ kd ≤ 3 ∧ nn ≤ 8) → κ (some (zi (-1))) m := by
    intro hno
    refine hκ _ _ (fun D2 κ2 h2 => ?_)
    have fin : κ2 (some (zi (-1))) (zu m 74 12 0) := h2 _ _ (fun _ => rfl) ⟨n, k, Inv_fr hA12 hB1 hI0⟩
    refine zb223_0 hT i1 hkd hnn hf hs ?_ ?_ ?_ ?_ ?_ ?_
    · exact fun _ _ => fin
    · exact fun _ _ _ => fin
    · exact fun q1 q2 q3 => absurd ⟨by omega, by omega, by omega⟩ hno
    · exact fun q1 q2 q3 => absurd ⟨by omega, by omega, by omega⟩ hno
    · exact fun q1 q2 q3 => absurd ⟨by omega, by omega, by omega⟩ hno
    · exact fun _ _ _ _ => fin
  have no2 : 0 ≤ kd → kd ≤ 3 → nn ≤ 8 → ¬ kd = 3 → nn < 0 → κ (some (zi (-2))) m := by
    intro a1 a2 a3 a4 a5
    refine hκ _ _ (fun D2 κ2 h2 => ?_)
    have fin : κ2 (some (zi (-2))) (zu m 74 12 0) := h2 _ _ (fun _ => rfl) ⟨n, k, Inv_fr hA12 hB1 hI0⟩
    refine zb223_0 hT i1 hkd hnn hf hs (fun q => by omega) (fun _ q => by omega) (fun _ _ _ q => by omega) (fun _ _ _ _ q => by omega) (fun _ _ _ _ _ _ => fin) (fun _ _ q => by omega)
  -- what both do
  have main : ∀ e : Int, 0 ≤ kd → kd ≤ 3 → nn ≤ 8 → (¬ kd = 3 → 0 ≤ nn) → e = (if kd = 3 then 0 else nn) → T (D + 3) 122 (47, [(0, zr 1), (1, zi kd), (3, zi f), (4, zi s), (5, zi e), (6, zi 0), (7, zi 0)], [], m) κ := by
    intro e a1 a2 a3 a4 he
    have he8 : 0 ≤ e ∧ e ≤ 8 := by
      rw [he]
      split
      · omega
      · rename_i q
        have := a4 q
        omega
    have done : ∀ (M : zM) (r : Int), r = (if kd = 3 then -3 else shT kd e f s k) → zB M → zFr (inL [(21, none)]) m M → (∀ x, M 21 x = if x < k then shX kd e f s x else m 21 x) → κ (some (zi r)) M := by
      intro M r hr hBM hF hx
      refine hκ _ _ (fun D2 κ2 h2 => ?_)
      have hF0 : zFr (inL [(21, none), (74, some 12)]) m (zu M 74 12 0) := (hF.sub (inL_sub (by decide))).set rfl
      have x21 : ∀ x, (zu M 74 12 0) 21 x = if x < k then shX kd e f s x else m 21 x := fun x => by rw [zu_dn (by omega), hx x]
      have loop : ∀ (j t : Nat) (M2 : zM), t + j = k → zB M2 → zFr (inL [(75, none)]) (zu M 74 12 0) M2 → (∀ x, M2 75 x = if 12 ≤ x ∧ x < t + 12 then shX kd e f s (x - 12) else m 75 x) → T (D2 + 2) 223 (43, [(0, zr 74), (1, zi kd), (2, zi nn), (4, zi s), (5, zi (shT kd e f s t)), (6, zi (f + (t : Int) * s)), (7, zi (t : Int))], [], M2) κ2 := by
        intro j
        induction j with
        | zero =>
          intro t M2 ht hB2 hF2 hx2
          have et : t = k := by omega
          subst et
          have e6 : M2 74 6 = (t : Int) := by rw [hF2 74 6 rfl, hF0 74 6 rfl, k2]
          have hT2 := shTB (k := kd) (e := e) (f := f) (s := s) t
          have hFa : zFr (inL [(21, none), (74, some 12), (75, none)]) m M2 := (hF0.sub (inL_sub (by decide))).trans (hF2.sub (inL_sub (by decide)))
          have fin : κ2 (some (zi r)) M2 := by
            refine h2 _ _ (fun _ => rfl) ⟨n, t, ?_⟩
            have hh' : HouseRel n t M2 := by
              refine ⟨⟨(hFa 17 0 rfl).trans n1, (hFa 74 4 rfl).trans n2⟩, ⟨(hFa 17 1 rfl).trans k1, (hFa 74 6 rfl).trans k2⟩, fun p hp => ?_, ?_, ?_⟩
              · rw [hFa 78 p rfl, hFa 18 p rfl]
                exact hh p hp
              · obtain ⟨r1, r2, r3, r4, r5, r6⟩ := hRel
                refine ⟨fun p hp => ?_, fun c hc => ?_, ?_, fun i hi => ?_, ?_, ?_⟩
                · rw [hFa 19 p rfl, hFa 20 p rfl, hx2 p, hx2 (p + 6), if_neg (by omega), if_neg (by omega)]
                  exact r1 p hp
                · rw [hF2 21 c rfl, x21 c, hFa 22 c rfl, hFa 23 c rfl, hx2 (c + 12), hx2 (c + 20), hx2 (c + 28), if_pos hc, if_pos (by omega), if_neg (by omega), if_neg (by omega), Nat.add_sub_cancel]
                  exact ⟨rfl, (r2 c hc).2⟩
                · rw [hFa 25 2 rfl, hx2 56, if_neg (by omega)]
                  exact r3
                · rw [hx2 56, if_neg (by omega)] at hi
                  rw [hFa 26 i rfl, hx2 (i + 36), if_neg (by omega)]
                  exact r4 i hi
                · rw [hFa 17 11 rfl, hx2 57, if_neg (by omega)]
                  exact r5
                · rw [hFa 17 10 rfl, hx2 58, if_neg (by omega)]
                  exact r6
              · refine ⟨fun p hp => ?_, ?_, ?_, fun c hc => ?_⟩
                · rw [hx2 p, hx2 (p + 6), if_neg (by omega), if_neg (by omega)]
                  exact hok.1 p hp
                · rw [hx2 56, if_neg (by omega)]
                  exact hok.2.1
                · rw [hx2 57, if_neg (by omega)]
                  exact hok.2.2.1
                · rw [hx2 (c + 20), if_neg (by omega)]
                  exact hok.2.2.2 c hc
            exact Inv_hu hI0 hB2 (.of hFa rfl) hh' (Undo_fr (.of hFa rfl) i6) (by rw [hx2 57, if_neg (by omega)]; exact i10)
          refine zb223_43 hT rfl hB2 (by omega) (by unfold isI at hnn; omega) hs (by omega) (by omega) (fun _ q => ?_) (fun _ q => ?_) (fun q => by omega) (fun q => by omega) (fun q => by omega) (fun q => by omega) (fun q => by omega) (fun q => by omega) (fun q => by omega) (fun q => by omega) (fun q => by omega) (fun q => by omega) (fun q => by omega) (fun q => by omega) (fun q => by omega)
          · rw [if_neg q] at hr
            rw [← hr]
            exact fin
          · rw [if_pos q] at hr
            rw [← hr]
            exact fin
        | succ j ih =>
          intro t M2 ht hB2 hF2 hx2
          have e6 : M2 74 6 = (k : Int) := by rw [hF2 74 6 rfl, hF0 74 6 rfl, k2]
          have hT2 := shTB (k := kd) (e := e) (f := f) (s := s) t
          refine z_shStepR (e := e) hT hB2 (by omega) (by unfold isI at hnn; omega) hs (by omega) (by omega) (by omega) he (fun x hx hz => ?_)
          have h1 := ih (t + 1) _ (by omega) hz (hF2.set rfl) (fun y => by
            rw [zu_at, hx2 y]
            by_cases e1 : y = t + 12
            · rw [if_pos e1, if_pos (by omega), hx, e1, Nat.add_sub_cancel]
            · rw [if_neg e1]
              by_cases e2 : 12 ≤ y ∧ y < t + 12
              · rw [if_pos e2, if_pos (by omega)]
              · rw [if_neg e2, if_neg (by omega)])
          rw [shT, ← hx, show (f + ((t + 1 : Nat) : Int) * s) = f + (t : Int) * s + s by rw [Int.natCast_add, Int.add_mul, Int.natCast_one, Int.one_mul, Int.add_assoc]] at h1
          exact h1
      have start : zB (zu M 74 12 0) → T (D2 + 2) 223 (43, [(0, zr 74), (1, zi kd), (2, zi nn), (4, zi s), (5, zi 0), (6, zi f), (7, zi 0)], [], (zu M 74 12 0)) κ2 := fun hz => by
        have h1 := loop k 0 _ (by omega) hz zFr.refl (fun x => by rw [if_neg (by omega)]; exact hF0 75 x rfl)
        rw [show f + ((0 : Nat) : Int) * s = f by rw [Int.natCast_zero, Int.zero_mul, Int.add_zero]] at h1
        exact h1
      exact zb223_0 hT hBM hkd hnn hf hs (fun q => by omega) (fun _ q => by omega) (fun _ _ _ _ hz => start hz) (fun _ _ _ _ _ hz => start hz) (fun _ _ _ q q2 => by have := a4 (by omega); omega) (fun _ _ q => by omega)
    have cls : ∀ (j t : Nat) (M : zM), t + j = k → zB M → zFr (inL [(21, none)]) m M → (∀ x, M 21 x = if x < t then shX kd e f s x else m 21 x) → T (D + 3) 122 (47, [(0, zr 1), (1, zi kd), (3, zi f), (4, zi s), (5, zi e), (6, zi (shT kd e f s t)), (7, zi (t : Int))], [], M) κ := by
      intro j
      induction j with
      | zero =>
        intro t M ht hBM hF hx
        have et : t = k := by omega
        subst et
        have e6 : M 17 1 = (t : Int) := (hF 17 1 rfl).trans k1
        have hT2 := shTB (k := kd) (e := e) (f := f) (s := s) t
        refine zb122_47 hT rfl hBM (by omega) hf hs he8 (by omega) (by omega) (fun _ q => ?_) (fun _ q => ?_) (fun q => by omega) (fun q => by omega) (fun q => by omega) (fun q => by omega) (fun q => by omega) (fun q => by omega) (fun q => by omega) (fun q => by omega) (fun q => by omega) (fun q => by omega)
        · exact done M _ (by rw [if_neg q]) hBM hF hx
        · exact done M _ (by rw [if_pos q]) hBM hF hx
      | succ j ih =>
        intro t M ht hBM hF hx
        have e6 : M 17 1 = (k : Int) := (hF 17 1 rfl).trans k1
        have hT2 := shTB (k := kd) (e := e) (f := f) (s := s) t
        refine z_shStepC hT hBM (by omega) hf hs he8 (by omega) (by omega) (by omega) (fun x hx2 hz => ?_)
        have h1 := ih (t + 1) _ (by omega) hz (hF.set rfl) (fun y => by
          rw [zu_at, hx y]
          by_cases e1 : y = t
          · rw [if_pos e1, if_pos (by omega), hx2, e1]
          · rw [if_neg e1]
            by_cases e2 : y < t
            · rw [if_pos e2, if_pos (by omega)]
            · rw [if_neg e2, if_neg (by omega)])
        rw [shT, ← hx2] at h1
        exact h1
    exact cls k 0 m (by omega) i1 zFr.refl (fun x => by rw [if_neg (by omega)])
  refine zb122_0 hT i1 hkd hnn hf hs (fun _ => no1 (by omega)) (fun _ _ => no1 (by omega)) (fun q1 q2 q3 q4 => ?_) (fun q1 q2 q3 q4 q5 => ?_) (fun q1 q2 q3 q4 q5 => no2 (by omega) (by omega) (by omega) q4 q5) (fun _ _ _ => no1 (by omega))
  · exact main 0 (by omega) (by omega) (by omega) (fun x => absurd q4 x) (by rw [if_pos q4])
  · exact main nn (by omega) (by omega) (by omega) (fun _ => by omega) (by rw [if_neg q4])
end ZSheet
