-- 91.sheet.lean.txt
section
/-! sheet(). -/
noncomputable def shC (k z : Int) : Int := if k = 0 then z_b8 z else if k = 1 then z_s16 z else wr z
noncomputable def shX (k e f s : Int) (c : Nat) : Int := if (c : Int) < e then (if shC k (f + (c : Int) * s) < 99 then (if 0 < shC k (f + (c : Int) * s) then shC k (f + (c : Int) * s) else 0) else 99) else 0
noncomputable def shT (k e f s : Int) : Nat → Int
  | 0 => 0
  | c + 1 => shT k e f s c + shX k e f s c
theorem shXB {k e f s : Int} {c : Nat} : 0 ≤ shX k e f s c ∧ shX k e f s c ≤ 99 := by
  unfold shX
  split
  · split
    · split
      · omega
      · omega
    · omega
  · omega
theorem shTB {k e f s : Int} : ∀ c : Nat, 0 ≤ shT k e f s c ∧ shT k e f s c ≤ 99 * c
  | 0 => by
    rw [shT]
    omega
  | c + 1 => by
    have h1 := shTB (k := k) (e := e) (f := f) (s := s) c
    have h2 := shXB (k := k) (e := e) (f := f) (s := s) (c := c)
    rw [shT]
    omega
theorem shX_no {k e f s : Int} {c : Nat} (h : ¬ (c : Int) < e) : 0 = shX k e f s c := by
  rw [shX, if_neg h]
theorem shX_hi {k e f s y : Int} {c : Nat} (h : (c : Int) < e) (hy : shC k (f + (c : Int) * s) = y) (h1 : ¬ y < 99) : 99 = shX k e f s c := by
  rw [shX, if_pos h, hy, if_neg h1]
theorem shX_lo {k e f s y : Int} {c : Nat} (h : (c : Int) < e) (hy : shC k (f + (c : Int) * s) = y) (h1 : y < 99) (h2 : ¬ 0 < y) : 0 = shX k e f s c := by
  rw [shX, if_pos h, hy, if_pos h1, if_neg h2]
theorem shX_in {k e f s y : Int} {c : Nat} (h : (c : Int) < e) (hy : shC k (f + (c : Int) * s) = y) (h1 : y < 99) (h2 : 0 < y) : y = shX k e f s c := by
  rw [shX, if_pos h, hy, if_pos h1, if_pos h2]
theorem shC_0 {k z : Int} (h : k = 0) : shC k z = z_b8 z := if_pos h
theorem shC_1 {k z : Int} (h0 : ¬ k = 0) (h : k = 1) : shC k z = z_s16 z := by
  rw [shC, if_neg h0, if_pos h]
theorem shC_2 {k z : Int} (h0 : ¬ k = 0) (h : ¬ k = 1) : shC k z = wr z := by
  rw [shC, if_neg h0, if_neg h]
section ZSheet
variable {T : Nat → Nat → zG → (Option zA → zM → Prop) → Prop} {B : Int}
theorem z_shStepC (hT : zRules T) {D : Nat} {κ : Option zA → zM → Prop} {M : zM} {k f s e t : Int} {c : Nat} (hB : zB M) (hk : 0 ≤ k ∧ k ≤ 3) (hf : isI f) (hs : isI s) (he : 0 ≤ e ∧ e ≤ 8) (ht : 0 ≤ t ∧ t ≤ 800) (hc : c ≤ 8) (hlt : (c : Int) < M 17 1)
    (h : ∀ x, x = shX k e f s c → zB (zu M 21 c x) → T (D + 3) 122 (47, [(0, zr 1), (1, zi k), (3, zi f), (4, zi s), (5, zi e), (6, zi (t + x)), (7, zi ((c : Int) + 1))], [], (zu M 21 c x)) κ) : T (D + 3) 122 (47, [(0, zr 1), (1, zi k), (3, zi f), (4, zi s), (5, zi e), (6, zi t), (7, zi (c : Int))], [], M) κ := by
  refine zb122_47 hT rfl hB hk hf hs he ht hc (fun q => absurd hlt q) (fun q => absurd hlt q) ?_ ?_ ?_ ?_ ?_ ?_ ?_ ?_ ?_ ?_
  · exact fun _ q hz => h 0 (shX_no q) hz
  · exact fun _ q a b c1 c2 hz => h _ (shX_in q (shC_2 a b) c1 c2) hz
  · exact fun _ q a b c1 c2 hz => h _ (shX_lo q (shC_2 a b) c1 c2) hz
  · exact fun _ q a b c1 hz => h _ (shX_hi q (shC_2 a b) c1) hz
  · exact fun _ q a b c1 c2 hz => h _ (shX_in q (shC_1 a b) c1 c2) hz
  · exact fun _ q a b c1 c2 hz => h _ (shX_lo q (shC_1 a b) c1 c2) hz
  · exact fun _ q a b c1 hz => h _ (shX_hi q (shC_1 a b) c1) hz
  · exact fun _ q a c1 c2 hz => h _ (shX_in q (shC_0 a) c1 c2) hz
  · exact fun _ q a c1 c2 hz => h _ (shX_lo q (shC_0 a) c1 c2) hz
  · exact fun _ q a c1 hz => h _ (shX_hi q (shC_0 a) c1) hz
theorem z_shStepR (hT : zRules T) {D : Nat} {κ : Option zA → zM → Prop} {M : zM} {k n e f s t : Int} {c : Nat} (hB : zB M) (hk : 0 ≤ k ∧ k ≤ 3) (hn : -2147483648 ≤ n ∧ n ≤ 8) (hs : isI s) (ht : 0 ≤ t ∧ t ≤ 800) (hc : c ≤ 8) (hlt : (c : Int) < M 74 6) (he : e = if k = 3 then 0 else n)
    (h : ∀ x, x = shX k e f s c → zB (zu M 75 (c + 12) x) → T (D + 2) 223 (43, [(0, zr 74), (1, zi k), (2, zi n), (4, zi s), (5, zi (t + x)), (6, zi (f + (c : Int) * s + s)), (7, zi ((c : Int) + 1))], [], (zu M 75 (c + 12) x)) κ) : T (D + 2) 223 (43, [(0, zr 74), (1, zi k), (2, zi n), (4, zi s), (5, zi t), (6, zi (f + (c : Int) * s)), (7, zi (c : Int))], [], M) κ := by
  have en : ¬ k = 3 → e = n := fun q => by rw [he, if_neg q]
  refine zb223_43 hT rfl hB hk hn hs ht hc (fun q => absurd hlt q) (fun q => absurd hlt q) ?_ ?_ ?_ ?_ ?_ ?_ ?_ ?_ ?_ ?_ ?_ ?_ ?_
  · exact fun _ _ _ q hz => h 0 (shX_no (by rw [he, if_pos q]; omega)) hz
  · exact fun _ a b q3 q c1 c2 hz => h _ (shX_in (by rw [en q3]; exact q) (shC_2 a b) c1 c2) hz
  · exact fun _ a b q3 q c1 c2 hz => h _ (shX_lo (by rw [en q3]; exact q) (shC_2 a b) c1 c2) hz
  · exact fun _ a b q3 q c1 hz => h _ (shX_hi (by rw [en q3]; exact q) (shC_2 a b) c1) hz
  · exact fun _ a b q3 q hz => h 0 (shX_no (by rw [en q3]; exact q)) hz
  · exact fun _ a b q c1 c2 hz => h _ (shX_in (by rw [en (by omega)]; exact q) (shC_1 a b) c1 c2) hz
  · exact fun _ a b q c1 c2 hz => h _ (shX_lo (by rw [en (by omega)]; exact q) (shC_1 a b) c1 c2) hz
  · exact fun _ a b q c1 hz => h _ (shX_hi (by rw [en (by omega)]; exact q) (shC_1 a b) c1) hz
  · exact fun _ a b q hz => h 0 (shX_no (by rw [en (by omega)]; exact q)) hz
  · exact fun _ a q c1 c2 hz => h _ (shX_in (by rw [en (by omega)]; exact q) (shC_0 a) c1 c2) hz
  · exact fun _ a q c1 c2 hz => h _ (shX_lo (by rw [en (by omega)]; exact q) (shC_0 a) c1 c2) hz
  · exact fun _ a q c1 hz => h _ (shX_hi (by rw [en (by omega)]; exact q) (shC_0 a) c1) hz
  · exact fun _ a q hz => h 0 (shX_no (by rw [en (by omega)]; exact q)) hz
theorem w_sheet (hT : zRules T) {kd nn f s : Int} (hkd : isI kd) (hnn : isI nn) (hf : isI f) (hs : isI s) : Way T 122 223 [(0, zr 1), (1, zi kd), (2, zi nn), (3, zi f), (4, zi s)] [(0, zr 74), (1, zi kd), (2, zi nn), (3, zi f), (4, zi s)] 3 2 B B True := by
  rintro D m sc ⟨n, k, hI⟩ κ hκ
  have hI0 := hI
  obtain ⟨i1, i2, i3, i4, i5, i6, i7, i8, i9, i10, i11⟩ := hI
  have hB1 : zB (zu m 74 12 0) := zB_u i1 trivial
  have hA12 : Agree coreK m (zu m 74 12 0) := .of (L := [(74, some 12)]) (zFr.refl.set rfl) rfl
  obtain ⟨⟨n1, n2⟩, ⟨k1, k2⟩, hh, hRel, hok⟩ := i4
  have b17 : 0 ≤ m 17 0 ∧ m 17 0 ≤ 6 := i1 17 0
  have b171 : 0 ≤ m 17 1 ∧ m 17 1 ≤ 8 := i1 17 1
  have no1 : ¬ (0 ≤ kd ∧ kd ≤ 3 ∧ nn ≤ 8) → κ (some (zi (-1))) m := by
    intro hno
    refine hκ _ _ (fun D2 κ2 h2 => ?_)
    have fin : κ2 (some (zi (-1))) (zu m 74 12 0) := h2 _ _ (fun _ => rfl) ⟨n, k, Inv_fr hA12 hB1 hI0⟩
    refine zb223_0 hT i1 hkd hnn hf hs ?_ ?_ ?_ ?_ ?_ ?_
    · exact fun _ _ => fin
    · exact fun _ _ _ => fin
    · exact fun q1 q2 q3 => absurd ⟨by omega, by omega, by omega⟩ hno
    · exact fun q1 q2 q3 => absurd ⟨by omega, by omega, by omega⟩ hno
    · exact fun q1 q2 q3 => absurd ⟨by omega, by omega, by omega⟩ hno
    · exact fun _ _ _ _ => fin
  have no2 : 0 ≤ kd → kd ≤ 3 → nn ≤ 8 → ¬ kd = 3 → nn < 0 → κ (some (zi (-2))) m := by
    intro a1 a2 a3 a4 a5
    refine hκ _ _ (fun D2 κ2 h2 => ?_)
    have fin : κ2 (some (zi (-2))) (zu m 74 12 0) := h2 _ _ (fun _ => rfl) ⟨n, k, Inv_fr hA12 hB1 hI0⟩
    refine zb223_0 hT i1 hkd hnn hf hs (fun q => by omega) (fun _ q => by omega) (fun _ _ _ q => by omega) (fun _ _ _ _ q => by omega) (fun _ _ _ _ _ _ => fin) (fun _ _ q => by omega)
  -- what both do
  have main : ∀ e : Int, 0 ≤ kd → kd ≤ 3 → nn ≤ 8 → (¬ kd = 3 → 0 ≤ nn) → e = (if kd = 3 then 0 else nn) → T (D + 3) 122 (47, [(0, zr 1), (1, zi kd), (3, zi f), (4, zi s), (5, zi e), (6, zi 0), (7, zi 0)], [], m) κ := by
    intro e a1 a2 a3 a4 he
    have he8 : 0 ≤ e ∧ e ≤ 8 := by
      rw [he]
      split
      · omega
      · rename_i q
        have := a4 q
        omega
    have done : ∀ (M : zM) (r : Int), r = (if kd = 3 then -3 else shT kd e f s k) → zB M → zFr (inL [(21, none)]) m M → (∀ x, M 21 x = if x < k then shX kd e f s x else m 21 x) → κ (some (zi r)) M := by
      intro M r hr hBM hF hx
      refine hκ _ _ (fun D2 κ2 h2 => ?_)
      have hF0 : zFr (inL [(21, none), (74, some 12)]) m (zu M 74 12 0) := (hF.sub (inL_sub (by decide))).set rfl
      have x21 : ∀ x, (zu M 74 12 0) 21 x = if x < k then shX kd e f s x else m 21 x := fun x => by rw [zu_dn (by omega), hx x]
      have loop : ∀ (j t : Nat) (M2 : zM), t + j = k → zB M2 → zFr (inL [(75, none)]) (zu M 74 12 0) M2 → (∀ x, M2 75 x = if 12 ≤ x ∧ x < t + 12 then shX kd e f s (x - 12) else m 75 x) → T (D2 + 2) 223 (43, [(0, zr 74), (1, zi kd), (2, zi nn), (4, zi s), (5, zi (shT kd e f s t)), (6, zi (f + (t : Int) * s)), (7, zi (t : Int))], [], M2) κ2 := by
        intro j
        induction j with
        | zero =>
          intro t M2 ht hB2 hF2 hx2
          have et : t = k := by omega
          subst et
          have e6 : M2 74 6 = (t : Int) := by rw [hF2 74 6 rfl, hF0 74 6 rfl, k2]
          have hT2 := shTB (k := kd) (e := e) (f := f) (s := s) t
          have hFa : zFr (inL [(21, none), (74, some 12), (75, none)]) m M2 := (hF0.sub (inL_sub (by decide))).trans (hF2.sub (inL_sub (by decide)))
          have fin : κ2 (some (zi r)) M2 := by
            refine h2 _ _ (fun _ => rfl) ⟨n, t, ?_⟩
            have hh' : HouseRel n t M2 := by
              refine ⟨⟨(hFa 17 0 rfl).trans n1, (hFa 74 4 rfl).trans n2⟩, ⟨(hFa 17 1 rfl).trans k1, (hFa 74 6 rfl).trans k2⟩, fun p hp => ?_, ?_, ?_⟩
              · rw [hFa 78 p rfl, hFa 18 p rfl]
                exact hh p hp
              · obtain ⟨r1, r2, r3, r4, r5, r6⟩ := hRel
                refine ⟨fun p hp => ?_, fun c hc => ?_, ?_, fun i hi => ?_, ?_, ?_⟩
                · rw [hFa 19 p rfl, hFa 20 p rfl, hx2 p, hx2 (p + 6), if_neg (by omega), if_neg (by omega)]
                  exact r1 p hp
                · rw [hF2 21 c rfl, x21 c, hFa 22 c rfl, hFa 23 c rfl, hx2 (c + 12), hx2 (c + 20), hx2 (c + 28), if_pos hc, if_pos (by omega), if_neg (by omega), if_neg (by omega), Nat.add_sub_cancel]
                  exact ⟨rfl, (r2 c hc).2⟩
                · rw [hFa 25 2 rfl, hx2 56, if_neg (by omega)]
                  exact r3
                · rw [hx2 56, if_neg (by omega)] at hi
                  rw [hFa 26 i rfl, hx2 (i + 36), if_neg (by omega)]
                  exact r4 i hi
                · rw [hFa 17 11 rfl, hx2 57, if_neg (by omega)]
                  exact r5
                · rw [hFa 17 10 rfl, hx2 58, if_neg (by omega)]
                  exact r6
              · refine ⟨fun p hp => ?_, ?_, ?_, fun c hc => ?_⟩
                · rw [hx2 p, hx2 (p + 6), if_neg (by omega), if_neg (by omega)]
                  exact hok.1 p hp
                · rw [hx2 56, if_neg (by omega)]
                  exact hok.2.1
                · rw [hx2 57, if_neg (by omega)]
                  exact hok.2.2.1
                · rw [hx2 (c + 20), if_neg (by omega)]
                  exact hok.2.2.2 c hc
            exact Inv_hu hI0 hB2 (.of hFa rfl) hh' (Undo_fr (.of hFa rfl) i6) (by rw [hx2 57, if_neg (by omega)]; exact i10)
          refine zb223_43 hT rfl hB2 (by omega) (by unfold isI at hnn; omega) hs (by omega) (by omega) (fun _ q => ?_) (fun _ q => ?_) (fun q => by omega) (fun q => by omega) (fun q => by omega) (fun q => by omega) (fun q => by omega) (fun q => by omega) (fun q => by omega) (fun q => by omega) (fun q => by omega) (fun q => by omega) (fun q => by omega) (fun q => by omega) (fun q => by omega)
          · rw [if_neg q] at hr
            rw [← hr]
            exact fin
          · rw [if_pos q] at hr
            rw [← hr]
            exact fin
        | succ j ih =>
          intro t M2 ht hB2 hF2 hx2
          have e6 : M2 74 6 = (k : Int) := by rw [hF2 74 6 rfl, hF0 74 6 rfl, k2]
          have hT2 := shTB (k := kd) (e := e) (f := f) (s := s) t
          refine z_shStepR (e := e) hT hB2 (by omega) (by unfold isI at hnn; omega) hs (by omega) (by omega) (by omega) he (fun x hx hz => ?_)
          have h1 := ih (t + 1) _ (by omega) hz (hF2.set rfl) (fun y => by
            rw [zu_at, hx2 y]
            by_cases e1 : y = t + 12
            · rw [if_pos e1, if_pos (by omega), hx, e1, Nat.add_sub_cancel]
            · rw [if_neg e1]
              by_cases e2 : 12 ≤ y ∧ y < t + 12
              · rw [if_pos e2, if_pos (by omega)]
              · rw [if_neg e2, if_neg (by omega)])
          rw [shT, ← hx, show (f + ((t + 1 : Nat) : Int) * s) = f + (t : Int) * s + s by rw [Int.natCast_add, Int.add_mul, Int.natCast_one, Int.one_mul, Int.add_assoc]] at h1
          exact h1
      have start : zB (zu M 74 12 0) → T (D2 + 2) 223 (43, [(0, zr 74), (1, zi kd), (2, zi nn), (4, zi s), (5, zi 0), (6, zi f), (7, zi 0)], [], (zu M 74 12 0)) κ2 := fun hz => by
        have h1 := loop k 0 _ (by omega) hz zFr.refl (fun x => by rw [if_neg (by omega)]; exact hF0 75 x rfl)
        rw [show f + ((0 : Nat) : Int) * s = f by rw [Int.natCast_zero, Int.zero_mul, Int.add_zero]] at h1
        exact h1
      exact zb223_0 hT hBM hkd hnn hf hs (fun q => by omega) (fun _ q => by omega) (fun _ _ _ _ hz => start hz) (fun _ _ _ _ _ hz => start hz) (fun _ _ _ q q2 => by have := a4 (by omega); omega) (fun _ _ q => by omega)
    have cls : ∀ (j t : Nat) (M : zM), t + j = k → zB M → zFr (inL [(21, none)]) m M → (∀ x, M 21 x = if x < t then shX kd e f s x else m 21 x) → T (D + 3) 122 (47, [(0, zr 1), (1, zi kd), (3, zi f), (4, zi s), (5, zi e), (6, zi (shT kd e f s t)), (7, zi (t : Int))], [], M) κ := by
      intro j
      induction j with
      | zero =>
        intro t M ht hBM hF hx
        have et : t = k := by omega
        subst et
        have e6 : M 17 1 = (t : Int) := (hF 17 1 rfl).trans k1
        have hT2 := shTB (k := kd) (e := e) (f := f) (s := s) t
        refine zb122_47 hT rfl hBM (by omega) hf hs he8 (by omega) (by omega) (fun _ q => ?_) (fun _ q => ?_) (fun q => by omega) (fun q => by omega) (fun q => by omega) (fun q => by omega) (fun q => by omega) (fun q => by omega) (fun q => by omega) (fun q => by omega) (fun q => by omega) (fun q => by omega)
        · exact done M _ (by rw [if_neg q]) hBM hF hx
        · exact done M _ (by rw [if_pos q]) hBM hF hx
      | succ j ih =>
        intro t M ht hBM hF hx
        have e6 : M 17 1 = (k : Int) := (hF 17 1 rfl).trans k1
        have hT2 := shTB (k := kd) (e := e) (f := f) (s := s) t
        refine z_shStepC hT hBM (by omega) hf hs he8 (by omega) (by omega) (by omega) (fun x hx2 hz => ?_)
        have h1 := ih (t + 1) _ (by omega) hz (hF.set rfl) (fun y => by
          rw [zu_at, hx y]
          by_cases e1 : y = t
          · rw [if_pos e1, if_pos (by omega), hx2, e1]
          · rw [if_neg e1]
            by_cases e2 : y < t
            · rw [if_pos e2, if_pos (by omega)]
            · rw [if_neg e2, if_neg (by omega)])
        rw [shT, ← hx2] at h1
        exact h1
    exact cls k 0 m (by omega) i1 zFr.refl (fun x => by rw [if_neg (by omega)])
  refine zb122_0 hT i1 hkd hnn hf hs (fun _ => no1 (by omega)) (fun _ _ => no1 (by omega)) (fun q1 q2 q3 q4 => ?_) (fun q1 q2 q3 q4 q5 => ?_) (fun q1 q2 q3 q4 q5 => no2 (by omega) (by omega) (by omega) q4 q5) (fun _ _ _ => no1 (by omega))
  · exact main 0 (by omega) (by omega) (by omega) (fun x => absurd q4 x) (by rw [if_pos q4])
  · exact main nn (by omega) (by omega) (by omega) (fun _ => by omega) (by rw [if_neg q4])
end ZSheet
end
-- 92.b14.lean.txt
section
section ZBlocks
variable {T : Nat → Nat → zG → (Option zA → zM → Prop) → Prop}
theorem zb145_0r (hT : zRules T) {D : Nat} {κ : Option zA → zM → Prop} {m : zM} 
    (o1 : T (D + 5) 145 (6, [(0, zr 1), (1, zi 0), (2, zi 0), (3, zi 0)], [], m) κ) :
    T (D + 5) 145 (0, [(0, zr 1)], [], m) κ :=
  hT.1 [(6, [0, 1, 2, 3])] 6 (D + 5) 145 _ κ (o1)
theorem zb145_0 (hT : zRules T) {D : Nat} {κ : Option zA → zM → Prop} {m : zM}  (hB : zB m) 
    (k1 : T (D + 5) 145 (6, [(0, zr 1), (1, zi 0), (2, zi 0), (3, zi 0)], [], m) κ) :
    T (D + 5) 145 (0, [(0, zr 1)], [], m) κ := by
  exact zb145_0r hT
    k1
theorem zb145_6r (hT : zRules T) {D : Nat} {κ : Option zA → zM → Prop} {m : zM} {w : Nat} {o : Nat} {p : Nat} {lo : zL} (hlo : z_keep [0, 1, 2, 3] lo = [(0, zr 1), (1, zi (w : Int)), (2, zi (o : Int)), (3, zi (p : Int))]) 
    (o1 : ¬ wr (p : Int) < wr (m 17 0) → T (D + 4) 293 (0, [(0, zi (o : Int))], [], (zu (zu m 72 1 1) 73 0 (o : Int))) (fun r m1 => T (D + 5) 145 (69, [(0, zr 1), (1, zi (w : Int)), (2, zi (o : Int)), (3, zi (p : Int))], r.toList ++ [], m1) κ))
    (o2 : wr (p : Int) < wr (m 17 0) → T (D + 4) 171 (0, [(0, zr 1), (1, zi (p : Int))], [], m) (fun r m1 => T (D + 5) 145 (26, [(0, zr 1), (1, zi (w : Int)), (2, zi (o : Int)), (3, zi (p : Int))], r.toList ++ [zr 17], m1) κ)) :
    T (D + 5) 145 (6, lo, [], m) κ :=
  zkeep hT hlo (hT.1 [(6, [0, 1, 2, 3])] 6 (D + 5) 145 _ κ (And.intro (fun a1 => (hT.1 [(6, [0, 1, 2, 3])] 6 (D + 5) 145 (58, [(0, zr 1), (1, zi (w : Int)), (2, zi (o : Int)), (3, zi (p : Int))], [zr 1], m) _ (hT.1 [] 6 (D + 4) 45 _ _ (And.intro trivial (hT.1 [] 6 (D + 4) 45 (10, [(0, zr 72), (1, zi (o : Int))], [zi 0, zr 73], (zu m 72 1 1)) _ (And.intro (And.intro (z_ixL rfl) trivial) (hT.1 [(6, [0, 1, 2, 3])] 6 (D + 5) 145 _ _ (o1 a1)))))))) (fun a2 => (hT.1 [(6, [0, 1, 2, 3])] 6 (D + 5) 145 (18, [(0, zr 1), (1, zi (w : Int)), (2, zi (o : Int)), (3, zi (p : Int))], [zr 1], m) _ (o2 (Classical.byContradiction a2))))))
theorem zb145_6 (hT : zRules T) {D : Nat} {κ : Option zA → zM → Prop} {m : zM} {w : Nat} {o : Nat} {p : Nat} {lo : zL} (hlo : z_keep [0, 1, 2, 3] lo = [(0, zr 1), (1, zi (w : Int)), (2, zi (o : Int)), (3, zi (p : Int))])  (hB : zB m) (h_w : w ≤ 255) (h_o : o ≤ 63) (h_p : p ≤ 6) 
    (k1 : ¬ (p : Int) < (m 17 0) → zB (zu (zu m 72 1 1) 73 0 (o : Int)) → T (D + 4) 293 (0, [(0, zi (o : Int))], [], (zu (zu m 72 1 1) 73 0 (o : Int))) (fun r m1 => T (D + 5) 145 (69, [(0, zr 1), (1, zi (w : Int)), (2, zi (o : Int)), (3, zi (p : Int))], r.toList ++ [], m1) κ))
    (k2 : (p : Int) < (m 17 0) → T (D + 4) 171 (0, [(0, zr 1), (1, zi (p : Int))], [], m) (fun r m1 => T (D + 5) 145 (26, [(0, zr 1), (1, zi (w : Int)), (2, zi (o : Int)), (3, zi (p : Int))], r.toList ++ [zr 17], m1) κ)) :
    T (D + 5) 145 (6, lo, [], m) κ := by
  have hb3 : 0 ≤ (m 17 0) ∧ (m 17 0) ≤ 6 := hB 17 0
  have he0 : wr (p : Int) = (p : Int) := wr_id (by omega) (by omega)
  have he1 : wr (m 17 0) = (m 17 0) := wr_id (by omega) (by omega)
  have key := @zb145_6r T hT D κ m w o p lo hlo
  simp only [he0, he1, Int.toNat_natCast] at key
  exact key
    (fun x0 => k1 x0 (zB_u (zB_u hB (show 0 ≤ 1 ∧ 1 ≤ 26 from ⟨by omega, by omega⟩)) trivial))
    k2
theorem zb145_26r (hT : zRules T) {D : Nat} {κ : Option zA → zM → Prop} {m : zM} {w : Nat} {o : Nat} {p : Nat} {v : Int} {lo : zL} (hlo : z_keep [0, 1, 2, 3] lo = [(0, zr 1), (1, zi (w : Int)), (2, zi (o : Int)), (3, zi (p : Int))]) 
    (o1 : T (D + 4) 31 (0, [(0, zr 17), (1, zi v), (2, zi (w : Int))], [], m) (fun r m1 => T (D + 5) 145 (30, [(0, zr 1), (1, zi (w : Int)), (2, zi (o : Int)), (3, zi (p : Int))], r.toList ++ [], m1) κ)) :
    T (D + 5) 145 (26, lo, [zi v, zr 17], m) κ :=
  zkeep hT hlo (hT.1 [(6, [0, 1, 2, 3])] 6 (D + 5) 145 _ κ (o1))
theorem zb145_26 (hT : zRules T) {D : Nat} {κ : Option zA → zM → Prop} {m : zM} {w : Nat} {o : Nat} {p : Nat} {v : Int} {lo : zL} (hlo : z_keep [0, 1, 2, 3] lo = [(0, zr 1), (1, zi (w : Int)), (2, zi (o : Int)), (3, zi (p : Int))])  (hB : zB m) (h_w : w ≤ 255) (h_o : o ≤ 63) (h_p : p ≤ 5) (h_v : 0 ≤ v ∧ v ≤ 99) 
    (k1 : T (D + 4) 31 (0, [(0, zr 17), (1, zi v), (2, zi (w : Int))], [], m) (fun r m1 => T (D + 5) 145 (30, [(0, zr 1), (1, zi (w : Int)), (2, zi (o : Int)), (3, zi (p : Int))], r.toList ++ [], m1) κ)) :
    T (D + 5) 145 (26, lo, [zi v, zr 17], m) κ := by
  exact zb145_26r hT hlo
    k1
theorem zb145_30r (hT : zRules T) {D : Nat} {κ : Option zA → zM → Prop} {m : zM} {w : Nat} {o : Nat} {p : Nat} {v : Int} {lo : zL} (hlo : z_keep [0, 1, 2, 3] lo = [(0, zr 1), (1, zi (w : Int)), (2, zi (o : Int)), (3, zi (p : Int))]) 
    (o1 : wr v = (-1) → T (D + 5) 145 (6, [(0, zr 1), (1, zi (w : Int)), (2, zi (o : Int)), (3, zi ((p : Int) + 1))], [], m) κ)
    (o2 : ¬ wr v = (-1) → T (D + 5) 145 (6, [(0, zr 1), (1, zi (z_or (w : Int) (z_shl 1 v))), (2, zi (z_or (o : Int) (z_shl 1 (p : Int)))), (3, zi ((p : Int) + 1))], [], m) κ) :
    T (D + 5) 145 (30, lo, [zi v], m) κ :=
  zkeep hT hlo (hT.1 [(6, [0, 1, 2, 3])] 6 (D + 5) 145 _ κ (And.intro (fun a1 => (o1 a1)) (fun a2 => (hT.1 [(6, [0, 1, 2, 3])] 6 (D + 5) 145 (40, [(0, zr 1), (1, zi (w : Int)), (2, zi (o : Int)), (3, zi (p : Int)), (4, zi v)], [zi 1, zi (w : Int)], m) _ (hT.1 [(6, [0, 1, 2, 3])] 6 (D + 5) 145 (47, [(0, zr 1), (1, zi (z_or (w : Int) (z_shl 1 v))), (2, zi (o : Int)), (3, zi (p : Int)), (4, zi v)], [zi 1, zi (o : Int)], m) _ (o2 a2))))))
theorem zb145_30 (hT : zRules T) {D : Nat} {κ : Option zA → zM → Prop} {m : zM} {w : Nat} {o : Nat} {p : Nat} {v : Int} {lo : zL} (hlo : z_keep [0, 1, 2, 3] lo = [(0, zr 1), (1, zi (w : Int)), (2, zi (o : Int)), (3, zi (p : Int))])  (hB : zB m) (h_w : w ≤ 255) (h_o : o ≤ 63) (h_p : p ≤ 5) (h_v : (-1) ≤ v ∧ v ≤ 7) 
    (k1 : v = (-1) → T (D + 5) 145 (6, [(0, zr 1), (1, zi (w : Int)), (2, zi (o : Int)), (3, zi ((p : Int) + 1))], [], m) κ)
    (k2 : ¬ v = (-1) → T (D + 5) 145 (6, [(0, zr 1), (1, zi (z_or (w : Int) (z_shl 1 v))), (2, zi (z_or (o : Int) (z_shl 1 (p : Int)))), (3, zi ((p : Int) + 1))], [], m) κ) :
    T (D + 5) 145 (30, lo, [zi v], m) κ := by
  have hb4 : (-2147483648) ≤ (z_shl 1 v) ∧ (z_shl 1 v) ≤ 2147483647 := z_shlB 1 v
  have hb5 : (-2147483648) ≤ (z_or (w : Int) (z_shl 1 v)) ∧ (z_or (w : Int) (z_shl 1 v)) ≤ 2147483647 := z_orB (w : Int) (z_shl 1 v)
  have hb6 : (-2147483648) ≤ (z_shl 1 (p : Int)) ∧ (z_shl 1 (p : Int)) ≤ 2147483647 := z_shlB 1 (p : Int)
  have hb7 : (-2147483648) ≤ (z_or (o : Int) (z_shl 1 (p : Int))) ∧ (z_or (o : Int) (z_shl 1 (p : Int))) ≤ 2147483647 := z_orB (o : Int) (z_shl 1 (p : Int))
  have he0 : wr v = v := wr_id (by omega) (by omega)
  have key := @zb145_30r T hT D κ m w o p v lo hlo
  simp only [he0, Int.toNat_natCast] at key
  exact key
    k1
    k2
theorem zb145_65r (hT : zRules T) {D : Nat} {κ : Option zA → zM → Prop} {m : zM} {o : Nat} {lo : zL} (hlo : z_keep [2] lo = [(2, zi (o : Int))]) 
    (o1 : T (D + 4) 293 (0, [(0, zi (o : Int))], [], m) (fun r m1 => T (D + 5) 145 (69, [(2, zi (o : Int))], r.toList ++ [], m1) κ)) :
    T (D + 5) 145 (65, lo, [], m) κ :=
  zkeep hT hlo (hT.1 [(6, [0, 1, 2, 3])] 6 (D + 5) 145 _ κ (o1))
theorem zb145_65 (hT : zRules T) {D : Nat} {κ : Option zA → zM → Prop} {m : zM} {o : Nat} {lo : zL} (hlo : z_keep [2] lo = [(2, zi (o : Int))])  (hB : zB m) (h_o : o ≤ 63) 
    (k1 : T (D + 4) 293 (0, [(0, zi (o : Int))], [], m) (fun r m1 => T (D + 5) 145 (69, [(2, zi (o : Int))], r.toList ++ [], m1) κ)) :
    T (D + 5) 145 (65, lo, [], m) κ := by
  exact zb145_65r hT hlo
    k1
theorem zb145_69r (hT : zRules T) {D : Nat} {κ : Option zA → zM → Prop} {m : zM} {v : Int} {lo : zL} (hlo : z_keep [] lo = []) 
    (o1 : κ (some (zi (wr v))) m) :
    T (D + 5) 145 (69, lo, [zi v], m) κ :=
  zkeep hT hlo (hT.1 [(6, [0, 1, 2, 3])] 6 (D + 5) 145 _ κ (o1))
theorem zb145_69 (hT : zRules T) {D : Nat} {κ : Option zA → zM → Prop} {m : zM} {v : Int} {lo : zL} (hlo : z_keep [] lo = [])  (h_v : (-2147483648) ≤ v ∧ v ≤ 2147483647) 
    (k1 : κ (some (zi v)) m) :
    T (D + 5) 145 (69, lo, [zi v], m) κ := by
  have he0 : wr v = v := wr_id (by omega) (by omega)
  have key := @zb145_69r T hT D κ m v lo hlo
  simp only [he0, Int.toNat_natCast] at key
  exact key
    k1
theorem zb31_0r (hT : zRules T) {D : Nat} {κ : Option zA → zM → Prop} {m : zM} {v : Int} {w : Nat} 
    (o1 : T (D + 1) 31 (2, [(0, zr 17), (1, zi v), (2, zi (w : Int)), (3, zi 0)], [], m) κ) :
    T (D + 1) 31 (0, [(0, zr 17), (1, zi v), (2, zi (w : Int))], [], m) κ :=
  hT.1 [(2, [0, 1, 2, 3])] 6 (D + 1) 31 _ κ (o1)
theorem zb31_0 (hT : zRules T) {D : Nat} {κ : Option zA → zM → Prop} {m : zM} {v : Int} {w : Nat}  (hB : zB m) (h_v : 0 ≤ v ∧ v ≤ 99) (h_w : w ≤ 255) 
    (k1 : T (D + 1) 31 (2, [(0, zr 17), (1, zi v), (2, zi (w : Int)), (3, zi 0)], [], m) κ) :
    T (D + 1) 31 (0, [(0, zr 17), (1, zi v), (2, zi (w : Int))], [], m) κ := by
  exact zb31_0r hT
    k1
theorem zb31_2r (hT : zRules T) {D : Nat} {κ : Option zA → zM → Prop} {m : zM} {v : Int} {w : Nat} {i : Nat} {lo : zL} (hlo : z_keep [0, 1, 2, 3] lo = [(0, zr 17), (1, zi v), (2, zi (w : Int)), (3, zi (i : Int))]) 
    (o1 : ¬ wr (i : Int) < wr (m 17 1) → κ (some (zi (-1))) m)
    (o2 : wr (i : Int) < wr (m 17 1) → ¬ wr (z_and (z_shr (w : Int) (i : Int)) 1) = 0 → T (D + 1) 31 (2, [(0, zr 17), (1, zi v), (2, zi (w : Int)), (3, zi ((i : Int) + 1))], [], m) κ)
    (o3 : wr (i : Int) < wr (m 17 1) → wr (z_and (z_shr (w : Int) (i : Int)) 1) = 0 → (0 ≤ wr (i : Int) ∧ wr (i : Int) < 8))
    (o4 : wr (i : Int) < wr (m 17 1) → wr (z_and (z_shr (w : Int) (i : Int)) 1) = 0 → ¬ wr (m 21 ((wr (i : Int)).toNat)) = wr v → T (D + 1) 31 (2, [(0, zr 17), (1, zi v), (2, zi (w : Int)), (3, zi ((i : Int) + 1))], [], m) κ)
    (o5 : wr (i : Int) < wr (m 17 1) → wr (z_and (z_shr (w : Int) (i : Int)) 1) = 0 → wr (m 21 ((wr (i : Int)).toNat)) = wr v → κ (some (zi (wr (i : Int)))) m) :
    T (D + 1) 31 (2, lo, [], m) κ :=
  zkeep hT hlo (hT.1 [(2, [0, 1, 2, 3])] 6 (D + 1) 31 _ κ (And.intro (fun a1 => (o1 a1)) (fun a2 => (hT.1 [(2, [0, 1, 2, 3])] 6 (D + 1) 31 (12, [(0, zr 17), (1, zi v), (2, zi (w : Int)), (3, zi (i : Int))], [zi (i : Int), zi (w : Int)], m) _ (And.intro (fun a3 => (o2 (Classical.byContradiction a2) a3)) (fun a4 => (hT.1 [(2, [0, 1, 2, 3])] 6 (D + 1) 31 (22, [(0, zr 17), (1, zi v), (2, zi (w : Int)), (3, zi (i : Int))], [zr 21], m) _ (And.intro (o3 (Classical.byContradiction a2) (Classical.byContradiction a4)) (And.intro (fun a5 => (o4 (Classical.byContradiction a2) (Classical.byContradiction a4) a5)) (fun a6 => (o5 (Classical.byContradiction a2) (Classical.byContradiction a4) (Classical.byContradiction a6))))))))))))
theorem zb31_2 (hT : zRules T) {D : Nat} {κ : Option zA → zM → Prop} {m : zM} {v : Int} {w : Nat} {i : Nat} {lo : zL} (hlo : z_keep [0, 1, 2, 3] lo = [(0, zr 17), (1, zi v), (2, zi (w : Int)), (3, zi (i : Int))])  (hB : zB m) (h_v : 0 ≤ v ∧ v ≤ 99) (h_w : w ≤ 255) (h_i : i ≤ 8) 
    (k1 : ¬ (i : Int) < (m 17 1) → κ (some (zi (-1))) m)
    (k2 : (i : Int) < (m 17 1) → ¬ (z_and (z_shr (w : Int) (i : Int)) 1) = 0 → T (D + 1) 31 (2, [(0, zr 17), (1, zi v), (2, zi (w : Int)), (3, zi ((i : Int) + 1))], [], m) κ)
    (k3 : (i : Int) < (m 17 1) → (z_and (z_shr (w : Int) (i : Int)) 1) = 0 → ¬ (m 21 i) = v → T (D + 1) 31 (2, [(0, zr 17), (1, zi v), (2, zi (w : Int)), (3, zi ((i : Int) + 1))], [], m) κ)
    (k4 : (i : Int) < (m 17 1) → (z_and (z_shr (w : Int) (i : Int)) 1) = 0 → (m 21 i) = v → κ (some (zi (i : Int))) m) :
    T (D + 1) 31 (2, lo, [], m) κ := by
  have hb3 : 0 ≤ (m 17 1) ∧ (m 17 1) ≤ 8 := hB 17 1
  have hb4 : (-2147483648) ≤ (z_shr (w : Int) (i : Int)) ∧ (z_shr (w : Int) (i : Int)) ≤ 2147483647 := z_shrB (w : Int) (i : Int)
  have hb5 : 0 ≤ (z_and (z_shr (w : Int) (i : Int)) 1) ∧ (z_and (z_shr (w : Int) (i : Int)) 1) ≤ 1 := z_andC (z_shr (w : Int) (i : Int)) 1 (by decide)
  have hb6 : (-1) ≤ (m 21 i) ∧ (m 21 i) ≤ 99 := hB 21 i
  have he0 : wr (i : Int) = (i : Int) := wr_id (by omega) (by omega)
  have he1 : wr (m 17 1) = (m 17 1) := wr_id (by omega) (by omega)
  have he2 : wr (z_and (z_shr (w : Int) (i : Int)) 1) = (z_and (z_shr (w : Int) (i : Int)) 1) := wr_id (by omega) (by omega)
  have he3 : (i : Int).toNat = i := by omega
  have he4 : wr (m 21 i) = (m 21 i) := wr_id (by omega) (by omega)
  have he5 : wr v = v := wr_id (by omega) (by omega)
  have key := @zb31_2r T hT D κ m v w i lo hlo
  simp only [he0, he1, he2, he3, he4, he5, Int.toNat_natCast] at key
  exact key
    k1
    k2
    (fun x0 x1 => by refine ⟨?_, ?_⟩ <;> omega)
    k3
    k4
theorem zb292_0r (hT : zRules T) {D : Nat} {κ : Option zA → zM → Prop} {m : zM} {x : Nat} 
    (o1 : 0 < wr (z_and (z_xor (x : Int) (-1)) ((x : Int) - 1)) → ¬ 65536 < wr (z_and (z_xor (x : Int) (-1)) ((x : Int) - 1)) → ¬ 256 < wr (z_and (z_xor (x : Int) (-1)) ((x : Int) - 1)) → ¬ 16 < wr (z_and (z_xor (x : Int) (-1)) ((x : Int) - 1)) → ¬ 4 < wr (z_and (z_xor (x : Int) (-1)) ((x : Int) - 1)) → κ (some (zi (wr (1 + (z_ush (z_and (z_xor (x : Int) (-1)) ((x : Int) - 1)) 1))))) m)
    (o2 : 0 < wr (z_and (z_xor (x : Int) (-1)) ((x : Int) - 1)) → ¬ 65536 < wr (z_and (z_xor (x : Int) (-1)) ((x : Int) - 1)) → ¬ 256 < wr (z_and (z_xor (x : Int) (-1)) ((x : Int) - 1)) → ¬ 16 < wr (z_and (z_xor (x : Int) (-1)) ((x : Int) - 1)) → 4 < wr (z_and (z_xor (x : Int) (-1)) ((x : Int) - 1)) → κ (some (zi (wr (3 + (z_ush (z_ush (z_and (z_xor (x : Int) (-1)) ((x : Int) - 1)) 2) 1))))) m)
    (o3 : 0 < wr (z_and (z_xor (x : Int) (-1)) ((x : Int) - 1)) → ¬ 65536 < wr (z_and (z_xor (x : Int) (-1)) ((x : Int) - 1)) → ¬ 256 < wr (z_and (z_xor (x : Int) (-1)) ((x : Int) - 1)) → 16 < wr (z_and (z_xor (x : Int) (-1)) ((x : Int) - 1)) → ¬ 4 < wr (z_ush (z_and (z_xor (x : Int) (-1)) ((x : Int) - 1)) 4) → κ (some (zi (wr (5 + (z_ush (z_ush (z_and (z_xor (x : Int) (-1)) ((x : Int) - 1)) 4) 1))))) m)
    (o4 : 0 < wr (z_and (z_xor (x : Int) (-1)) ((x : Int) - 1)) → ¬ 65536 < wr (z_and (z_xor (x : Int) (-1)) ((x : Int) - 1)) → ¬ 256 < wr (z_and (z_xor (x : Int) (-1)) ((x : Int) - 1)) → 16 < wr (z_and (z_xor (x : Int) (-1)) ((x : Int) - 1)) → 4 < wr (z_ush (z_and (z_xor (x : Int) (-1)) ((x : Int) - 1)) 4) → κ (some (zi (wr (7 + (z_ush (z_ush (z_ush (z_and (z_xor (x : Int) (-1)) ((x : Int) - 1)) 4) 2) 1))))) m)
    (o5 : 0 < wr (z_and (z_xor (x : Int) (-1)) ((x : Int) - 1)) → ¬ 65536 < wr (z_and (z_xor (x : Int) (-1)) ((x : Int) - 1)) → 256 < wr (z_and (z_xor (x : Int) (-1)) ((x : Int) - 1)) → ¬ 16 < wr (z_ush (z_and (z_xor (x : Int) (-1)) ((x : Int) - 1)) 8) → ¬ 4 < wr (z_ush (z_and (z_xor (x : Int) (-1)) ((x : Int) - 1)) 8) → κ (some (zi (wr (9 + (z_ush (z_ush (z_and (z_xor (x : Int) (-1)) ((x : Int) - 1)) 8) 1))))) m)
    (o6 : 0 < wr (z_and (z_xor (x : Int) (-1)) ((x : Int) - 1)) → ¬ 65536 < wr (z_and (z_xor (x : Int) (-1)) ((x : Int) - 1)) → 256 < wr (z_and (z_xor (x : Int) (-1)) ((x : Int) - 1)) → ¬ 16 < wr (z_ush (z_and (z_xor (x : Int) (-1)) ((x : Int) - 1)) 8) → 4 < wr (z_ush (z_and (z_xor (x : Int) (-1)) ((x : Int) - 1)) 8) → κ (some (zi (wr (11 + (z_ush (z_ush (z_ush (z_and (z_xor (x : Int) (-1)) ((x : Int) - 1)) 8) 2) 1))))) m)
    (o7 : 0 < wr (z_and (z_xor (x : Int) (-1)) ((x : Int) - 1)) → ¬ 65536 < wr (z_and (z_xor (x : Int) (-1)) ((x : Int) - 1)) → 256 < wr (z_and (z_xor (x : Int) (-1)) ((x : Int) - 1)) → 16 < wr (z_ush (z_and (z_xor (x : Int) (-1)) ((x : Int) - 1)) 8) → ¬ 4 < wr (z_ush (z_ush (z_and (z_xor (x : Int) (-1)) ((x : Int) - 1)) 8) 4) → κ (some (zi (wr (13 + (z_ush (z_ush (z_ush (z_and (z_xor (x : Int) (-1)) ((x : Int) - 1)) 8) 4) 1))))) m)
    (o8 : 0 < wr (z_and (z_xor (x : Int) (-1)) ((x : Int) - 1)) → ¬ 65536 < wr (z_and (z_xor (x : Int) (-1)) ((x : Int) - 1)) → 256 < wr (z_and (z_xor (x : Int) (-1)) ((x : Int) - 1)) → 16 < wr (z_ush (z_and (z_xor (x : Int) (-1)) ((x : Int) - 1)) 8) → 4 < wr (z_ush (z_ush (z_and (z_xor (x : Int) (-1)) ((x : Int) - 1)) 8) 4) → κ (some (zi (wr (15 + (z_ush (z_ush (z_ush (z_ush (z_and (z_xor (x : Int) (-1)) ((x : Int) - 1)) 8) 4) 2) 1))))) m)
    (o9 : 0 < wr (z_and (z_xor (x : Int) (-1)) ((x : Int) - 1)) → 65536 < wr (z_and (z_xor (x : Int) (-1)) ((x : Int) - 1)) → ¬ 256 < wr (z_ush (z_and (z_xor (x : Int) (-1)) ((x : Int) - 1)) 16) → ¬ 16 < wr (z_ush (z_and (z_xor (x : Int) (-1)) ((x : Int) - 1)) 16) → ¬ 4 < wr (z_ush (z_and (z_xor (x : Int) (-1)) ((x : Int) - 1)) 16) → κ (some (zi (wr (17 + (z_ush (z_ush (z_and (z_xor (x : Int) (-1)) ((x : Int) - 1)) 16) 1))))) m)
    (o10 : 0 < wr (z_and (z_xor (x : Int) (-1)) ((x : Int) - 1)) → 65536 < wr (z_and (z_xor (x : Int) (-1)) ((x : Int) - 1)) → ¬ 256 < wr (z_ush (z_and (z_xor (x : Int) (-1)) ((x : Int) - 1)) 16) → ¬ 16 < wr (z_ush (z_and (z_xor (x : Int) (-1)) ((x : Int) - 1)) 16) → 4 < wr (z_ush (z_and (z_xor (x : Int) (-1)) ((x : Int) - 1)) 16) → κ (some (zi (wr (19 + (z_ush (z_ush (z_ush (z_and (z_xor (x : Int) (-1)) ((x : Int) - 1)) 16) 2) 1))))) m)
    (o11 : 0 < wr (z_and (z_xor (x : Int) (-1)) ((x : Int) - 1)) → 65536 < wr (z_and (z_xor (x : Int) (-1)) ((x : Int) - 1)) → ¬ 256 < wr (z_ush (z_and (z_xor (x : Int) (-1)) ((x : Int) - 1)) 16) → 16 < wr (z_ush (z_and (z_xor (x : Int) (-1)) ((x : Int) - 1)) 16) → ¬ 4 < wr (z_ush (z_ush (z_and (z_xor (x : Int) (-1)) ((x : Int) - 1)) 16) 4) → κ (some (zi (wr (21 + (z_ush (z_ush (z_ush (z_and (z_xor (x : Int) (-1)) ((x : Int) - 1)) 16) 4) 1))))) m)
    (o12 : 0 < wr (z_and (z_xor (x : Int) (-1)) ((x : Int) - 1)) → 65536 < wr (z_and (z_xor (x : Int) (-1)) ((x : Int) - 1)) → ¬ 256 < wr (z_ush (z_and (z_xor (x : Int) (-1)) ((x : Int) - 1)) 16) → 16 < wr (z_ush (z_and (z_xor (x : Int) (-1)) ((x : Int) - 1)) 16) → 4 < wr (z_ush (z_ush (z_and (z_xor (x : Int) (-1)) ((x : Int) - 1)) 16) 4) → κ (some (zi (wr (23 + (z_ush (z_ush (z_ush (z_ush (z_and (z_xor (x : Int) (-1)) ((x : Int) - 1)) 16) 4) 2) 1))))) m)
    (o13 : 0 < wr (z_and (z_xor (x : Int) (-1)) ((x : Int) - 1)) → 65536 < wr (z_and (z_xor (x : Int) (-1)) ((x : Int) - 1)) → 256 < wr (z_ush (z_and (z_xor (x : Int) (-1)) ((x : Int) - 1)) 16) → ¬ 16 < wr (z_ush (z_ush (z_and (z_xor (x : Int) (-1)) ((x : Int) - 1)) 16) 8) → ¬ 4 < wr (z_ush (z_ush (z_and (z_xor (x : Int) (-1)) ((x : Int) - 1)) 16) 8) → κ (some (zi (wr (25 + (z_ush (z_ush (z_ush (z_and (z_xor (x : Int) (-1)) ((x : Int) - 1)) 16) 8) 1))))) m)
    (o14 : 0 < wr (z_and (z_xor (x : Int) (-1)) ((x : Int) - 1)) → 65536 < wr (z_and (z_xor (x : Int) (-1)) ((x : Int) - 1)) → 256 < wr (z_ush (z_and (z_xor (x : Int) (-1)) ((x : Int) - 1)) 16) → ¬ 16 < wr (z_ush (z_ush (z_and (z_xor (x : Int) (-1)) ((x : Int) - 1)) 16) 8) → 4 < wr (z_ush (z_ush (z_and (z_xor (x : Int) (-1)) ((x : Int) - 1)) 16) 8) → κ (some (zi (wr (27 + (z_ush (z_ush (z_ush (z_ush (z_and (z_xor (x : Int) (-1)) ((x : Int) - 1)) 16) 8) 2) 1))))) m)
    (o15 : 0 < wr (z_and (z_xor (x : Int) (-1)) ((x : Int) - 1)) → 65536 < wr (z_and (z_xor (x : Int) (-1)) ((x : Int) - 1)) → 256 < wr (z_ush (z_and (z_xor (x : Int) (-1)) ((x : Int) - 1)) 16) → 16 < wr (z_ush (z_ush (z_and (z_xor (x : Int) (-1)) ((x : Int) - 1)) 16) 8) → ¬ 4 < wr (z_ush (z_ush (z_ush (z_and (z_xor (x : Int) (-1)) ((x : Int) - 1)) 16) 8) 4) → κ (some (zi (wr (29 + (z_ush (z_ush (z_ush (z_ush (z_and (z_xor (x : Int) (-1)) ((x : Int) - 1)) 16) 8) 4) 1))))) m)
    (o16 : 0 < wr (z_and (z_xor (x : Int) (-1)) ((x : Int) - 1)) → 65536 < wr (z_and (z_xor (x : Int) (-1)) ((x : Int) - 1)) → 256 < wr (z_ush (z_and (z_xor (x : Int) (-1)) ((x : Int) - 1)) 16) → 16 < wr (z_ush (z_ush (z_and (z_xor (x : Int) (-1)) ((x : Int) - 1)) 16) 8) → 4 < wr (z_ush (z_ush (z_ush (z_and (z_xor (x : Int) (-1)) ((x : Int) - 1)) 16) 8) 4) → κ (some (zi (wr (31 + (z_ush (z_ush (z_ush (z_ush (z_ush (z_and (z_xor (x : Int) (-1)) ((x : Int) - 1)) 16) 8) 4) 2) 1))))) m)
    (o17 : ¬ 0 < wr (z_and (z_xor (x : Int) (-1)) ((x : Int) - 1)) → κ (some (zi (wr (z_and (z_and (z_xor (x : Int) (-1)) ((x : Int) - 1)) 32)))) m) :
    T (D + 1) 292 (0, [(0, zi (x : Int))], [], m) κ :=
  hT.1 [] 6 (D + 1) 292 _ κ (hT.1 [] 6 (D + 1) 292 (6, [(0, zi (x : Int))], [zi ((x : Int) - 1), zi (z_xor (x : Int) (-1))], m) _ (And.intro (fun a1 => (hT.1 [] 6 (D + 1) 292 (19, [(0, zi (z_and (z_xor (x : Int) (-1)) ((x : Int) - 1))), (1, zi 1)], [], m) _ (And.intro (fun a3 => (And.intro (fun a5 => (hT.1 [] 6 (D + 1) 292 (49, [(0, zi (z_and (z_xor (x : Int) (-1)) ((x : Int) - 1))), (1, zi 1)], [], m) _ (And.intro (fun a7 => (And.intro (fun a9 => (hT.1 [] 6 (D + 1) 292 (74, [(0, zi (z_and (z_xor (x : Int) (-1)) ((x : Int) - 1))), (1, zi 1)], [], m) _ (o1 a1 a3 a5 a7 a9))) (fun a10 => (hT.1 [] 6 (D + 1) 292 (67, [(0, zi (z_and (z_xor (x : Int) (-1)) ((x : Int) - 1))), (1, zi 1)], [], m) _ (hT.1 [] 6 (D + 1) 292 (75, [(0, zi (z_ush (z_and (z_xor (x : Int) (-1)) ((x : Int) - 1)) 2)), (1, zi 3)], [zi 3], m) _ (o2 a1 a3 a5 a7 (Classical.byContradiction a10))))))) (fun a8 => (hT.1 [] 6 (D + 1) 292 (60, [(0, zi (z_and (z_xor (x : Int) (-1)) ((x : Int) - 1))), (1, zi 5)], [zi 4, zi (z_and (z_xor (x : Int) (-1)) ((x : Int) - 1))], m) _ (And.intro (fun a11 => (hT.1 [] 6 (D + 1) 292 (75, [(0, zi (z_ush (z_and (z_xor (x : Int) (-1)) ((x : Int) - 1)) 4)), (1, zi 5)], [zi 5], m) _ (o3 a1 a3 a5 (Classical.byContradiction a8) a11))) (fun a12 => (hT.1 [] 6 (D + 1) 292 (70, [(0, zi (z_ush (z_and (z_xor (x : Int) (-1)) ((x : Int) - 1)) 4)), (1, zi 7)], [], m) _ (hT.1 [] 6 (D + 1) 292 (76, [(0, zi (z_ush (z_ush (z_and (z_xor (x : Int) (-1)) ((x : Int) - 1)) 4) 2)), (1, zi 7)], [zi (z_ush (z_ush (z_and (z_xor (x : Int) (-1)) ((x : Int) - 1)) 4) 2), zi 7], m) _ (o4 a1 a3 a5 (Classical.byContradiction a8) (Classical.byContradiction a12))))))))))) (fun a6 => (hT.1 [] 6 (D + 1) 292 (41, [(0, zi (z_and (z_xor (x : Int) (-1)) ((x : Int) - 1))), (1, zi 1)], [], m) _ (hT.1 [] 6 (D + 1) 292 (50, [(0, zi (z_ush (z_and (z_xor (x : Int) (-1)) ((x : Int) - 1)) 8)), (1, zi 9)], [zi (z_ush (z_and (z_xor (x : Int) (-1)) ((x : Int) - 1)) 8)], m) _ (And.intro (fun a13 => (And.intro (fun a15 => (hT.1 [] 6 (D + 1) 292 (75, [(0, zi (z_ush (z_and (z_xor (x : Int) (-1)) ((x : Int) - 1)) 8)), (1, zi 9)], [zi 9], m) _ (o5 a1 a3 (Classical.byContradiction a6) a13 a15))) (fun a16 => (hT.1 [] 6 (D + 1) 292 (70, [(0, zi (z_ush (z_and (z_xor (x : Int) (-1)) ((x : Int) - 1)) 8)), (1, zi 11)], [], m) _ (hT.1 [] 6 (D + 1) 292 (76, [(0, zi (z_ush (z_ush (z_and (z_xor (x : Int) (-1)) ((x : Int) - 1)) 8) 2)), (1, zi 11)], [zi (z_ush (z_ush (z_and (z_xor (x : Int) (-1)) ((x : Int) - 1)) 8) 2), zi 11], m) _ (o6 a1 a3 (Classical.byContradiction a6) a13 (Classical.byContradiction a16))))))) (fun a14 => (hT.1 [] 6 (D + 1) 292 (61, [(0, zi (z_ush (z_and (z_xor (x : Int) (-1)) ((x : Int) - 1)) 8)), (1, zi 13)], [zi (z_ush (z_ush (z_and (z_xor (x : Int) (-1)) ((x : Int) - 1)) 8) 4)], m) _ (And.intro (fun a17 => (hT.1 [] 6 (D + 1) 292 (76, [(0, zi (z_ush (z_ush (z_and (z_xor (x : Int) (-1)) ((x : Int) - 1)) 8) 4)), (1, zi 13)], [zi (z_ush (z_ush (z_and (z_xor (x : Int) (-1)) ((x : Int) - 1)) 8) 4), zi 13], m) _ (o7 a1 a3 (Classical.byContradiction a6) (Classical.byContradiction a14) a17))) (fun a18 => (hT.1 [] 6 (D + 1) 292 (71, [(0, zi (z_ush (z_ush (z_and (z_xor (x : Int) (-1)) ((x : Int) - 1)) 8) 4)), (1, zi 15)], [zi (z_ush (z_ush (z_and (z_xor (x : Int) (-1)) ((x : Int) - 1)) 8) 4)], m) _ (hT.1 [] 6 (D + 1) 292 (77, [(0, zi (z_ush (z_ush (z_ush (z_and (z_xor (x : Int) (-1)) ((x : Int) - 1)) 8) 4) 2)), (1, zi 15)], [zi 1, zi (z_ush (z_ush (z_ush (z_and (z_xor (x : Int) (-1)) ((x : Int) - 1)) 8) 4) 2), zi 15], m) _ (o8 a1 a3 (Classical.byContradiction a6) (Classical.byContradiction a14) (Classical.byContradiction a18)))))))))))))) (fun a4 => (hT.1 [] 6 (D + 1) 292 (32, [(0, zi (z_and (z_xor (x : Int) (-1)) ((x : Int) - 1))), (1, zi 17)], [zi 16, zi (z_and (z_xor (x : Int) (-1)) ((x : Int) - 1))], m) _ (And.intro (fun a19 => (hT.1 [] 6 (D + 1) 292 (50, [(0, zi (z_ush (z_and (z_xor (x : Int) (-1)) ((x : Int) - 1)) 16)), (1, zi 17)], [zi (z_ush (z_and (z_xor (x : Int) (-1)) ((x : Int) - 1)) 16)], m) _ (And.intro (fun a21 => (And.intro (fun a23 => (hT.1 [] 6 (D + 1) 292 (75, [(0, zi (z_ush (z_and (z_xor (x : Int) (-1)) ((x : Int) - 1)) 16)), (1, zi 17)], [zi 17], m) _ (o9 a1 (Classical.byContradiction a4) a19 a21 a23))) (fun a24 => (hT.1 [] 6 (D + 1) 292 (70, [(0, zi (z_ush (z_and (z_xor (x : Int) (-1)) ((x : Int) - 1)) 16)), (1, zi 19)], [], m) _ (hT.1 [] 6 (D + 1) 292 (76, [(0, zi (z_ush (z_ush (z_and (z_xor (x : Int) (-1)) ((x : Int) - 1)) 16) 2)), (1, zi 19)], [zi (z_ush (z_ush (z_and (z_xor (x : Int) (-1)) ((x : Int) - 1)) 16) 2), zi 19], m) _ (o10 a1 (Classical.byContradiction a4) a19 a21 (Classical.byContradiction a24))))))) (fun a22 => (hT.1 [] 6 (D + 1) 292 (61, [(0, zi (z_ush (z_and (z_xor (x : Int) (-1)) ((x : Int) - 1)) 16)), (1, zi 21)], [zi (z_ush (z_ush (z_and (z_xor (x : Int) (-1)) ((x : Int) - 1)) 16) 4)], m) _ (And.intro (fun a25 => (hT.1 [] 6 (D + 1) 292 (76, [(0, zi (z_ush (z_ush (z_and (z_xor (x : Int) (-1)) ((x : Int) - 1)) 16) 4)), (1, zi 21)], [zi (z_ush (z_ush (z_and (z_xor (x : Int) (-1)) ((x : Int) - 1)) 16) 4), zi 21], m) _ (o11 a1 (Classical.byContradiction a4) a19 (Classical.byContradiction a22) a25))) (fun a26 => (hT.1 [] 6 (D + 1) 292 (71, [(0, zi (z_ush (z_ush (z_and (z_xor (x : Int) (-1)) ((x : Int) - 1)) 16) 4)), (1, zi 23)], [zi (z_ush (z_ush (z_and (z_xor (x : Int) (-1)) ((x : Int) - 1)) 16) 4)], m) _ (hT.1 [] 6 (D + 1) 292 (77, [(0, zi (z_ush (z_ush (z_ush (z_and (z_xor (x : Int) (-1)) ((x : Int) - 1)) 16) 4) 2)), (1, zi 23)], [zi 1, zi (z_ush (z_ush (z_ush (z_and (z_xor (x : Int) (-1)) ((x : Int) - 1)) 16) 4) 2), zi 23], m) _ (o12 a1 (Classical.byContradiction a4) a19 (Classical.byContradiction a22) (Classical.byContradiction a26))))))))))) (fun a20 => (hT.1 [] 6 (D + 1) 292 (44, [(0, zi (z_ush (z_and (z_xor (x : Int) (-1)) ((x : Int) - 1)) 16)), (1, zi 25)], [], m) _ (hT.1 [] 6 (D + 1) 292 (52, [(0, zi (z_ush (z_ush (z_and (z_xor (x : Int) (-1)) ((x : Int) - 1)) 16) 8)), (1, zi 25)], [zi 16, zi (z_ush (z_ush (z_and (z_xor (x : Int) (-1)) ((x : Int) - 1)) 16) 8)], m) _ (And.intro (fun a27 => (And.intro (fun a29 => (hT.1 [] 6 (D + 1) 292 (76, [(0, zi (z_ush (z_ush (z_and (z_xor (x : Int) (-1)) ((x : Int) - 1)) 16) 8)), (1, zi 25)], [zi (z_ush (z_ush (z_and (z_xor (x : Int) (-1)) ((x : Int) - 1)) 16) 8), zi 25], m) _ (o13 a1 (Classical.byContradiction a4) (Classical.byContradiction a20) a27 a29))) (fun a30 => (hT.1 [] 6 (D + 1) 292 (71, [(0, zi (z_ush (z_ush (z_and (z_xor (x : Int) (-1)) ((x : Int) - 1)) 16) 8)), (1, zi 27)], [zi (z_ush (z_ush (z_and (z_xor (x : Int) (-1)) ((x : Int) - 1)) 16) 8)], m) _ (hT.1 [] 6 (D + 1) 292 (77, [(0, zi (z_ush (z_ush (z_ush (z_and (z_xor (x : Int) (-1)) ((x : Int) - 1)) 16) 8) 2)), (1, zi 27)], [zi 1, zi (z_ush (z_ush (z_ush (z_and (z_xor (x : Int) (-1)) ((x : Int) - 1)) 16) 8) 2), zi 27], m) _ (o14 a1 (Classical.byContradiction a4) (Classical.byContradiction a20) a27 (Classical.byContradiction a30))))))) (fun a28 => (hT.1 [] 6 (D + 1) 292 (62, [(0, zi (z_ush (z_ush (z_ush (z_and (z_xor (x : Int) (-1)) ((x : Int) - 1)) 16) 8) 4)), (1, zi 29)], [], m) _ (And.intro (fun a31 => (hT.1 [] 6 (D + 1) 292 (77, [(0, zi (z_ush (z_ush (z_ush (z_and (z_xor (x : Int) (-1)) ((x : Int) - 1)) 16) 8) 4)), (1, zi 29)], [zi 1, zi (z_ush (z_ush (z_ush (z_and (z_xor (x : Int) (-1)) ((x : Int) - 1)) 16) 8) 4), zi 29], m) _ (o15 a1 (Classical.byContradiction a4) (Classical.byContradiction a20) (Classical.byContradiction a28) a31))) (fun a32 => (hT.1 [] 6 (D + 1) 292 (72, [(0, zi (z_ush (z_ush (z_ush (z_and (z_xor (x : Int) (-1)) ((x : Int) - 1)) 16) 8) 4)), (1, zi 31)], [zi 2, zi (z_ush (z_ush (z_ush (z_and (z_xor (x : Int) (-1)) ((x : Int) - 1)) 16) 8) 4)], m) _ (hT.1 [] 6 (D + 1) 292 (78, [(0, zi (z_ush (z_ush (z_ush (z_ush (z_and (z_xor (x : Int) (-1)) ((x : Int) - 1)) 16) 8) 4) 2)), (1, zi 31)], [zi (z_ush (z_ush (z_ush (z_ush (z_ush (z_and (z_xor (x : Int) (-1)) ((x : Int) - 1)) 16) 8) 4) 2) 1), zi 31], m) _ (o16 a1 (Classical.byContradiction a4) (Classical.byContradiction a20) (Classical.byContradiction a28) (Classical.byContradiction a32)))))))))))))))))) (fun a2 => (hT.1 [] 6 (D + 1) 292 (15, [(0, zi (z_and (z_xor (x : Int) (-1)) ((x : Int) - 1)))], [zi 32, zi (z_and (z_xor (x : Int) (-1)) ((x : Int) - 1))], m) _ (o17 a2)))))
theorem zb292_0 (hT : zRules T) {D : Nat} {κ : Option zA → zM → Prop} {m : zM} {x : Nat}  (h_x : x ≤ 1048576) 
    (k1 : 0 < (z_and (z_xor (x : Int) (-1)) ((x : Int) - 1)) → ¬ 65536 < (z_and (z_xor (x : Int) (-1)) ((x : Int) - 1)) → ¬ 256 < (z_and (z_xor (x : Int) (-1)) ((x : Int) - 1)) → ¬ 16 < (z_and (z_xor (x : Int) (-1)) ((x : Int) - 1)) → ¬ 4 < (z_and (z_xor (x : Int) (-1)) ((x : Int) - 1)) → κ (some (zi (wr (1 + (z_ush (z_and (z_xor (x : Int) (-1)) ((x : Int) - 1)) 1))))) m)
    (k2 : 0 < (z_and (z_xor (x : Int) (-1)) ((x : Int) - 1)) → ¬ 65536 < (z_and (z_xor (x : Int) (-1)) ((x : Int) - 1)) → ¬ 256 < (z_and (z_xor (x : Int) (-1)) ((x : Int) - 1)) → ¬ 16 < (z_and (z_xor (x : Int) (-1)) ((x : Int) - 1)) → 4 < (z_and (z_xor (x : Int) (-1)) ((x : Int) - 1)) → κ (some (zi (wr (3 + (z_ush (z_ush (z_and (z_xor (x : Int) (-1)) ((x : Int) - 1)) 2) 1))))) m)
    (k3 : 0 < (z_and (z_xor (x : Int) (-1)) ((x : Int) - 1)) → ¬ 65536 < (z_and (z_xor (x : Int) (-1)) ((x : Int) - 1)) → ¬ 256 < (z_and (z_xor (x : Int) (-1)) ((x : Int) - 1)) → 16 < (z_and (z_xor (x : Int) (-1)) ((x : Int) - 1)) → ¬ 4 < (z_ush (z_and (z_xor (x : Int) (-1)) ((x : Int) - 1)) 4) → κ (some (zi (wr (5 + (z_ush (z_ush (z_and (z_xor (x : Int) (-1)) ((x : Int) - 1)) 4) 1))))) m)
    (k4 : 0 < (z_and (z_xor (x : Int) (-1)) ((x : Int) - 1)) → ¬ 65536 < (z_and (z_xor (x : Int) (-1)) ((x : Int) - 1)) → ¬ 256 < (z_and (z_xor (x : Int) (-1)) ((x : Int) - 1)) → 16 < (z_and (z_xor (x : Int) (-1)) ((x : Int) - 1)) → 4 < (z_ush (z_and (z_xor (x : Int) (-1)) ((x : Int) - 1)) 4) → κ (some (zi (wr (7 + (z_ush (z_ush (z_ush (z_and (z_xor (x : Int) (-1)) ((x : Int) - 1)) 4) 2) 1))))) m)
    (k5 : 0 < (z_and (z_xor (x : Int) (-1)) ((x : Int) - 1)) → ¬ 65536 < (z_and (z_xor (x : Int) (-1)) ((x : Int) - 1)) → 256 < (z_and (z_xor (x : Int) (-1)) ((x : Int) - 1)) → ¬ 16 < (z_ush (z_and (z_xor (x : Int) (-1)) ((x : Int) - 1)) 8) → ¬ 4 < (z_ush (z_and (z_xor (x : Int) (-1)) ((x : Int) - 1)) 8) → κ (some (zi (wr (9 + (z_ush (z_ush (z_and (z_xor (x : Int) (-1)) ((x : Int) - 1)) 8) 1))))) m)
    (k6 : 0 < (z_and (z_xor (x : Int) (-1)) ((x : Int) - 1)) → ¬ 65536 < (z_and (z_xor (x : Int) (-1)) ((x : Int) - 1)) → 256 < (z_and (z_xor (x : Int) (-1)) ((x : Int) - 1)) → ¬ 16 < (z_ush (z_and (z_xor (x : Int) (-1)) ((x : Int) - 1)) 8) → 4 < (z_ush (z_and (z_xor (x : Int) (-1)) ((x : Int) - 1)) 8) → κ (some (zi (wr (11 + (z_ush (z_ush (z_ush (z_and (z_xor (x : Int) (-1)) ((x : Int) - 1)) 8) 2) 1))))) m)
    (k7 : 0 < (z_and (z_xor (x : Int) (-1)) ((x : Int) - 1)) → ¬ 65536 < (z_and (z_xor (x : Int) (-1)) ((x : Int) - 1)) → 256 < (z_and (z_xor (x : Int) (-1)) ((x : Int) - 1)) → 16 < (z_ush (z_and (z_xor (x : Int) (-1)) ((x : Int) - 1)) 8) → ¬ 4 < (z_ush (z_ush (z_and (z_xor (x : Int) (-1)) ((x : Int) - 1)) 8) 4) → κ (some (zi (wr (13 + (z_ush (z_ush (z_ush (z_and (z_xor (x : Int) (-1)) ((x : Int) - 1)) 8) 4) 1))))) m)
    (k8 : 0 < (z_and (z_xor (x : Int) (-1)) ((x : Int) - 1)) → ¬ 65536 < (z_and (z_xor (x : Int) (-1)) ((x : Int) - 1)) → 256 < (z_and (z_xor (x : Int) (-1)) ((x : Int) - 1)) → 16 < (z_ush (z_and (z_xor (x : Int) (-1)) ((x : Int) - 1)) 8) → 4 < (z_ush (z_ush (z_and (z_xor (x : Int) (-1)) ((x : Int) - 1)) 8) 4) → κ (some (zi (wr (15 + (z_ush (z_ush (z_ush (z_ush (z_and (z_xor (x : Int) (-1)) ((x : Int) - 1)) 8) 4) 2) 1))))) m)
    (k9 : 0 < (z_and (z_xor (x : Int) (-1)) ((x : Int) - 1)) → 65536 < (z_and (z_xor (x : Int) (-1)) ((x : Int) - 1)) → ¬ 256 < (z_ush (z_and (z_xor (x : Int) (-1)) ((x : Int) - 1)) 16) → ¬ 16 < (z_ush (z_and (z_xor (x : Int) (-1)) ((x : Int) - 1)) 16) → ¬ 4 < (z_ush (z_and (z_xor (x : Int) (-1)) ((x : Int) - 1)) 16) → κ (some (zi (wr (17 + (z_ush (z_ush (z_and (z_xor (x : Int) (-1)) ((x : Int) - 1)) 16) 1))))) m)
    (k10 : 0 < (z_and (z_xor (x : Int) (-1)) ((x : Int) - 1)) → 65536 < (z_and (z_xor (x : Int) (-1)) ((x : Int) - 1)) → ¬ 256 < (z_ush (z_and (z_xor (x : Int) (-1)) ((x : Int) - 1)) 16) → ¬ 16 < (z_ush (z_and (z_xor (x : Int) (-1)) ((x : Int) - 1)) 16) → 4 < (z_ush (z_and (z_xor (x : Int) (-1)) ((x : Int) - 1)) 16) → κ (some (zi (wr (19 + (z_ush (z_ush (z_ush (z_and (z_xor (x : Int) (-1)) ((x : Int) - 1)) 16) 2) 1))))) m)
    (k11 : 0 < (z_and (z_xor (x : Int) (-1)) ((x : Int) - 1)) → 65536 < (z_and (z_xor (x : Int) (-1)) ((x : Int) - 1)) → ¬ 256 < (z_ush (z_and (z_xor (x : Int) (-1)) ((x : Int) - 1)) 16) → 16 < (z_ush (z_and (z_xor (x : Int) (-1)) ((x : Int) - 1)) 16) → ¬ 4 < (z_ush (z_ush (z_and (z_xor (x : Int) (-1)) ((x : Int) - 1)) 16) 4) → κ (some (zi (wr (21 + (z_ush (z_ush (z_ush (z_and (z_xor (x : Int) (-1)) ((x : Int) - 1)) 16) 4) 1))))) m)
    (k12 : 0 < (z_and (z_xor (x : Int) (-1)) ((x : Int) - 1)) → 65536 < (z_and (z_xor (x : Int) (-1)) ((x : Int) - 1)) → ¬ 256 < (z_ush (z_and (z_xor (x : Int) (-1)) ((x : Int) - 1)) 16) → 16 < (z_ush (z_and (z_xor (x : Int) (-1)) ((x : Int) - 1)) 16) → 4 < (z_ush (z_ush (z_and (z_xor (x : Int) (-1)) ((x : Int) - 1)) 16) 4) → κ (some (zi (wr (23 + (z_ush (z_ush (z_ush (z_ush (z_and (z_xor (x : Int) (-1)) ((x : Int) - 1)) 16) 4) 2) 1))))) m)
    (k13 : 0 < (z_and (z_xor (x : Int) (-1)) ((x : Int) - 1)) → 65536 < (z_and (z_xor (x : Int) (-1)) ((x : Int) - 1)) → 256 < (z_ush (z_and (z_xor (x : Int) (-1)) ((x : Int) - 1)) 16) → ¬ 16 < (z_ush (z_ush (z_and (z_xor (x : Int) (-1)) ((x : Int) - 1)) 16) 8) → ¬ 4 < (z_ush (z_ush (z_and (z_xor (x : Int) (-1)) ((x : Int) - 1)) 16) 8) → κ (some (zi (wr (25 + (z_ush (z_ush (z_ush (z_and (z_xor (x : Int) (-1)) ((x : Int) - 1)) 16) 8) 1))))) m)
    (k14 : 0 < (z_and (z_xor (x : Int) (-1)) ((x : Int) - 1)) → 65536 < (z_and (z_xor (x : Int) (-1)) ((x : Int) - 1)) → 256 < (z_ush (z_and (z_xor (x : Int) (-1)) ((x : Int) - 1)) 16) → ¬ 16 < (z_ush (z_ush (z_and (z_xor (x : Int) (-1)) ((x : Int) - 1)) 16) 8) → 4 < (z_ush (z_ush (z_and (z_xor (x : Int) (-1)) ((x : Int) - 1)) 16) 8) → κ (some (zi (wr (27 + (z_ush (z_ush (z_ush (z_ush (z_and (z_xor (x : Int) (-1)) ((x : Int) - 1)) 16) 8) 2) 1))))) m)
    (k15 : 0 < (z_and (z_xor (x : Int) (-1)) ((x : Int) - 1)) → 65536 < (z_and (z_xor (x : Int) (-1)) ((x : Int) - 1)) → 256 < (z_ush (z_and (z_xor (x : Int) (-1)) ((x : Int) - 1)) 16) → 16 < (z_ush (z_ush (z_and (z_xor (x : Int) (-1)) ((x : Int) - 1)) 16) 8) → ¬ 4 < (z_ush (z_ush (z_ush (z_and (z_xor (x : Int) (-1)) ((x : Int) - 1)) 16) 8) 4) → κ (some (zi (wr (29 + (z_ush (z_ush (z_ush (z_ush (z_and (z_xor (x : Int) (-1)) ((x : Int) - 1)) 16) 8) 4) 1))))) m)
    (k16 : 0 < (z_and (z_xor (x : Int) (-1)) ((x : Int) - 1)) → 65536 < (z_and (z_xor (x : Int) (-1)) ((x : Int) - 1)) → 256 < (z_ush (z_and (z_xor (x : Int) (-1)) ((x : Int) - 1)) 16) → 16 < (z_ush (z_ush (z_and (z_xor (x : Int) (-1)) ((x : Int) - 1)) 16) 8) → 4 < (z_ush (z_ush (z_ush (z_and (z_xor (x : Int) (-1)) ((x : Int) - 1)) 16) 8) 4) → κ (some (zi (wr (31 + (z_ush (z_ush (z_ush (z_ush (z_ush (z_and (z_xor (x : Int) (-1)) ((x : Int) - 1)) 16) 8) 4) 2) 1))))) m)
    (k17 : ¬ 0 < (z_and (z_xor (x : Int) (-1)) ((x : Int) - 1)) → κ (some (zi (z_and (z_and (z_xor (x : Int) (-1)) ((x : Int) - 1)) 32))) m) :
    T (D + 1) 292 (0, [(0, zi (x : Int))], [], m) κ := by
  have hb1 : (-2147483648) ≤ (z_xor (x : Int) (-1)) ∧ (z_xor (x : Int) (-1)) ≤ 2147483647 := z_xorB (x : Int) (-1)
  have hb2 : (-2147483648) ≤ (z_and (z_xor (x : Int) (-1)) ((x : Int) - 1)) ∧ (z_and (z_xor (x : Int) (-1)) ((x : Int) - 1)) ≤ 2147483647 := z_andB (z_xor (x : Int) (-1)) ((x : Int) - 1)
  have hb3 : (-2147483648) ≤ (z_ush (z_and (z_xor (x : Int) (-1)) ((x : Int) - 1)) 16) ∧ (z_ush (z_and (z_xor (x : Int) (-1)) ((x : Int) - 1)) 16) ≤ 2147483647 := z_ushB (z_and (z_xor (x : Int) (-1)) ((x : Int) - 1)) 16
  have hb4 : (-2147483648) ≤ (z_ush (z_ush (z_and (z_xor (x : Int) (-1)) ((x : Int) - 1)) 16) 8) ∧ (z_ush (z_ush (z_and (z_xor (x : Int) (-1)) ((x : Int) - 1)) 16) 8) ≤ 2147483647 := z_ushB (z_ush (z_and (z_xor (x : Int) (-1)) ((x : Int) - 1)) 16) 8
  have hb5 : (-2147483648) ≤ (z_ush (z_ush (z_ush (z_and (z_xor (x : Int) (-1)) ((x : Int) - 1)) 16) 8) 4) ∧ (z_ush (z_ush (z_ush (z_and (z_xor (x : Int) (-1)) ((x : Int) - 1)) 16) 8) 4) ≤ 2147483647 := z_ushB (z_ush (z_ush (z_and (z_xor (x : Int) (-1)) ((x : Int) - 1)) 16) 8) 4
  have hb6 : (-2147483648) ≤ (z_ush (z_ush (z_ush (z_ush (z_and (z_xor (x : Int) (-1)) ((x : Int) - 1)) 16) 8) 4) 2) ∧ (z_ush (z_ush (z_ush (z_ush (z_and (z_xor (x : Int) (-1)) ((x : Int) - 1)) 16) 8) 4) 2) ≤ 2147483647 := z_ushB (z_ush (z_ush (z_ush (z_and (z_xor (x : Int) (-1)) ((x : Int) - 1)) 16) 8) 4) 2
  have hb7 : (-2147483648) ≤ (z_ush (z_ush (z_ush (z_ush (z_ush (z_and (z_xor (x : Int) (-1)) ((x : Int) - 1)) 16) 8) 4) 2) 1) ∧ (z_ush (z_ush (z_ush (z_ush (z_ush (z_and (z_xor (x : Int) (-1)) ((x : Int) - 1)) 16) 8) 4) 2) 1) ≤ 2147483647 := z_ushB (z_ush (z_ush (z_ush (z_ush (z_and (z_xor (x : Int) (-1)) ((x : Int) - 1)) 16) 8) 4) 2) 1
  have hb8 : (-2147483648) ≤ wr (31 + (z_ush (z_ush (z_ush (z_ush (z_ush (z_and (z_xor (x : Int) (-1)) ((x : Int) - 1)) 16) 8) 4) 2) 1)) ∧ wr (31 + (z_ush (z_ush (z_ush (z_ush (z_ush (z_and (z_xor (x : Int) (-1)) ((x : Int) - 1)) 16) 8) 4) 2) 1)) ≤ 2147483647 := wrB (31 + (z_ush (z_ush (z_ush (z_ush (z_ush (z_and (z_xor (x : Int) (-1)) ((x : Int) - 1)) 16) 8) 4) 2) 1))
  have hb9 : (-2147483648) ≤ (z_ush (z_ush (z_ush (z_ush (z_and (z_xor (x : Int) (-1)) ((x : Int) - 1)) 16) 8) 4) 1) ∧ (z_ush (z_ush (z_ush (z_ush (z_and (z_xor (x : Int) (-1)) ((x : Int) - 1)) 16) 8) 4) 1) ≤ 2147483647 := z_ushB (z_ush (z_ush (z_ush (z_and (z_xor (x : Int) (-1)) ((x : Int) - 1)) 16) 8) 4) 1
  have hb10 : (-2147483648) ≤ wr (29 + (z_ush (z_ush (z_ush (z_ush (z_and (z_xor (x : Int) (-1)) ((x : Int) - 1)) 16) 8) 4) 1)) ∧ wr (29 + (z_ush (z_ush (z_ush (z_ush (z_and (z_xor (x : Int) (-1)) ((x : Int) - 1)) 16) 8) 4) 1)) ≤ 2147483647 := wrB (29 + (z_ush (z_ush (z_ush (z_ush (z_and (z_xor (x : Int) (-1)) ((x : Int) - 1)) 16) 8) 4) 1))
  have hb11 : (-2147483648) ≤ (z_ush (z_ush (z_ush (z_and (z_xor (x : Int) (-1)) ((x : Int) - 1)) 16) 8) 2) ∧ (z_ush (z_ush (z_ush (z_and (z_xor (x : Int) (-1)) ((x : Int) - 1)) 16) 8) 2) ≤ 2147483647 := z_ushB (z_ush (z_ush (z_and (z_xor (x : Int) (-1)) ((x : Int) - 1)) 16) 8) 2
  have hb12 : (-2147483648) ≤ (z_ush (z_ush (z_ush (z_ush (z_and (z_xor (x : Int) (-1)) ((x : Int) - 1)) 16) 8) 2) 1) ∧ (z_ush (z_ush (z_ush (z_ush (z_and (z_xor (x : Int) (-1)) ((x : Int) - 1)) 16) 8) 2) 1) ≤ 2147483647 := z_ushB (z_ush (z_ush (z_ush (z_and (z_xor (x : Int) (-1)) ((x : Int) - 1)) 16) 8) 2) 1
  have hb13 : (-2147483648) ≤ wr (27 + (z_ush (z_ush (z_ush (z_ush (z_and (z_xor (x : Int) (-1)) ((x : Int) - 1)) 16) 8) 2) 1)) ∧ wr (27 + (z_ush (z_ush (z_ush (z_ush (z_and (z_xor (x : Int) (-1)) ((x : Int) - 1)) 16) 8) 2) 1)) ≤ 2147483647 := wrB (27 + (z_ush (z_ush (z_ush (z_ush (z_and (z_xor (x : Int) (-1)) ((x : Int) - 1)) 16) 8) 2) 1))
  have hb14 : (-2147483648) ≤ (z_ush (z_ush (z_ush (z_and (z_xor (x : Int) (-1)) ((x : Int) - 1)) 16) 8) 1) ∧ (z_ush (z_ush (z_ush (z_and (z_xor (x : Int) (-1)) ((x : Int) - 1)) 16) 8) 1) ≤ 2147483647 := z_ushB (z_ush (z_ush (z_and (z_xor (x : Int) (-1)) ((x : Int) - 1)) 16) 8) 1
  have hb15 : (-2147483648) ≤ wr (25 + (z_ush (z_ush (z_ush (z_and (z_xor (x : Int) (-1)) ((x : Int) - 1)) 16) 8) 1)) ∧ wr (25 + (z_ush (z_ush (z_ush (z_and (z_xor (x : Int) (-1)) ((x : Int) - 1)) 16) 8) 1)) ≤ 2147483647 := wrB (25 + (z_ush (z_ush (z_ush (z_and (z_xor (x : Int) (-1)) ((x : Int) - 1)) 16) 8) 1))
  have hb16 : (-2147483648) ≤ (z_ush (z_ush (z_and (z_xor (x : Int) (-1)) ((x : Int) - 1)) 16) 4) ∧ (z_ush (z_ush (z_and (z_xor (x : Int) (-1)) ((x : Int) - 1)) 16) 4) ≤ 2147483647 := z_ushB (z_ush (z_and (z_xor (x : Int) (-1)) ((x : Int) - 1)) 16) 4
  have hb17 : (-2147483648) ≤ (z_ush (z_ush (z_ush (z_and (z_xor (x : Int) (-1)) ((x : Int) - 1)) 16) 4) 2) ∧ (z_ush (z_ush (z_ush (z_and (z_xor (x : Int) (-1)) ((x : Int) - 1)) 16) 4) 2) ≤ 2147483647 := z_ushB (z_ush (z_ush (z_and (z_xor (x : Int) (-1)) ((x : Int) - 1)) 16) 4) 2
  have hb18 : (-2147483648) ≤ (z_ush (z_ush (z_ush (z_ush (z_and (z_xor (x : Int) (-1)) ((x : Int) - 1)) 16) 4) 2) 1) ∧ (z_ush (z_ush (z_ush (z_ush (z_and (z_xor (x : Int) (-1)) ((x : Int) - 1)) 16) 4) 2) 1) ≤ 2147483647 := z_ushB (z_ush (z_ush (z_ush (z_and (z_xor (x : Int) (-1)) ((x : Int) - 1)) 16) 4) 2) 1
  have hb19 : (-2147483648) ≤ wr (23 + (z_ush (z_ush (z_ush (z_ush (z_and (z_xor (x : Int) (-1)) ((x : Int) - 1)) 16) 4) 2) 1)) ∧ wr (23 + (z_ush (z_ush (z_ush (z_ush (z_and (z_xor (x : Int) (-1)) ((x : Int) - 1)) 16) 4) 2) 1)) ≤ 2147483647 := wrB (23 + (z_ush (z_ush (z_ush (z_ush (z_and (z_xor (x : Int) (-1)) ((x : Int) - 1)) 16) 4) 2) 1))
  have hb20 : (-2147483648) ≤ (z_ush (z_ush (z_ush (z_and (z_xor (x : Int) (-1)) ((x : Int) - 1)) 16) 4) 1) ∧ (z_ush (z_ush (z_ush (z_and (z_xor (x : Int) (-1)) ((x : Int) - 1)) 16) 4) 1) ≤ 2147483647 := z_ushB (z_ush (z_ush (z_and (z_xor (x : Int) (-1)) ((x : Int) - 1)) 16) 4) 1
  have hb21 : (-2147483648) ≤ wr (21 + (z_ush (z_ush (z_ush (z_and (z_xor (x : Int) (-1)) ((x : Int) - 1)) 16) 4) 1)) ∧ wr (21 + (z_ush (z_ush (z_ush (z_and (z_xor (x : Int) (-1)) ((x : Int) - 1)) 16) 4) 1)) ≤ 2147483647 := wrB (21 + (z_ush (z_ush (z_ush (z_and (z_xor (x : Int) (-1)) ((x : Int) - 1)) 16) 4) 1))
  have hb22 : (-2147483648) ≤ (z_ush (z_ush (z_and (z_xor (x : Int) (-1)) ((x : Int) - 1)) 16) 2) ∧ (z_ush (z_ush (z_and (z_xor (x : Int) (-1)) ((x : Int) - 1)) 16) 2) ≤ 2147483647 := z_ushB (z_ush (z_and (z_xor (x : Int) (-1)) ((x : Int) - 1)) 16) 2
  have hb23 : (-2147483648) ≤ (z_ush (z_ush (z_ush (z_and (z_xor (x : Int) (-1)) ((x : Int) - 1)) 16) 2) 1) ∧ (z_ush (z_ush (z_ush (z_and (z_xor (x : Int) (-1)) ((x : Int) - 1)) 16) 2) 1) ≤ 2147483647 := z_ushB (z_ush (z_ush (z_and (z_xor (x : Int) (-1)) ((x : Int) - 1)) 16) 2) 1
  have hb24 : (-2147483648) ≤ wr (19 + (z_ush (z_ush (z_ush (z_and (z_xor (x : Int) (-1)) ((x : Int) - 1)) 16) 2) 1)) ∧ wr (19 + (z_ush (z_ush (z_ush (z_and (z_xor (x : Int) (-1)) ((x : Int) - 1)) 16) 2) 1)) ≤ 2147483647 := wrB (19 + (z_ush (z_ush (z_ush (z_and (z_xor (x : Int) (-1)) ((x : Int) - 1)) 16) 2) 1))
  have hb25 : (-2147483648) ≤ (z_ush (z_ush (z_and (z_xor (x : Int) (-1)) ((x : Int) - 1)) 16) 1) ∧ (z_ush (z_ush (z_and (z_xor (x : Int) (-1)) ((x : Int) - 1)) 16) 1) ≤ 2147483647 := z_ushB (z_ush (z_and (z_xor (x : Int) (-1)) ((x : Int) - 1)) 16) 1
  have hb26 : (-2147483648) ≤ wr (17 + (z_ush (z_ush (z_and (z_xor (x : Int) (-1)) ((x : Int) - 1)) 16) 1)) ∧ wr (17 + (z_ush (z_ush (z_and (z_xor (x : Int) (-1)) ((x : Int) - 1)) 16) 1)) ≤ 2147483647 := wrB (17 + (z_ush (z_ush (z_and (z_xor (x : Int) (-1)) ((x : Int) - 1)) 16) 1))
  have hb27 : (-2147483648) ≤ (z_ush (z_and (z_xor (x : Int) (-1)) ((x : Int) - 1)) 8) ∧ (z_ush (z_and (z_xor (x : Int) (-1)) ((x : Int) - 1)) 8) ≤ 2147483647 := z_ushB (z_and (z_xor (x : Int) (-1)) ((x : Int) - 1)) 8
  have hb28 : (-2147483648) ≤ (z_ush (z_ush (z_and (z_xor (x : Int) (-1)) ((x : Int) - 1)) 8) 4) ∧ (z_ush (z_ush (z_and (z_xor (x : Int) (-1)) ((x : Int) - 1)) 8) 4) ≤ 2147483647 := z_ushB (z_ush (z_and (z_xor (x : Int) (-1)) ((x : Int) - 1)) 8) 4
  have hb29 : (-2147483648) ≤ (z_ush (z_ush (z_ush (z_and (z_xor (x : Int) (-1)) ((x : Int) - 1)) 8) 4) 2) ∧ (z_ush (z_ush (z_ush (z_and (z_xor (x : Int) (-1)) ((x : Int) - 1)) 8) 4) 2) ≤ 2147483647 := z_ushB (z_ush (z_ush (z_and (z_xor (x : Int) (-1)) ((x : Int) - 1)) 8) 4) 2
  have hb30 : (-2147483648) ≤ (z_ush (z_ush (z_ush (z_ush (z_and (z_xor (x : Int) (-1)) ((x : Int) - 1)) 8) 4) 2) 1) ∧ (z_ush (z_ush (z_ush (z_ush (z_and (z_xor (x : Int) (-1)) ((x : Int) - 1)) 8) 4) 2) 1) ≤ 2147483647 := z_ushB (z_ush (z_ush (z_ush (z_and (z_xor (x : Int) (-1)) ((x : Int) - 1)) 8) 4) 2) 1
  have hb31 : (-2147483648) ≤ wr (15 + (z_ush (z_ush (z_ush (z_ush (z_and (z_xor (x : Int) (-1)) ((x : Int) - 1)) 8) 4) 2) 1)) ∧ wr (15 + (z_ush (z_ush (z_ush (z_ush (z_and (z_xor (x : Int) (-1)) ((x : Int) - 1)) 8) 4) 2) 1)) ≤ 2147483647 := wrB (15 + (z_ush (z_ush (z_ush (z_ush (z_and (z_xor (x : Int) (-1)) ((x : Int) - 1)) 8) 4) 2) 1))
  have hb32 : (-2147483648) ≤ (z_ush (z_ush (z_ush (z_and (z_xor (x : Int) (-1)) ((x : Int) - 1)) 8) 4) 1) ∧ (z_ush (z_ush (z_ush (z_and (z_xor (x : Int) (-1)) ((x : Int) - 1)) 8) 4) 1) ≤ 2147483647 := z_ushB (z_ush (z_ush (z_and (z_xor (x : Int) (-1)) ((x : Int) - 1)) 8) 4) 1
  have hb33 : (-2147483648) ≤ wr (13 + (z_ush (z_ush (z_ush (z_and (z_xor (x : Int) (-1)) ((x : Int) - 1)) 8) 4) 1)) ∧ wr (13 + (z_ush (z_ush (z_ush (z_and (z_xor (x : Int) (-1)) ((x : Int) - 1)) 8) 4) 1)) ≤ 2147483647 := wrB (13 + (z_ush (z_ush (z_ush (z_and (z_xor (x : Int) (-1)) ((x : Int) - 1)) 8) 4) 1))
  have hb34 : (-2147483648) ≤ (z_ush (z_ush (z_and (z_xor (x : Int) (-1)) ((x : Int) - 1)) 8) 2) ∧ (z_ush (z_ush (z_and (z_xor (x : Int) (-1)) ((x : Int) - 1)) 8) 2) ≤ 2147483647 := z_ushB (z_ush (z_and (z_xor (x : Int) (-1)) ((x : Int) - 1)) 8) 2
  have hb35 : (-2147483648) ≤ (z_ush (z_ush (z_ush (z_and (z_xor (x : Int) (-1)) ((x : Int) - 1)) 8) 2) 1) ∧ (z_ush (z_ush (z_ush (z_and (z_xor (x : Int) (-1)) ((x : Int) - 1)) 8) 2) 1) ≤ 2147483647 := z_ushB (z_ush (z_ush (z_and (z_xor (x : Int) (-1)) ((x : Int) - 1)) 8) 2) 1
  have hb36 : (-2147483648) ≤ wr (11 + (z_ush (z_ush (z_ush (z_and (z_xor (x : Int) (-1)) ((x : Int) - 1)) 8) 2) 1)) ∧ wr (11 + (z_ush (z_ush (z_ush (z_and (z_xor (x : Int) (-1)) ((x : Int) - 1)) 8) 2) 1)) ≤ 2147483647 := wrB (11 + (z_ush (z_ush (z_ush (z_and (z_xor (x : Int) (-1)) ((x : Int) - 1)) 8) 2) 1))
  have hb37 : (-2147483648) ≤ (z_ush (z_ush (z_and (z_xor (x : Int) (-1)) ((x : Int) - 1)) 8) 1) ∧ (z_ush (z_ush (z_and (z_xor (x : Int) (-1)) ((x : Int) - 1)) 8) 1) ≤ 2147483647 := z_ushB (z_ush (z_and (z_xor (x : Int) (-1)) ((x : Int) - 1)) 8) 1
  have hb38 : (-2147483648) ≤ wr (9 + (z_ush (z_ush (z_and (z_xor (x : Int) (-1)) ((x : Int) - 1)) 8) 1)) ∧ wr (9 + (z_ush (z_ush (z_and (z_xor (x : Int) (-1)) ((x : Int) - 1)) 8) 1)) ≤ 2147483647 := wrB (9 + (z_ush (z_ush (z_and (z_xor (x : Int) (-1)) ((x : Int) - 1)) 8) 1))
  have hb39 : (-2147483648) ≤ (z_ush (z_and (z_xor (x : Int) (-1)) ((x : Int) - 1)) 4) ∧ (z_ush (z_and (z_xor (x : Int) (-1)) ((x : Int) - 1)) 4) ≤ 2147483647 := z_ushB (z_and (z_xor (x : Int) (-1)) ((x : Int) - 1)) 4
  have hb40 : (-2147483648) ≤ (z_ush (z_ush (z_and (z_xor (x : Int) (-1)) ((x : Int) - 1)) 4) 2) ∧ (z_ush (z_ush (z_and (z_xor (x : Int) (-1)) ((x : Int) - 1)) 4) 2) ≤ 2147483647 := z_ushB (z_ush (z_and (z_xor (x : Int) (-1)) ((x : Int) - 1)) 4) 2
  have hb41 : (-2147483648) ≤ (z_ush (z_ush (z_ush (z_and (z_xor (x : Int) (-1)) ((x : Int) - 1)) 4) 2) 1) ∧ (z_ush (z_ush (z_ush (z_and (z_xor (x : Int) (-1)) ((x : Int) - 1)) 4) 2) 1) ≤ 2147483647 := z_ushB (z_ush (z_ush (z_and (z_xor (x : Int) (-1)) ((x : Int) - 1)) 4) 2) 1
  have hb42 : (-2147483648) ≤ wr (7 + (z_ush (z_ush (z_ush (z_and (z_xor (x : Int) (-1)) ((x : Int) - 1)) 4) 2) 1)) ∧ wr (7 + (z_ush (z_ush (z_ush (z_and (z_xor (x : Int) (-1)) ((x : Int) - 1)) 4) 2) 1)) ≤ 2147483647 := wrB (7 + (z_ush (z_ush (z_ush (z_and (z_xor (x : Int) (-1)) ((x : Int) - 1)) 4) 2) 1))
  have hb43 : (-2147483648) ≤ (z_ush (z_ush (z_and (z_xor (x : Int) (-1)) ((x : Int) - 1)) 4) 1) ∧ (z_ush (z_ush (z_and (z_xor (x : Int) (-1)) ((x : Int) - 1)) 4) 1) ≤ 2147483647 := z_ushB (z_ush (z_and (z_xor (x : Int) (-1)) ((x : Int) - 1)) 4) 1
  have hb44 : (-2147483648) ≤ wr (5 + (z_ush (z_ush (z_and (z_xor (x : Int) (-1)) ((x : Int) - 1)) 4) 1)) ∧ wr (5 + (z_ush (z_ush (z_and (z_xor (x : Int) (-1)) ((x : Int) - 1)) 4) 1)) ≤ 2147483647 := wrB (5 + (z_ush (z_ush (z_and (z_xor (x : Int) (-1)) ((x : Int) - 1)) 4) 1))
  have hb45 : (-2147483648) ≤ (z_ush (z_and (z_xor (x : Int) (-1)) ((x : Int) - 1)) 2) ∧ (z_ush (z_and (z_xor (x : Int) (-1)) ((x : Int) - 1)) 2) ≤ 2147483647 := z_ushB (z_and (z_xor (x : Int) (-1)) ((x : Int) - 1)) 2
  have hb46 : (-2147483648) ≤ (z_ush (z_ush (z_and (z_xor (x : Int) (-1)) ((x : Int) - 1)) 2) 1) ∧ (z_ush (z_ush (z_and (z_xor (x : Int) (-1)) ((x : Int) - 1)) 2) 1) ≤ 2147483647 := z_ushB (z_ush (z_and (z_xor (x : Int) (-1)) ((x : Int) - 1)) 2) 1
  have hb47 : (-2147483648) ≤ wr (3 + (z_ush (z_ush (z_and (z_xor (x : Int) (-1)) ((x : Int) - 1)) 2) 1)) ∧ wr (3 + (z_ush (z_ush (z_and (z_xor (x : Int) (-1)) ((x : Int) - 1)) 2) 1)) ≤ 2147483647 := wrB (3 + (z_ush (z_ush (z_and (z_xor (x : Int) (-1)) ((x : Int) - 1)) 2) 1))
  have hb48 : (-2147483648) ≤ (z_ush (z_and (z_xor (x : Int) (-1)) ((x : Int) - 1)) 1) ∧ (z_ush (z_and (z_xor (x : Int) (-1)) ((x : Int) - 1)) 1) ≤ 2147483647 := z_ushB (z_and (z_xor (x : Int) (-1)) ((x : Int) - 1)) 1
  have hb49 : (-2147483648) ≤ wr (1 + (z_ush (z_and (z_xor (x : Int) (-1)) ((x : Int) - 1)) 1)) ∧ wr (1 + (z_ush (z_and (z_xor (x : Int) (-1)) ((x : Int) - 1)) 1)) ≤ 2147483647 := wrB (1 + (z_ush (z_and (z_xor (x : Int) (-1)) ((x : Int) - 1)) 1))
  have hb50 : 0 ≤ (z_and (z_and (z_xor (x : Int) (-1)) ((x : Int) - 1)) 32) ∧ (z_and (z_and (z_xor (x : Int) (-1)) ((x : Int) - 1)) 32) ≤ 32 := z_andC (z_and (z_xor (x : Int) (-1)) ((x : Int) - 1)) 32 (by decide)
  have he0 : wr (z_and (z_xor (x : Int) (-1)) ((x : Int) - 1)) = (z_and (z_xor (x : Int) (-1)) ((x : Int) - 1)) := wr_id (by omega) (by omega)
  have he1 : wr (z_ush (z_and (z_xor (x : Int) (-1)) ((x : Int) - 1)) 16) = (z_ush (z_and (z_xor (x : Int) (-1)) ((x : Int) - 1)) 16) := wr_id (by omega) (by omega)
  have he2 : wr (z_ush (z_ush (z_and (z_xor (x : Int) (-1)) ((x : Int) - 1)) 16) 8) = (z_ush (z_ush (z_and (z_xor (x : Int) (-1)) ((x : Int) - 1)) 16) 8) := wr_id (by omega) (by omega)
  have he3 : wr (z_ush (z_ush (z_ush (z_and (z_xor (x : Int) (-1)) ((x : Int) - 1)) 16) 8) 4) = (z_ush (z_ush (z_ush (z_and (z_xor (x : Int) (-1)) ((x : Int) - 1)) 16) 8) 4) := wr_id (by omega) (by omega)
  have he4 : wr (z_ush (z_ush (z_and (z_xor (x : Int) (-1)) ((x : Int) - 1)) 16) 4) = (z_ush (z_ush (z_and (z_xor (x : Int) (-1)) ((x : Int) - 1)) 16) 4) := wr_id (by omega) (by omega)
  have he5 : wr (z_ush (z_and (z_xor (x : Int) (-1)) ((x : Int) - 1)) 8) = (z_ush (z_and (z_xor (x : Int) (-1)) ((x : Int) - 1)) 8) := wr_id (by omega) (by omega)
  have he6 : wr (z_ush (z_ush (z_and (z_xor (x : Int) (-1)) ((x : Int) - 1)) 8) 4) = (z_ush (z_ush (z_and (z_xor (x : Int) (-1)) ((x : Int) - 1)) 8) 4) := wr_id (by omega) (by omega)
  have he7 : wr (z_ush (z_and (z_xor (x : Int) (-1)) ((x : Int) - 1)) 4) = (z_ush (z_and (z_xor (x : Int) (-1)) ((x : Int) - 1)) 4) := wr_id (by omega) (by omega)
  have he8 : wr (z_and (z_and (z_xor (x : Int) (-1)) ((x : Int) - 1)) 32) = (z_and (z_and (z_xor (x : Int) (-1)) ((x : Int) - 1)) 32) := wr_id (by omega) (by omega)
  have key := @zb292_0r T hT D κ m x
  simp only [he0, he1, he2, he3, he4, he5, he6, he7, he8, Int.toNat_natCast] at key
  exact key
    k1
    k2
    k3
    k4
    k5
    k6
    k7
    k8
    k9
    k10
    k11
    k12
    k13
    k14
    k15
    k16
    k17
theorem zb266_0r (hT : zRules T) {D : Nat} {κ : Option zA → zM → Prop} {m : zM} 
    (o1 : T (D + 3) 266 (9, [(0, zr 74), (1, zi 0), (2, zi 1)], [], (zu m 74 12 0)) κ) :
    T (D + 3) 266 (0, [(0, zr 74)], [], m) κ :=
  hT.1 [(9, [0, 1, 2])] 6 (D + 3) 266 _ κ (And.intro trivial (hT.1 [(9, [0, 1, 2])] 6 (D + 3) 266 (8, [(0, zr 74), (1, zi 0)], [zi 1], (zu m 74 12 0)) _ (o1)))
theorem zb266_0 (hT : zRules T) {D : Nat} {κ : Option zA → zM → Prop} {m : zM}  (hB : zB m) 
    (k1 : zB (zu m 74 12 0) → T (D + 3) 266 (9, [(0, zr 74), (1, zi 0), (2, zi 1)], [], (zu m 74 12 0)) κ) :
    T (D + 3) 266 (0, [(0, zr 74)], [], m) κ := by
  exact zb266_0r hT
    (k1  (zB_u hB trivial))
theorem zb266_9r (hT : zRules T) {D : Nat} {κ : Option zA → zM → Prop} {m : zM} {b : Nat} {x : Nat} {lo : zL} (hlo : z_keep [0, 1, 2] lo = [(0, zr 74), (1, zi (b : Int)), (2, zi (x : Int))]) 
    (o1 : ¬ wr (x : Int) < wr (z_shl 1 (m 74 4)) → T (D + 2) 293 (0, [(0, zi (b : Int))], [], (zu (zu (zu m 74 11 0) 81 0 (b : Int)) 74 11 1)) (fun r m1 => T (D + 3) 266 (61, [(0, zr 74), (1, zi (b : Int)), (2, zi (x : Int))], r.toList ++ [], m1) κ))
    (o2 : wr (x : Int) < wr (z_shl 1 (m 74 4)) → T (D + 2) 293 (0, [(0, zi (x : Int))], [], m) (fun r m1 => T (D + 3) 266 (23, [(0, zr 74), (1, zi (b : Int)), (2, zi (x : Int))], r.toList ++ [], m1) κ)) :
    T (D + 3) 266 (9, lo, [], m) κ :=
  zkeep hT hlo (hT.1 [(9, [0, 1, 2])] 6 (D + 3) 266 _ κ (And.intro (fun a1 => (hT.1 [(9, [0, 1, 2])] 6 (D + 3) 266 (47, [(0, zr 74), (1, zi (b : Int)), (2, zi (x : Int))], [], m) _ (And.intro trivial (hT.1 [] 6 (D + 2) 189 _ _ (And.intro (And.intro (z_ixL rfl) trivial) (hT.1 [] 6 (D + 2) 189 (10, [(0, zr 74), (1, zi (b : Int))], [], (zu (zu m 74 11 0) 81 0 (b : Int))) _ (And.intro trivial (hT.1 [] 6 (D + 2) 189 (20, [(0, zr 74), (1, zi (b : Int))], [], (zu (zu (zu m 74 11 0) 81 0 (b : Int)) 74 11 1)) _ (hT.1 [(9, [0, 1, 2])] 6 (D + 3) 266 _ _ (o1 a1)))))))))) (fun a2 => (hT.1 [(9, [0, 1, 2])] 6 (D + 3) 266 (19, [(0, zr 74), (1, zi (b : Int)), (2, zi (x : Int))], [], m) _ (o2 (Classical.byContradiction a2))))))
theorem zb266_9 (hT : zRules T) {D : Nat} {κ : Option zA → zM → Prop} {m : zM} {b : Nat} {x : Nat} {lo : zL} (hlo : z_keep [0, 1, 2] lo = [(0, zr 74), (1, zi (b : Int)), (2, zi (x : Int))])  (hB : zB m) (h_b : b ≤ 63) (h_x : x ≤ 64) 
    (k1 : ¬ (x : Int) < (z_shl 1 (m 74 4)) → zB (zu (zu (zu m 74 11 0) 81 0 (b : Int)) 74 11 1) → T (D + 2) 293 (0, [(0, zi (b : Int))], [], (zu (zu (zu m 74 11 0) 81 0 (b : Int)) 74 11 1)) (fun r m1 => T (D + 3) 266 (61, [(0, zr 74), (1, zi (b : Int)), (2, zi (x : Int))], r.toList ++ [], m1) κ))
    (k2 : (x : Int) < (z_shl 1 (m 74 4)) → T (D + 2) 293 (0, [(0, zi (x : Int))], [], m) (fun r m1 => T (D + 3) 266 (23, [(0, zr 74), (1, zi (b : Int)), (2, zi (x : Int))], r.toList ++ [], m1) κ)) :
    T (D + 3) 266 (9, lo, [], m) κ := by
  have hb2 : 0 ≤ (m 74 4) ∧ (m 74 4) ≤ 6 := hB 74 4
  have hb3 : (-2147483648) ≤ (z_shl 1 (m 74 4)) ∧ (z_shl 1 (m 74 4)) ≤ 2147483647 := z_shlB 1 (m 74 4)
  have he0 : wr (x : Int) = (x : Int) := wr_id (by omega) (by omega)
  have he1 : wr (z_shl 1 (m 74 4)) = (z_shl 1 (m 74 4)) := wr_id (by omega) (by omega)
  have key := @zb266_9r T hT D κ m b x lo hlo
  simp only [he0, he1, Int.toNat_natCast] at key
  exact key
    (fun x0 => k1 x0 (zB_u (zB_u (zB_u hB (show 0 ≤ 0 ∧ 0 ≤ 32 from ⟨by omega, by omega⟩)) trivial) (show 0 ≤ 1 ∧ 1 ≤ 32 from ⟨by omega, by omega⟩)))
    k2
theorem zb266_23r (hT : zRules T) {D : Nat} {κ : Option zA → zM → Prop} {m : zM} {b : Nat} {x : Nat} {v : Int} {lo : zL} (hlo : z_keep [0, 1, 2] lo = [(0, zr 74), (1, zi (b : Int)), (2, zi (x : Int))]) 
    (o1 : T (D + 2) 293 (0, [(0, zi (b : Int))], [], m) (fun r m1 => T (D + 3) 266 (27, [(0, zr 74), (1, zi (b : Int)), (2, zi (x : Int))], r.toList ++ [zi v], m1) κ)) :
    T (D + 3) 266 (23, lo, [zi v], m) κ :=
  zkeep hT hlo (hT.1 [(9, [0, 1, 2])] 6 (D + 3) 266 _ κ (o1))
theorem zb266_23 (hT : zRules T) {D : Nat} {κ : Option zA → zM → Prop} {m : zM} {b : Nat} {x : Nat} {v : Int} {lo : zL} (hlo : z_keep [0, 1, 2] lo = [(0, zr 74), (1, zi (b : Int)), (2, zi (x : Int))])  (hB : zB m) (h_b : b ≤ 63) (h_x : x ≤ 63) (h_v : (-2147483648) ≤ v ∧ v ≤ 2147483647) 
    (k1 : T (D + 2) 293 (0, [(0, zi (b : Int))], [], m) (fun r m1 => T (D + 3) 266 (27, [(0, zr 74), (1, zi (b : Int)), (2, zi (x : Int))], r.toList ++ [zi v], m1) κ)) :
    T (D + 3) 266 (23, lo, [zi v], m) κ := by
  exact zb266_23r hT hlo
    k1
theorem zb266_27r (hT : zRules T) {D : Nat} {κ : Option zA → zM → Prop} {m : zM} {b : Nat} {x : Nat} {v : Int} {y : Int} {lo : zL} (hlo : z_keep [0, 1, 2] lo = [(0, zr 74), (1, zi (b : Int)), (2, zi (x : Int))]) 
    (o1 : ¬ wr y < wr v → T (D + 3) 266 (9, [(0, zr 74), (1, zi (b : Int)), (2, zi ((x : Int) + 1))], [], m) κ)
    (o2 : wr y < wr v → T (D + 2) 265 (0, [(0, zr 74), (1, zi (x : Int)), (2, zi 0)], [], m) (fun r m1 => T (D + 3) 266 (36, [(0, zr 74), (1, zi (b : Int)), (2, zi (x : Int))], r.toList ++ [], m1) κ)) :
    T (D + 3) 266 (27, lo, [zi y, zi v], m) κ :=
  zkeep hT hlo (hT.1 [(9, [0, 1, 2])] 6 (D + 3) 266 _ κ (And.intro (fun a1 => (o1 a1)) (fun a2 => (o2 (Classical.byContradiction a2)))))
theorem zb266_27 (hT : zRules T) {D : Nat} {κ : Option zA → zM → Prop} {m : zM} {b : Nat} {x : Nat} {v : Int} {y : Int} {lo : zL} (hlo : z_keep [0, 1, 2] lo = [(0, zr 74), (1, zi (b : Int)), (2, zi (x : Int))])  (hB : zB m) (h_b : b ≤ 63) (h_x : x ≤ 63) (h_v : (-2147483648) ≤ v ∧ v ≤ 2147483647) (h_y : (-2147483648) ≤ y ∧ y ≤ 2147483647) 
    (k1 : ¬ y < v → T (D + 3) 266 (9, [(0, zr 74), (1, zi (b : Int)), (2, zi ((x : Int) + 1))], [], m) κ)
    (k2 : y < v → T (D + 2) 265 (0, [(0, zr 74), (1, zi (x : Int)), (2, zi 0)], [], m) (fun r m1 => T (D + 3) 266 (36, [(0, zr 74), (1, zi (b : Int)), (2, zi (x : Int))], r.toList ++ [], m1) κ)) :
    T (D + 3) 266 (27, lo, [zi y, zi v], m) κ := by
  have he0 : wr y = y := wr_id (by omega) (by omega)
  have he1 : wr v = v := wr_id (by omega) (by omega)
  have key := @zb266_27r T hT D κ m b x v y lo hlo
  simp only [he0, he1, Int.toNat_natCast] at key
  exact key
    k1
    k2
theorem zb266_36r (hT : zRules T) {D : Nat} {κ : Option zA → zM → Prop} {m : zM} {b : Nat} {x : Nat} {v : Int} {lo : zL} (hlo : z_keep [0, 1, 2] lo = [(0, zr 74), (1, zi (b : Int)), (2, zi (x : Int))]) 
    (o1 : wr v = 0 → T (D + 3) 266 (9, [(0, zr 74), (1, zi (b : Int)), (2, zi ((x : Int) + 1))], [], m) κ)
    (o2 : ¬ wr v = 0 → T (D + 3) 266 (9, [(0, zr 74), (1, zi (x : Int)), (2, zi ((x : Int) + 1))], [], m) κ) :
    T (D + 3) 266 (36, lo, [zi v], m) κ :=
  zkeep hT hlo (hT.1 [(9, [0, 1, 2])] 6 (D + 3) 266 _ κ (And.intro (fun a1 => (o1 a1)) (fun a2 => (o2 a2))))
theorem zb266_36 (hT : zRules T) {D : Nat} {κ : Option zA → zM → Prop} {m : zM} {b : Nat} {x : Nat} {v : Int} {lo : zL} (hlo : z_keep [0, 1, 2] lo = [(0, zr 74), (1, zi (b : Int)), (2, zi (x : Int))])  (hB : zB m) (h_b : b ≤ 63) (h_x : x ≤ 63) (h_v : 0 ≤ v ∧ v ≤ 1) 
    (k1 : v = 0 → T (D + 3) 266 (9, [(0, zr 74), (1, zi (b : Int)), (2, zi ((x : Int) + 1))], [], m) κ)
    (k2 : ¬ v = 0 → T (D + 3) 266 (9, [(0, zr 74), (1, zi (x : Int)), (2, zi ((x : Int) + 1))], [], m) κ) :
    T (D + 3) 266 (36, lo, [zi v], m) κ := by
  have he0 : wr v = v := wr_id (by omega) (by omega)
  have key := @zb266_36r T hT D κ m b x v lo hlo
  simp only [he0, Int.toNat_natCast] at key
  exact key
    k1
    k2
theorem zb266_61r (hT : zRules T) {D : Nat} {κ : Option zA → zM → Prop} {m : zM} {v : Int} {lo : zL} (hlo : z_keep [] lo = []) 
    (o1 : κ (some (zi (wr v))) m) :
    T (D + 3) 266 (61, lo, [zi v], m) κ :=
  zkeep hT hlo (hT.1 [(9, [0, 1, 2])] 6 (D + 3) 266 _ κ (o1))
theorem zb266_61 (hT : zRules T) {D : Nat} {κ : Option zA → zM → Prop} {m : zM} {v : Int} {lo : zL} (hlo : z_keep [] lo = [])  (h_v : (-2147483648) ≤ v ∧ v ≤ 2147483647) 
    (k1 : κ (some (zi v)) m) :
    T (D + 3) 266 (61, lo, [zi v], m) κ := by
  have he0 : wr v = v := wr_id (by omega) (by omega)
  have key := @zb266_61r T hT D κ m v lo hlo
  simp only [he0, Int.toNat_natCast] at key
  exact key
    k1
theorem zb265_0r (hT : zRules T) {D : Nat} {κ : Option zA → zM → Prop} {m : zM} {x : Nat} {u : Nat} 
    (o1 : ¬ wr (x : Int) = 0 → T (D + 1) 292 (0, [(0, zi (x : Int))], [], m) (fun r m1 => T (D + 2) 265 (10, [(0, zr 74), (1, zi (x : Int)), (2, zi (u : Int))], r.toList ++ [], m1) κ))
    (o2 : wr (x : Int) = 0 → κ (some (zi 1)) m) :
    T (D + 2) 265 (0, [(0, zr 74), (1, zi (x : Int)), (2, zi (u : Int))], [], m) κ :=
  hT.1 [(14, [0, 1, 2, 3, 4])] 6 (D + 2) 265 _ κ (And.intro (fun a1 => (o1 a1)) (fun a2 => (And.intro (z_b01L rfl) (o2 (Classical.byContradiction a2)))))
theorem zb265_0 (hT : zRules T) {D : Nat} {κ : Option zA → zM → Prop} {m : zM} {x : Nat} {u : Nat}  (hB : zB m) (h_x : x ≤ 63) (h_u : u ≤ 255) 
    (k1 : ¬ (x : Int) = 0 → T (D + 1) 292 (0, [(0, zi (x : Int))], [], m) (fun r m1 => T (D + 2) 265 (10, [(0, zr 74), (1, zi (x : Int)), (2, zi (u : Int))], r.toList ++ [], m1) κ))
    (k2 : (x : Int) = 0 → κ (some (zi 1)) m) :
    T (D + 2) 265 (0, [(0, zr 74), (1, zi (x : Int)), (2, zi (u : Int))], [], m) κ := by
  have he0 : wr (x : Int) = (x : Int) := wr_id (by omega) (by omega)
  have key := @zb265_0r T hT D κ m x u
  simp only [he0, Int.toNat_natCast] at key
  exact key
    k1
    k2
theorem zb265_10r (hT : zRules T) {D : Nat} {κ : Option zA → zM → Prop} {m : zM} {x : Nat} {u : Nat} {t : Nat} {lo : zL} (hlo : z_keep [0, 1, 2] lo = [(0, zr 74), (1, zi (x : Int)), (2, zi (u : Int))]) 
    (o1 : T (D + 2) 265 (14, [(0, zr 74), (1, zi (x : Int)), (2, zi (u : Int)), (3, zi (t : Int)), (4, zi 0)], [], m) κ) :
    T (D + 2) 265 (10, lo, [zi (t : Int)], m) κ :=
  zkeep hT hlo (hT.1 [(14, [0, 1, 2, 3, 4])] 6 (D + 2) 265 _ κ (o1))
theorem zb265_10 (hT : zRules T) {D : Nat} {κ : Option zA → zM → Prop} {m : zM} {x : Nat} {u : Nat} {t : Nat} {lo : zL} (hlo : z_keep [0, 1, 2] lo = [(0, zr 74), (1, zi (x : Int)), (2, zi (u : Int))])  (hB : zB m) (h_x : x ≤ 63) (h_u : u ≤ 255) (h_t : t ≤ 5) 
    (k1 : T (D + 2) 265 (14, [(0, zr 74), (1, zi (x : Int)), (2, zi (u : Int)), (3, zi (t : Int)), (4, zi 0)], [], m) κ) :
    T (D + 2) 265 (10, lo, [zi (t : Int)], m) κ := by
  exact zb265_10r hT hlo
    k1
theorem zb265_14r (hT : zRules T) {D : Nat} {κ : Option zA → zM → Prop} {m : zM} {x : Nat} {u : Nat} {t : Nat} {c : Nat} {lo : zL} (hlo : z_keep [0, 1, 2, 3, 4] lo = [(0, zr 74), (1, zi (x : Int)), (2, zi (u : Int)), (3, zi (t : Int)), (4, zi (c : Int))]) 
    (o1 : ¬ wr (c : Int) < wr (m 74 6) → κ (some (zi 0)) m)
    (o2 : wr (c : Int) < wr (m 74 6) → ¬ wr (z_and (z_shr (u : Int) (c : Int)) 1) = 1 → (0 ≤ wr (12 + (c : Int)) ∧ wr (12 + (c : Int)) < 59))
    (o3 : wr (c : Int) < wr (m 74 6) → ¬ wr (z_and (z_shr (u : Int) (c : Int)) 1) = 1 → T (D + 1) 216 (0, [(0, zr 74), (1, zi (t : Int)), (2, zi 0)], [], m) (fun r m1 => T (D + 2) 265 (48, [(0, zr 74), (1, zi (x : Int)), (2, zi (u : Int)), (3, zi (t : Int)), (4, zi (c : Int))], r.toList ++ [zi (m 75 ((wr (12 + (c : Int))).toNat))], m1) κ))
    (o4 : wr (c : Int) < wr (m 74 6) → wr (z_and (z_shr (u : Int) (c : Int)) 1) = 1 → T (D + 2) 265 (14, [(0, zr 74), (1, zi (x : Int)), (2, zi (u : Int)), (3, zi (t : Int)), (4, zi ((c : Int) + 1))], [], m) κ) :
    T (D + 2) 265 (14, lo, [], m) κ :=
  zkeep hT hlo (hT.1 [(14, [0, 1, 2, 3, 4])] 6 (D + 2) 265 _ κ (And.intro (fun a1 => (And.intro (z_b01L rfl) (o1 a1))) (fun a2 => (hT.1 [(14, [0, 1, 2, 3, 4])] 6 (D + 2) 265 (26, [(0, zr 74), (1, zi (x : Int)), (2, zi (u : Int)), (3, zi (t : Int)), (4, zi (c : Int))], [zi (c : Int), zi (u : Int)], m) _ (hT.1 [] 6 (D + 1) 187 _ _ (hT.1 [] 6 (D + 1) 187 (6, [(0, zi (u : Int)), (1, zi (c : Int))], [zi 1, zi (z_and (z_shr (u : Int) (c : Int)) 1)], m) _ (And.intro (fun a3 => (And.intro (z_b01L rfl) (hT.1 [(14, [0, 1, 2, 3, 4])] 6 (D + 2) 265 _ _ (And.intro (fun a5 => (z_litF a5 rfl).elim) (fun _ => (hT.1 [(14, [0, 1, 2, 3, 4])] 6 (D + 2) 265 (41, [(0, zr 74), (1, zi (x : Int)), (2, zi (u : Int)), (3, zi (t : Int)), (4, zi (c : Int))], [zi (12 + (c : Int)), zr 75], m) _ (And.intro (o2 (Classical.byContradiction a2) a3) (o3 (Classical.byContradiction a2) a3)))))))) (fun a4 => (And.intro (z_b01L rfl) (hT.1 [(14, [0, 1, 2, 3, 4])] 6 (D + 2) 265 _ _ (And.intro (fun _ => (o4 (Classical.byContradiction a2) (Classical.byContradiction a4))) (fun a6 => (a6 (z_litT rfl)).elim))))))))))))
theorem zb265_14 (hT : zRules T) {D : Nat} {κ : Option zA → zM → Prop} {m : zM} {x : Nat} {u : Nat} {t : Nat} {c : Nat} {lo : zL} (hlo : z_keep [0, 1, 2, 3, 4] lo = [(0, zr 74), (1, zi (x : Int)), (2, zi (u : Int)), (3, zi (t : Int)), (4, zi (c : Int))])  (hB : zB m) (h_x : x ≤ 63) (h_u : u ≤ 255) (h_t : t ≤ 5) (h_c : c ≤ 8) 
    (k1 : ¬ (c : Int) < (m 74 6) → κ (some (zi 0)) m)
    (k2 : (c : Int) < (m 74 6) → ¬ (z_and (z_shr (u : Int) (c : Int)) 1) = 1 → T (D + 1) 216 (0, [(0, zr 74), (1, zi (t : Int)), (2, zi 0)], [], m) (fun r m1 => T (D + 2) 265 (48, [(0, zr 74), (1, zi (x : Int)), (2, zi (u : Int)), (3, zi (t : Int)), (4, zi (c : Int))], r.toList ++ [zi (m 75 (c + 12))], m1) κ))
    (k3 : (c : Int) < (m 74 6) → (z_and (z_shr (u : Int) (c : Int)) 1) = 1 → T (D + 2) 265 (14, [(0, zr 74), (1, zi (x : Int)), (2, zi (u : Int)), (3, zi (t : Int)), (4, zi ((c : Int) + 1))], [], m) κ) :
    T (D + 2) 265 (14, lo, [], m) κ := by
  have hb4 : 0 ≤ (m 74 6) ∧ (m 74 6) ≤ 8 := hB 74 6
  have hb5 : (-2147483648) ≤ (z_shr (u : Int) (c : Int)) ∧ (z_shr (u : Int) (c : Int)) ≤ 2147483647 := z_shrB (u : Int) (c : Int)
  have hb6 : 0 ≤ (z_and (z_shr (u : Int) (c : Int)) 1) ∧ (z_and (z_shr (u : Int) (c : Int)) 1) ≤ 1 := z_andC (z_shr (u : Int) (c : Int)) 1 (by decide)
  have hb7 : (-1) ≤ (m 75 (c + 12)) ∧ (m 75 (c + 12)) ≤ 99 := zSg hB 75 12 28 (-1) 99 rfl (c + 12) (by omega) (by omega)
  have he0 : wr (c : Int) = (c : Int) := wr_id (by omega) (by omega)
  have he1 : wr (m 74 6) = (m 74 6) := wr_id (by omega) (by omega)
  have he2 : wr (z_and (z_shr (u : Int) (c : Int)) 1) = (z_and (z_shr (u : Int) (c : Int)) 1) := wr_id (by omega) (by omega)
  have he3 : wr (12 + (c : Int)) = (12 + (c : Int)) := wr_id (by omega) (by omega)
  have he4 : (12 + (c : Int)).toNat = c + 12 := by omega
  have key := @zb265_14r T hT D κ m x u t c lo hlo
  simp only [he0, he1, he2, he3, he4, Int.toNat_natCast] at key
  exact key
    k1
    (fun x0 x1 => by refine ⟨?_, ?_⟩ <;> omega)
    k2
    k3
theorem zb265_48r (hT : zRules T) {D : Nat} {κ : Option zA → zM → Prop} {m : zM} {x : Nat} {u : Nat} {t : Nat} {c : Nat} {l : Int} {v : Int} {lo : zL} (hlo : z_keep [0, 1, 2, 3, 4] lo = [(0, zr 74), (1, zi (x : Int)), (2, zi (u : Int)), (3, zi (t : Int)), (4, zi (c : Int))]) 
    (o1 : ¬ wr l = wr v → T (D + 2) 265 (14, [(0, zr 74), (1, zi (x : Int)), (2, zi (u : Int)), (3, zi (t : Int)), (4, zi ((c : Int) + 1))], [], m) κ)
    (o2 : wr l = wr v → T (D + 1) 265 (0, [(0, zr 74), (1, zi (z_and (x : Int) ((x : Int) - 1))), (2, zi (z_or (u : Int) (z_shl 1 (c : Int))))], [], m) (fun r m1 => T (D + 2) 265 (66, [(0, zr 74), (1, zi (x : Int)), (2, zi (u : Int)), (3, zi (t : Int)), (4, zi (c : Int))], r.toList ++ [], m1) κ)) :
    T (D + 2) 265 (48, lo, [zi v, zi l], m) κ :=
  zkeep hT hlo (hT.1 [(14, [0, 1, 2, 3, 4])] 6 (D + 2) 265 _ κ (And.intro (fun a1 => (o1 a1)) (fun a2 => (hT.1 [(14, [0, 1, 2, 3, 4])] 6 (D + 2) 265 (56, [(0, zr 74), (1, zi (x : Int)), (2, zi (u : Int)), (3, zi (t : Int)), (4, zi (c : Int))], [zi ((x : Int) - 1), zi (x : Int), zr 74], m) _ (hT.1 [(14, [0, 1, 2, 3, 4])] 6 (D + 2) 265 (63, [(0, zr 74), (1, zi (x : Int)), (2, zi (u : Int)), (3, zi (t : Int)), (4, zi (c : Int))], [zi (z_or (u : Int) (z_shl 1 (c : Int))), zi (z_and (x : Int) ((x : Int) - 1)), zr 74], m) _ (o2 (Classical.byContradiction a2)))))))
theorem zb265_48 (hT : zRules T) {D : Nat} {κ : Option zA → zM → Prop} {m : zM} {x : Nat} {u : Nat} {t : Nat} {c : Nat} {l : Int} {v : Int} {lo : zL} (hlo : z_keep [0, 1, 2, 3, 4] lo = [(0, zr 74), (1, zi (x : Int)), (2, zi (u : Int)), (3, zi (t : Int)), (4, zi (c : Int))])  (hB : zB m) (h_x : x ≤ 63) (h_u : u ≤ 255) (h_t : t ≤ 5) (h_c : c ≤ 7) (h_l : (-1) ≤ l ∧ l ≤ 99) (h_v : 0 ≤ v ∧ v ≤ 99) 
    (k1 : ¬ l = v → T (D + 2) 265 (14, [(0, zr 74), (1, zi (x : Int)), (2, zi (u : Int)), (3, zi (t : Int)), (4, zi ((c : Int) + 1))], [], m) κ)
    (k2 : l = v → T (D + 1) 265 (0, [(0, zr 74), (1, zi (z_and (x : Int) ((x : Int) - 1))), (2, zi (z_or (u : Int) (z_shl 1 (c : Int))))], [], m) (fun r m1 => T (D + 2) 265 (66, [(0, zr 74), (1, zi (x : Int)), (2, zi (u : Int)), (3, zi (t : Int)), (4, zi (c : Int))], r.toList ++ [], m1) κ)) :
    T (D + 2) 265 (48, lo, [zi v, zi l], m) κ := by
  have hb6 : (-2147483648) ≤ (z_and (x : Int) ((x : Int) - 1)) ∧ (z_and (x : Int) ((x : Int) - 1)) ≤ 2147483647 := z_andB (x : Int) ((x : Int) - 1)
  have hb7 : (-2147483648) ≤ (z_shl 1 (c : Int)) ∧ (z_shl 1 (c : Int)) ≤ 2147483647 := z_shlB 1 (c : Int)
  have hb8 : (-2147483648) ≤ (z_or (u : Int) (z_shl 1 (c : Int))) ∧ (z_or (u : Int) (z_shl 1 (c : Int))) ≤ 2147483647 := z_orB (u : Int) (z_shl 1 (c : Int))
  have he0 : wr l = l := wr_id (by omega) (by omega)
  have he1 : wr v = v := wr_id (by omega) (by omega)
  have key := @zb265_48r T hT D κ m x u t c l v lo hlo
  simp only [he0, he1, Int.toNat_natCast] at key
  exact key
    k1
    k2
theorem zb265_66r (hT : zRules T) {D : Nat} {κ : Option zA → zM → Prop} {m : zM} {x : Nat} {u : Nat} {t : Nat} {c : Nat} {v : Int} {lo : zL} (hlo : z_keep [0, 1, 2, 3, 4] lo = [(0, zr 74), (1, zi (x : Int)), (2, zi (u : Int)), (3, zi (t : Int)), (4, zi (c : Int))]) 
    (o1 : wr v = 0 → T (D + 2) 265 (14, [(0, zr 74), (1, zi (x : Int)), (2, zi (u : Int)), (3, zi (t : Int)), (4, zi ((c : Int) + 1))], [], m) κ)
    (o2 : ¬ wr v = 0 → κ (some (zi 1)) m) :
    T (D + 2) 265 (66, lo, [zi v], m) κ :=
  zkeep hT hlo (hT.1 [(14, [0, 1, 2, 3, 4])] 6 (D + 2) 265 _ κ (And.intro (fun a1 => (o1 a1)) (fun a2 => (And.intro (z_b01L rfl) (o2 a2)))))
theorem zb265_66 (hT : zRules T) {D : Nat} {κ : Option zA → zM → Prop} {m : zM} {x : Nat} {u : Nat} {t : Nat} {c : Nat} {v : Int} {lo : zL} (hlo : z_keep [0, 1, 2, 3, 4] lo = [(0, zr 74), (1, zi (x : Int)), (2, zi (u : Int)), (3, zi (t : Int)), (4, zi (c : Int))])  (hB : zB m) (h_x : x ≤ 63) (h_u : u ≤ 255) (h_t : t ≤ 5) (h_c : c ≤ 7) (h_v : 0 ≤ v ∧ v ≤ 1) 
    (k1 : v = 0 → T (D + 2) 265 (14, [(0, zr 74), (1, zi (x : Int)), (2, zi (u : Int)), (3, zi (t : Int)), (4, zi ((c : Int) + 1))], [], m) κ)
    (k2 : ¬ v = 0 → κ (some (zi 1)) m) :
    T (D + 2) 265 (66, lo, [zi v], m) κ := by
  have he0 : wr v = v := wr_id (by omega) (by omega)
  have key := @zb265_66r T hT D κ m x u t c v lo hlo
  simp only [he0, Int.toNat_natCast] at key
  exact key
    k1
    k2
end ZBlocks
end
-- 93.ready.lean.txt
section
/-! ready(): it ends, and leaves what matters. -/
noncomputable def popc (x : Nat) : Nat := (List.range 6).countP (fun i => x.testBit i)
theorem popc_low : ∀ x : Nat, x < 64 → ¬ x = 0 → popc (x &&& (x - 1)) < popc x := by decide +kernel
theorem popc_6 : ∀ x : Nat, x < 64 → popc x ≤ 6 := by decide +kernel
theorem ntz_n : ∀ x : Nat, x < 64 → ¬ x = 0 → z_and (z_xor (x : Int) (-1)) ((x : Int) - 1) = 0 ∨ z_and (z_xor (x : Int) (-1)) ((x : Int) - 1) = 1 ∨ z_and (z_xor (x : Int) (-1)) ((x : Int) - 1) = 3 ∨ z_and (z_xor (x : Int) (-1)) ((x : Int) - 1) = 7 ∨ z_and (z_xor (x : Int) (-1)) ((x : Int) - 1) = 15 ∨ z_and (z_xor (x : Int) (-1)) ((x : Int) - 1) = 31 := by decide +kernel
theorem ntz_b0 : ∀ n : Nat, n < 7 → ∀ x : Nat, x < 2 ^ n → ¬ x = 0 → z_and (z_xor (x : Int) (-1)) ((x : Int) - 1) = 0 → 1 ≤ n := by decide +kernel
theorem ntz_b1 : ∀ n : Nat, n < 7 → ∀ x : Nat, x < 2 ^ n → ¬ x = 0 → z_and (z_xor (x : Int) (-1)) ((x : Int) - 1) = 1 → 2 ≤ n := by decide +kernel
theorem ntz_b2 : ∀ n : Nat, n < 7 → ∀ x : Nat, x < 2 ^ n → ¬ x = 0 → z_and (z_xor (x : Int) (-1)) ((x : Int) - 1) = 3 → 3 ≤ n := by decide +kernel
theorem ntz_b3 : ∀ n : Nat, n < 7 → ∀ x : Nat, x < 2 ^ n → ¬ x = 0 → z_and (z_xor (x : Int) (-1)) ((x : Int) - 1) = 7 → 4 ≤ n := by decide +kernel
theorem ntz_b4 : ∀ n : Nat, n < 7 → ∀ x : Nat, x < 2 ^ n → ¬ x = 0 → z_and (z_xor (x : Int) (-1)) ((x : Int) - 1) = 15 → 5 ≤ n := by decide +kernel
theorem ntz_b5 : ∀ n : Nat, n < 7 → ∀ x : Nat, x < 2 ^ n → ¬ x = 0 → z_and (z_xor (x : Int) (-1)) ((x : Int) - 1) = 31 → 6 ≤ n := by decide +kernel
section ZReady
variable {T : Nat → Nat → zG → (Option zA → zM → Prop) → Prop} {B : Int}
theorem z_ntzP (hT : zRules T) {D : Nat} {κ : Option zA → zM → Prop} {m : zM} {x n : Nat} (hn : n ≤ 6) (hx : x < 2 ^ n) (h0 : ¬ x = 0) (hk : ∀ t : Nat, t < n → κ (some (zi (t : Int))) m) : T (D + 1) 292 (0, [(0, zi (x : Int))], [], m) κ := by
  have p6 : 2 ^ n ≤ 2 ^ 6 := Nat.pow_le_pow_right (by omega) (by omega)
  have h := zb292_0 (D := D) (κ := κ) (m := m) (x := x) hT (by omega)
  have e1 : z_ush 31 4 = 1 := by decide +kernel
  have go : ∀ L : Int, L < n → ∀ v : Int, 0 ≤ v → v ≤ L → κ (some (zi v)) m := fun L hL v h1 h2 => by
    have := hk v.toNat (by omega)
    rwa [Int.toNat_of_nonneg h1] at this
  rcases ntz_n x (by omega) h0 with e | e | e | e | e | e
  · have hh := ntz_b0 n (by omega) x hx h0 e
    rw [e] at h
    apply h
    all_goals (intros; first | omega | exact go 0 (by omega) _ (by decide +kernel) (by decide +kernel))
  · have hh := ntz_b1 n (by omega) x hx h0 e
    rw [e] at h
    apply h
    all_goals (intros; first | omega | exact go 1 (by omega) _ (by decide +kernel) (by decide +kernel))
  · have hh := ntz_b2 n (by omega) x hx h0 e
    rw [e] at h
    apply h
    all_goals (intros; first | omega | exact go 2 (by omega) _ (by decide +kernel) (by decide +kernel))
  · have hh := ntz_b3 n (by omega) x hx h0 e
    rw [e] at h
    apply h
    all_goals (intros; first | omega | exact go 3 (by omega) _ (by decide +kernel) (by decide +kernel))
  · have hh := ntz_b4 n (by omega) x hx h0 e
    rw [e] at h
    apply h
    all_goals (intros; first | omega | exact go 4 (by omega) _ (by decide +kernel) (by decide +kernel))
  · have hh := ntz_b5 n (by omega) x hx h0 e
    rw [e, e1] at h
    apply h
    all_goals (intros; first | omega | exact go 5 (by omega) _ (by decide +kernel) (by decide +kernel))
theorem z_canReady (hT : zRules T) {m : zM} {sc : zSc} {n k : Nat} (hI : Inv B sc n k m) : ∀ (j : Nat) (D : Nat) (κ : Option zA → zM → Prop) (M : zM) (x u : Nat), popc x ≤ j → x < 2 ^ n → u ≤ 255 → zB M → Agree coreK m M →
    (∀ v M1, (0 ≤ v ∧ v ≤ 1) → zB M1 → Agree coreK m M1 → κ (some (zi v)) M1) → T (D + j + 172) 265 (0, [(0, zr 74), (1, zi (x : Int)), (2, zi (u : Int))], [], M) κ := by
  have i1 := hI.1
  have h4 := hI.2.2.2.1
  have b17 : 0 ≤ m 17 0 ∧ m 17 0 ≤ 6 := i1 17 0
  have b171 : 0 ≤ m 17 1 ∧ m 17 1 ≤ 8 := i1 17 1
  have n1 := h4.1.1
  have k1 := h4.2.1.1
  have k2 := h4.2.1.2
  have p6 : 2 ^ n ≤ 2 ^ 6 := Nat.pow_le_pow_right (by omega) (by omega)
  intro j
  induction j with
  | zero =>
    intro D κ M x u hx hxn hu hBM hA hk
    have x0 : x = 0 := by
      by_cases e : x = 0
      · exact e
      · have := popc_low x (by omega) e
        omega
    subst x0
    exact zb265_0 (D := D + 170) hT hBM (by omega) hu (fun q => absurd rfl q) (fun _ => hk 1 M (by omega) hBM hA)
  | succ j ih =>
    intro D κ M x u hx hxn hu hBM hA hk
    by_cases x0 : x = 0
    · subst x0
      exact zb265_0 (D := D + j + 171) hT hBM (by omega) hu (fun q => absurd rfl q) (fun _ => hk 1 M (by omega) hBM hA)
    refine zb265_0 (D := D + j + 171) hT hBM (by omega) hu (fun _ => ?_) (fun q => by omega)
    refine z_ntzP (D := D + j + 171) (n := n) hT (by omega) hxn x0 (fun t ht => ?_)
    refine zb265_10 (D := D + j + 171) hT rfl hBM (by omega) hu (by omega) ?_
    have loop : ∀ (i c : Nat) (M : zM), c + i = k → zB M → Agree coreK m M → T (D + j + 173) 265 (14, [(0, zr 74), (1, zi (x : Int)), (2, zi (u : Int)), (3, zi (t : Int)), (4, zi (c : Int))], [], M) κ := by
      intro i
      induction i with
      | zero =>
        intro c M hc hBM hA
        have e6 : M 74 6 = (k : Int) := (hA 74 6 rfl).trans k2
        exact zb265_14 (D := D + j + 171) hT rfl hBM (by omega) hu (by omega) (by omega) (fun _ => hk 0 M (by omega) hBM hA) (fun q => by omega) (fun q => by omega)
      | succ i ih2 =>
        intro c M hc hBM hA
        have e6 : M 74 6 = (k : Int) := (hA 74 6 rfl).trans k2
        have b12 : -1 ≤ M 75 (c + 12) ∧ M 75 (c + 12) ≤ 99 := zSg hBM 75 12 20 (-1) 99 rfl (c + 12) (by omega) (by omega)
        have bpl := (h4.2.2.2.2.1 t (by omega)).1
        obtain ⟨pl, hpl⟩ : ∃ pl : Nat, m 75 t = (pl : Int) := ⟨(m 75 t).toNat, by omega⟩
        refine zb265_14 (D := D + j + 171) hT rfl hBM (by omega) hu (by omega) (by omega) (fun q => by omega) (fun _ _ => ?_) (fun _ _ => ih2 (c + 1) M (by omega) hBM hA)
        refine z_lawInF (d := 0) (pl := pl) (D := D + j + 1) hT hI hBM (hA.sub (fun q hq => List.mem_append.mpr (Or.inr (List.mem_append.mpr (Or.inl hq))))) (funext fun j => hA 78 j rfl) (hA 75 57 rfl) (by omega) ((hA 75 t rfl).trans hpl) (by omega) (fun M1 hB1 hF1 => ?_)
        have hA1 : Agree coreK m M1 := hA.trans (.of hF1 rfl)
        refine zb265_48 (D := D + j + 171) hT rfl hB1 (by omega) hu (by omega) (by omega) b12 laFB (fun _ => ih2 (c + 1) M1 (by omega) hB1 hA1) (fun _ => ?_)
        have en : z_and (x : Int) ((x : Int) - 1) = ((x &&& (x - 1) : Nat) : Int) := by
          rw [show (x : Int) - 1 = ((x - 1 : Nat) : Int) by omega, z_andN (by omega) (by omega)]
        have eo : z_or (u : Int) (z_shl 1 (c : Int)) = ((u ||| 2 ^ c : Nat) : Int) := by
          have p8 : 2 ^ c ≤ 2 ^ 8 := Nat.pow_le_pow_right (by omega) (by omega)
          rw [z_shl1T c (by omega), z_orN (by omega) (by omega)]
        have ho : u ||| 2 ^ c < 2 ^ 8 := Nat.or_lt_two_pow (by omega) (Nat.pow_lt_pow_right (by omega) (by omega))
        have hl : x &&& (x - 1) ≤ x := Nat.and_le_left
        have hp := popc_low x (by omega) x0
        rw [en, eo]
        refine ih D _ M1 (x &&& (x - 1)) (u ||| 2 ^ c) (by omega) (by omega) (by omega) hB1 hA1 (fun v M2 hv hB2 hA2 => ?_)
        exact zb265_66 (D := D + j + 171) hT rfl hB2 (by omega) hu (by omega) (by omega) hv (fun _ => ih2 (c + 1) M2 (by omega) hB2 hA2) (fun _ => hk 1 M2 (by omega) hB2 hA2)
    exact loop k 0 M (by omega) hBM hA
theorem w_ready0 (hT : zRules T) : Way T 145 266 [(0, zr 1)] [(0, zr 74)] 5 179 B B False := by
  rintro D m sc ⟨n, k, hI⟩ κ hκ
  have hI0 := hI
  obtain ⟨i1, i2, i3, i4, i5, i6, i7, i8, i9, i10, i11⟩ := hI
  obtain ⟨⟨n1, n2⟩, ⟨k1, k2⟩, hh, hRel, hok⟩ := i4
  have b17 : 0 ≤ m 17 0 ∧ m 17 0 ≤ 6 := i1 17 0
  have b171 : 0 ≤ m 17 1 ∧ m 17 1 ≤ 8 := i1 17 1
  have p6 : 2 ^ n ≤ 2 ^ 6 := Nat.pow_le_pow_right (by omega) (by omega)
  have ref : ∀ (r : Option zA) (M0 : zM), zB M0 → Agree coreK m M0 → κ r M0 := by
    intro r M0 hB0 hA0
    refine hκ _ _ (fun D2 κ2 h2 => ?_)
    have fin : ∀ r2 M1, zB M1 → Agree coreK m M1 → κ2 r2 M1 := fun r2 M1 hB1 hA1 => h2 _ _ (fun x => x.elim) ⟨n, k, Inv_fr hA1 hB1 hI0⟩
    refine zb266_0 (D := D2 + 176) hT hB0 (fun hz => ?_)
    have loop : ∀ (j x b : Nat) (M : zM), x + j = 2 ^ n → b ≤ 63 → zB M → Agree coreK m M → T (D2 + 179) 266 (9, [(0, zr 74), (1, zi (b : Int)), (2, zi (x : Int))], [], M) κ2 := by
      intro j
      induction j with
      | zero =>
        intro x b M hx hb hBM hA
        have e4 : z_shl 1 (M 74 4) = ((2 ^ n : Nat) : Int) := by rw [hA 74 4 rfl, n2, z_shl1T n (by omega)]
        generalize 2 ^ n = N at p6 hx e4
        refine zb266_9 (D := D2 + 176) hT rfl hBM hb (by omega) (fun _ hz2 => ?_) (fun q => by omega)
        refine zb293_0 (D := D2 + 177) hT (by omega) ?_
        exact zb266_61 (D := D2 + 176) hT rfl (z_andB _ _) (fin _ _ hz2 (hA.trans (.of (L := [(74, some 11), (81, none)]) (((zFr.refl.set rfl).set rfl).set rfl) rfl)))
      | succ j ih =>
        intro x b M hx hb hBM hA
        have e4 : z_shl 1 (M 74 4) = ((2 ^ n : Nat) : Int) := by rw [hA 74 4 rfl, n2, z_shl1T n (by omega)]
        have hxn : x < 2 ^ n := by omega
        have hx63 : x ≤ 63 := by omega
        have hlt : (x : Int) < z_shl 1 (M 74 4) := by
          rw [e4]
          exact Int.ofNat_lt.mpr hxn
        have nx := fun b M hb h1 h2 => ih (x + 1) b M (by omega) hb h1 h2
        refine zb266_9 (D := D2 + 176) hT rfl hBM hb (by omega) (fun q => absurd hlt q) (fun _ => ?_)
        refine zb293_0 (D := D2 + 177) hT (by omega) ?_
        refine zb266_23 (D := D2 + 176) hT rfl hBM hb hx63 (z_andB _ _) ?_
        refine zb293_0 (D := D2 + 177) hT (by omega) ?_
        refine zb266_27 (D := D2 + 176) hT rfl hBM hb hx63 (z_andB _ _) (z_andB _ _) (fun _ => nx b M hb hBM hA) (fun _ => ?_)
        have hp := popc_6 x (by omega)
        refine z_canReady hT hI0 6 D2 _ M x 0 hp hxn (by omega) hBM hA (fun v M1 hv hB1 hA1 => ?_)
        exact zb266_36 (D := D2 + 176) hT rfl hB1 hb hx63 hv (fun _ => nx b M1 hb hB1 hA1) (fun _ => nx x M1 hx63 hB1 hA1)
    have p1 : 1 ≤ 2 ^ n := Nat.one_le_two_pow
    exact loop (2 ^ n - 1) 1 0 _ (by omega) (by omega) hz (hA0.trans (.of (L := [(74, some 12)]) (zFr.refl.set rfl) rfl))
  have loop : ∀ (j t w o : Nat) (M : zM), t + j = n → w ≤ 255 → o < 2 ^ t → zB M → zFr (inL [(13, none)]) m M → T (D + 5) 145 (6, [(0, zr 1), (1, zi (w : Int)), (2, zi (o : Int)), (3, zi (t : Int))], [], M) κ := by
    intro j
    induction j with
    | zero =>
      intro t w o M ht hw ho hBM hF
      have et : t = n := by omega
      subst et
      have e17 : M 17 0 = (t : Int) := (hF 17 0 rfl).trans n1
      refine zb145_6 hT rfl hBM hw (by omega) (by omega) (fun _ hz => ?_) (fun q => by omega)
      refine zb293_0 (D := D + 3) hT (by omega) ?_
      exact zb145_69 hT rfl (z_andB _ _) (ref _ _ hz ((Agree.of hF rfl).trans (.of (L := [(72, some 1), (73, none)]) ((zFr.refl.set rfl).set rfl) rfl)))
    | succ j ih =>
      intro t w o M ht hw ho hBM hF
      have e17 : M 17 0 = (n : Int) := (hF 17 0 rfl).trans n1
      have pt : 2 ^ t ≤ 2 ^ 6 := Nat.pow_le_pow_right (by omega) (by omega)
      have pt1 : 2 ^ (t + 1) = 2 ^ t + 2 ^ t := by rw [Nat.pow_succ]; omega
      obtain ⟨r1, r2⟩ := hRel.1 t (by omega)
      have h18 := (hh t (by omega)).2
      have bpl := (hok.1 t (by omega)).1
      obtain ⟨pl, hpl⟩ : ∃ pl : Nat, m 75 t = (pl : Int) := ⟨(m 75 t).toNat, by omega⟩
      have hA : Agree KL m M := .of hF rfl
      refine zb145_6 hT rfl hBM hw (by omega) (by omega) (fun q => by omega) (fun _ => ?_)
      refine z_lawNow (pl := pl) hT hBM (by omega) (by rw [hF 18 t rfl]; omega) (by rw [hF 19 t rfl]; omega) (by omega) (hA.law.1 i3).1 (fun M1 hB1 hF1 => ?_)
      have hFa := hF.trans (hF1.sub rowL13)
      refine zb145_26 hT rfl hB1 hw (by omega) (by omega) LWB ?_
      have hl := LWB (m := M) (h := M 18 t) (i := (t : Int)) (p := pl) (w := M 17 11)
      generalize LW M (M 18 t) (t : Int) pl (M 17 11) = l at hl ⊢
      have fl : ∀ v : Int, (-1 ≤ v ∧ v ≤ 7) → T (D + 5) 145 (30, [(0, zr 1), (1, zi (w : Int)), (2, zi (o : Int)), (3, zi (t : Int))], [zi v], M1) κ := by
        intro v hv
        refine zb145_30 hT rfl hB1 hw (by omega) (by omega) hv (fun _ => ih (t + 1) w o M1 (by omega) hw (by omega) hB1 hFa) (fun q => ?_)
        obtain ⟨c, rfl⟩ : ∃ c : Nat, v = (c : Int) := ⟨v.toNat, by omega⟩
        have p8 : 2 ^ c ≤ 2 ^ 7 := Nat.pow_le_pow_right (by omega) (by omega)
        have ho2 : w ||| 2 ^ c < 2 ^ 8 := Nat.or_lt_two_pow (by omega) (by omega)
        have ho3 : o ||| 2 ^ t < 2 ^ (t + 1) := Nat.or_lt_two_pow (by omega) (by omega)
        rw [z_shl1T c (by omega), z_shl1T t (by omega), z_orN (by omega) (by omega), z_orN (by omega) (by omega)]
        exact ih (t + 1) (w ||| 2 ^ c) (o ||| 2 ^ t) M1 (by omega) (by omega) ho3 hB1 hFa
      have find : ∀ (i c : Nat), c + i = k → T (D + 4) 31 (2, [(0, zr 17), (1, zi l), (2, zi (w : Int)), (3, zi (c : Int))], [], M1) (fun r m1 => T (D + 5) 145 (30, [(0, zr 1), (1, zi (w : Int)), (2, zi (o : Int)), (3, zi (t : Int))], r.toList ++ [], m1) κ) := by
        intro i
        induction i with
        | zero =>
          intro c hc
          have e171 : M1 17 1 = (k : Int) := (hFa 17 1 rfl).trans k1
          exact zb31_2 (D := D + 3) hT rfl hB1 hl hw (by omega) (fun _ => fl (-1) (by omega)) (fun q => by omega) (fun q => by omega) (fun q => by omega)
        | succ i ih2 =>
          intro c hc
          have e171 : M1 17 1 = (k : Int) := (hFa 17 1 rfl).trans k1
          exact zb31_2 (D := D + 3) hT rfl hB1 hl hw (by omega) (fun q => by omega) (fun _ _ => ih2 (c + 1) (by omega)) (fun _ _ _ => ih2 (c + 1) (by omega)) (fun _ _ _ => fl (c : Int) (by omega))
      exact zb31_0 (D := D + 3) hT hB1 hl hw (find k 0 (by omega))
  exact zb145_0 hT i1 (loop n 0 0 0 m (by omega) (by omega) (by rw [Nat.pow_zero]; omega) i1 zFr.refl)
end ZReady
end
-- 94.b15.lean.txt
section
section ZBlocks
variable {T : Nat → Nat → zG → (Option zA → zM → Prop) → Prop}
theorem zb156_0r (hT : zRules T) {D : Nat} {κ : Option zA → zM → Prop} {m : zM} 
    (o1 : T (D + 4) 102 (0, [(0, zr 64)], [], m) (fun r m1 => T (D + 5) 156 (7, [(0, zr 1)], r.toList ++ [], m1) κ)) :
    T (D + 5) 156 (0, [(0, zr 1)], [], m) κ :=
  hT.1 [] 6 (D + 5) 156 _ κ (o1)
theorem zb156_0 (hT : zRules T) {D : Nat} {κ : Option zA → zM → Prop} {m : zM}  (hB : zB m) 
    (k1 : T (D + 4) 102 (0, [(0, zr 64)], [], m) (fun r m1 => T (D + 5) 156 (7, [(0, zr 1)], r.toList ++ [], m1) κ)) :
    T (D + 5) 156 (0, [(0, zr 1)], [], m) κ := by
  exact zb156_0r hT
    k1
theorem zb156_7r (hT : zRules T) {D : Nat} {κ : Option zA → zM → Prop} {m : zM} {b : Nat} {lo : zL} (hlo : z_keep [0] lo = [(0, zr 1)]) 
    (o1 : T (D + 4) 293 (0, [(0, zi (b : Int))], [], (zu (zu m 72 1 1) 73 0 (b : Int))) (fun r m1 => T (D + 5) 156 (20, [(0, zr 1), (1, zi (b : Int))], r.toList ++ [], m1) κ)) :
    T (D + 5) 156 (7, lo, [zi (b : Int)], m) κ :=
  zkeep hT hlo (hT.1 [] 6 (D + 5) 156 _ κ (hT.1 [] 6 (D + 4) 45 _ _ (And.intro trivial (hT.1 [] 6 (D + 4) 45 (10, [(0, zr 72), (1, zi (b : Int))], [zi 0, zr 73], (zu m 72 1 1)) _ (And.intro (And.intro (z_ixL rfl) trivial) (hT.1 [] 6 (D + 5) 156 _ _ (o1)))))))
theorem zb156_7 (hT : zRules T) {D : Nat} {κ : Option zA → zM → Prop} {m : zM} {b : Nat} {lo : zL} (hlo : z_keep [0] lo = [(0, zr 1)])  (hB : zB m) (h_b : b ≤ 127) 
    (k1 : zB (zu (zu m 72 1 1) 73 0 (b : Int)) → T (D + 4) 293 (0, [(0, zi (b : Int))], [], (zu (zu m 72 1 1) 73 0 (b : Int))) (fun r m1 => T (D + 5) 156 (20, [(0, zr 1), (1, zi (b : Int))], r.toList ++ [], m1) κ)) :
    T (D + 5) 156 (7, lo, [zi (b : Int)], m) κ := by
  exact zb156_7r hT hlo
    (k1  (zB_u (zB_u hB (show 0 ≤ 1 ∧ 1 ≤ 26 from ⟨by omega, by omega⟩)) trivial))
theorem zb156_20r (hT : zRules T) {D : Nat} {κ : Option zA → zM → Prop} {m : zM} {v : Int} {lo : zL} (hlo : z_keep [] lo = []) 
    (o1 : κ (some (zi (wr v))) m) :
    T (D + 5) 156 (20, lo, [zi v], m) κ :=
  zkeep hT hlo (hT.1 [] 6 (D + 5) 156 _ κ (o1))
theorem zb156_20 (hT : zRules T) {D : Nat} {κ : Option zA → zM → Prop} {m : zM} {v : Int} {lo : zL} (hlo : z_keep [] lo = [])  (h_v : (-2147483648) ≤ v ∧ v ≤ 2147483647) 
    (k1 : κ (some (zi v)) m) :
    T (D + 5) 156 (20, lo, [zi v], m) κ := by
  have he0 : wr v = v := wr_id (by omega) (by omega)
  have key := @zb156_20r T hT D κ m v lo hlo
  simp only [he0, Int.toNat_natCast] at key
  exact key
    k1
theorem zb102_0r (hT : zRules T) {D : Nat} {κ : Option zA → zM → Prop} {m : zM} 
    (o1 : T (D + 4) 102 (11, [(0, zr 64), (1, zi 0), (2, zi 1)], [], (zu m 71 0 1)) κ) :
    T (D + 4) 102 (0, [(0, zr 64)], [], m) κ :=
  hT.1 [(11, [0, 1, 2])] 6 (D + 4) 102 _ κ (hT.1 [(11, [0, 1, 2])] 6 (D + 4) 102 (8, [(0, zr 64), (1, zi 0)], [zi 1, zi 0, zr 71], m) _ (And.intro (And.intro (z_ixL rfl) (And.intro (z_leL rfl) (z_leL rfl))) (o1)))
theorem zb102_0 (hT : zRules T) {D : Nat} {κ : Option zA → zM → Prop} {m : zM}  (hB : zB m) 
    (k1 : zB (zu m 71 0 1) → T (D + 4) 102 (11, [(0, zr 64), (1, zi 0), (2, zi 1)], [], (zu m 71 0 1)) κ) :
    T (D + 4) 102 (0, [(0, zr 64)], [], m) κ := by
  exact zb102_0r hT
    (k1  (zB_u hB (show 0 ≤ 1 ∧ 1 ≤ 1 from ⟨by omega, by omega⟩)))
theorem zb102_11r (hT : zRules T) {D : Nat} {κ : Option zA → zM → Prop} {m : zM} {b : Nat} {x : Nat} {lo : zL} (hlo : z_keep [0, 1, 2] lo = [(0, zr 64), (1, zi (b : Int)), (2, zi (x : Int))]) 
    (o1 : ¬ wr (x : Int) < wr (z_shl 1 (m 64 2)) → κ (some (zi (wr (b : Int)))) m)
    (o2 : wr (x : Int) < wr (z_shl 1 (m 64 2)) → T (D + 3) 103 (0, [(0, zr 64), (1, zi (x : Int))], [], m) (fun r m1 => T (D + 4) 102 (31, [(0, zr 64), (1, zi (b : Int)), (2, zi (x : Int))], r.toList ++ [zi (x : Int), zr 71], m1) κ)) :
    T (D + 4) 102 (11, lo, [], m) κ :=
  zkeep hT hlo (hT.1 [(11, [0, 1, 2])] 6 (D + 4) 102 _ κ (And.intro (fun a1 => (hT.1 [(11, [0, 1, 2])] 6 (D + 4) 102 (60, [(0, zr 64), (1, zi (b : Int)), (2, zi (x : Int))], [], m) _ (o1 a1))) (fun a2 => (hT.1 [(11, [0, 1, 2])] 6 (D + 4) 102 (21, [(0, zr 64), (1, zi (b : Int)), (2, zi (x : Int))], [], m) _ (o2 (Classical.byContradiction a2))))))
theorem zb102_11 (hT : zRules T) {D : Nat} {κ : Option zA → zM → Prop} {m : zM} {b : Nat} {x : Nat} {lo : zL} (hlo : z_keep [0, 1, 2] lo = [(0, zr 64), (1, zi (b : Int)), (2, zi (x : Int))])  (hB : zB m) (h_b : b ≤ 127) (h_x : x ≤ 128) 
    (k1 : ¬ (x : Int) < (z_shl 1 (m 64 2)) → κ (some (zi (b : Int))) m)
    (k2 : (x : Int) < (z_shl 1 (m 64 2)) → T (D + 3) 103 (0, [(0, zr 64), (1, zi (x : Int))], [], m) (fun r m1 => T (D + 4) 102 (31, [(0, zr 64), (1, zi (b : Int)), (2, zi (x : Int))], r.toList ++ [zi (x : Int), zr 71], m1) κ)) :
    T (D + 4) 102 (11, lo, [], m) κ := by
  have hb2 : 0 ≤ (m 64 2) ∧ (m 64 2) ≤ 7 := hB 64 2
  have hb3 : (-2147483648) ≤ (z_shl 1 (m 64 2)) ∧ (z_shl 1 (m 64 2)) ≤ 2147483647 := z_shlB 1 (m 64 2)
  have he0 : wr (x : Int) = (x : Int) := wr_id (by omega) (by omega)
  have he1 : wr (z_shl 1 (m 64 2)) = (z_shl 1 (m 64 2)) := wr_id (by omega) (by omega)
  have he2 : wr (b : Int) = (b : Int) := wr_id (by omega) (by omega)
  have key := @zb102_11r T hT D κ m b x lo hlo
  simp only [he0, he1, he2, Int.toNat_natCast] at key
  exact key
    k1
    k2
theorem zb102_31r (hT : zRules T) {D : Nat} {κ : Option zA → zM → Prop} {m : zM} {b : Nat} {x : Nat} {v : Int} {lo : zL} (hlo : z_keep [0, 1, 2] lo = [(0, zr 64), (1, zi (b : Int)), (2, zi (x : Int))]) 
    (o1 : (0 ≤ wr (x : Int) ∧ wr (x : Int) < 128))
    (o2 : (0 ≤ wr v ∧ wr v ≤ 1))
    (o3 : (0 ≤ wr (x : Int) ∧ wr (x : Int) < 128))
    (o4 : wr ((zu m 71 ((wr (x : Int)).toNat) v) 71 ((wr (x : Int)).toNat)) = 0 → T (D + 4) 102 (11, [(0, zr 64), (1, zi (b : Int)), (2, zi ((x : Int) + 1))], [], (zu m 71 ((wr (x : Int)).toNat) v)) κ)
    (o5 : ¬ wr ((zu m 71 ((wr (x : Int)).toNat) v) 71 ((wr (x : Int)).toNat)) = 0 → T (D + 3) 293 (0, [(0, zi (x : Int))], [], (zu m 71 ((wr (x : Int)).toNat) v)) (fun r m1 => T (D + 4) 102 (45, [(0, zr 64), (1, zi (b : Int)), (2, zi (x : Int))], r.toList ++ [], m1) κ)) :
    T (D + 4) 102 (31, lo, [zi v, zi (x : Int), zr 71], m) κ :=
  zkeep hT hlo (hT.1 [(11, [0, 1, 2])] 6 (D + 4) 102 _ κ (And.intro (And.intro (o1) (o2)) (And.intro (o3) (And.intro (fun a1 => (hT.1 [(11, [0, 1, 2])] 6 (D + 4) 102 (54, [(0, zr 64), (1, zi (b : Int)), (2, zi (x : Int))], [], (zu m 71 ((wr (x : Int)).toNat) v)) _ (o4 a1))) (fun a2 => (hT.1 [(11, [0, 1, 2])] 6 (D + 4) 102 (41, [(0, zr 64), (1, zi (b : Int)), (2, zi (x : Int))], [], (zu m 71 ((wr (x : Int)).toNat) v)) _ (o5 a2)))))))
theorem zb102_31 (hT : zRules T) {D : Nat} {κ : Option zA → zM → Prop} {m : zM} {b : Nat} {x : Nat} {v : Int} {lo : zL} (hlo : z_keep [0, 1, 2] lo = [(0, zr 64), (1, zi (b : Int)), (2, zi (x : Int))])  (hB : zB m) (h_b : b ≤ 127) (h_x : x ≤ 127) (h_v : 0 ≤ v ∧ v ≤ 1) 
    (k1 : v = 0 → zB (zu m 71 x v) → T (D + 4) 102 (11, [(0, zr 64), (1, zi (b : Int)), (2, zi ((x : Int) + 1))], [], (zu m 71 x v)) κ)
    (k2 : ¬ v = 0 → zB (zu m 71 x v) → T (D + 3) 293 (0, [(0, zi (x : Int))], [], (zu m 71 x v)) (fun r m1 => T (D + 4) 102 (45, [(0, zr 64), (1, zi (b : Int)), (2, zi (x : Int))], r.toList ++ [], m1) κ)) :
    T (D + 4) 102 (31, lo, [zi v, zi (x : Int), zr 71], m) κ := by
  have he0 : wr (x : Int) = (x : Int) := wr_id (by omega) (by omega)
  have he1 : (x : Int).toNat = x := by omega
  have he2 : ((zu m 71 x v) 71 x) = v := (zu_sm (by omega))
  have he3 : wr v = v := wr_id (by omega) (by omega)
  have key := @zb102_31r T hT D κ m b x v lo hlo
  simp only [he0, he1, he2, he3, Int.toNat_natCast] at key
  exact key
    (by refine ⟨?_, ?_⟩ <;> omega)
    (by refine ⟨?_, ?_⟩ <;> omega)
    (by refine ⟨?_, ?_⟩ <;> omega)
    (fun x0 => k1 x0 (zB_u hB (show 0 ≤ v ∧ v ≤ 1 from ⟨by omega, by omega⟩)))
    (fun x0 => k2 x0 (zB_u hB (show 0 ≤ v ∧ v ≤ 1 from ⟨by omega, by omega⟩)))
theorem zb102_45r (hT : zRules T) {D : Nat} {κ : Option zA → zM → Prop} {m : zM} {b : Nat} {x : Nat} {v : Int} {lo : zL} (hlo : z_keep [0, 1, 2] lo = [(0, zr 64), (1, zi (b : Int)), (2, zi (x : Int))]) 
    (o1 : T (D + 3) 293 (0, [(0, zi (b : Int))], [], m) (fun r m1 => T (D + 4) 102 (49, [(0, zr 64), (1, zi (b : Int)), (2, zi (x : Int))], r.toList ++ [zi v], m1) κ)) :
    T (D + 4) 102 (45, lo, [zi v], m) κ :=
  zkeep hT hlo (hT.1 [(11, [0, 1, 2])] 6 (D + 4) 102 _ κ (o1))
theorem zb102_45 (hT : zRules T) {D : Nat} {κ : Option zA → zM → Prop} {m : zM} {b : Nat} {x : Nat} {v : Int} {lo : zL} (hlo : z_keep [0, 1, 2] lo = [(0, zr 64), (1, zi (b : Int)), (2, zi (x : Int))])  (hB : zB m) (h_b : b ≤ 127) (h_x : x ≤ 127) (h_v : (-2147483648) ≤ v ∧ v ≤ 2147483647) 
    (k1 : T (D + 3) 293 (0, [(0, zi (b : Int))], [], m) (fun r m1 => T (D + 4) 102 (49, [(0, zr 64), (1, zi (b : Int)), (2, zi (x : Int))], r.toList ++ [zi v], m1) κ)) :
    T (D + 4) 102 (45, lo, [zi v], m) κ := by
  exact zb102_45r hT hlo
    k1
theorem zb102_49r (hT : zRules T) {D : Nat} {κ : Option zA → zM → Prop} {m : zM} {b : Nat} {x : Nat} {v : Int} {y : Int} {lo : zL} (hlo : z_keep [0, 1, 2] lo = [(0, zr 64), (1, zi (b : Int)), (2, zi (x : Int))]) 
    (o1 : ¬ wr y < wr v → T (D + 4) 102 (11, [(0, zr 64), (1, zi (b : Int)), (2, zi ((x : Int) + 1))], [], m) κ)
    (o2 : wr y < wr v → T (D + 4) 102 (11, [(0, zr 64), (1, zi (x : Int)), (2, zi ((x : Int) + 1))], [], m) κ) :
    T (D + 4) 102 (49, lo, [zi y, zi v], m) κ :=
  zkeep hT hlo (hT.1 [(11, [0, 1, 2])] 6 (D + 4) 102 _ κ (And.intro (fun a1 => (o1 a1)) (fun a2 => (o2 (Classical.byContradiction a2)))))
theorem zb102_49 (hT : zRules T) {D : Nat} {κ : Option zA → zM → Prop} {m : zM} {b : Nat} {x : Nat} {v : Int} {y : Int} {lo : zL} (hlo : z_keep [0, 1, 2] lo = [(0, zr 64), (1, zi (b : Int)), (2, zi (x : Int))])  (hB : zB m) (h_b : b ≤ 127) (h_x : x ≤ 127) (h_v : (-2147483648) ≤ v ∧ v ≤ 2147483647) (h_y : (-2147483648) ≤ y ∧ y ≤ 2147483647) 
    (k1 : ¬ y < v → T (D + 4) 102 (11, [(0, zr 64), (1, zi (b : Int)), (2, zi ((x : Int) + 1))], [], m) κ)
    (k2 : y < v → T (D + 4) 102 (11, [(0, zr 64), (1, zi (x : Int)), (2, zi ((x : Int) + 1))], [], m) κ) :
    T (D + 4) 102 (49, lo, [zi y, zi v], m) κ := by
  have he0 : wr y = y := wr_id (by omega) (by omega)
  have he1 : wr v = v := wr_id (by omega) (by omega)
  have key := @zb102_49r T hT D κ m b x v y lo hlo
  simp only [he0, he1, Int.toNat_natCast] at key
  exact key
    k1
    k2
theorem zb103_0r (hT : zRules T) {D : Nat} {κ : Option zA → zM → Prop} {m : zM} {x : Nat} 
    (o1 : T (D + 2) 98 (0, [(0, zr 64), (1, zi (x : Int))], [], m) (fun r m1 => T (D + 3) 103 (5, [(0, zr 64), (1, zi (x : Int))], r.toList ++ [], m1) κ)) :
    T (D + 3) 103 (0, [(0, zr 64), (1, zi (x : Int))], [], m) κ :=
  hT.1 [(8, [0, 1, 2, 3])] 6 (D + 3) 103 _ κ (o1)
theorem zb103_0 (hT : zRules T) {D : Nat} {κ : Option zA → zM → Prop} {m : zM} {x : Nat}  (hB : zB m) (h_x : x ≤ 127) 
    (k1 : T (D + 2) 98 (0, [(0, zr 64), (1, zi (x : Int))], [], m) (fun r m1 => T (D + 3) 103 (5, [(0, zr 64), (1, zi (x : Int))], r.toList ++ [], m1) κ)) :
    T (D + 3) 103 (0, [(0, zr 64), (1, zi (x : Int))], [], m) κ := by
  exact zb103_0r hT
    k1
theorem zb103_5r (hT : zRules T) {D : Nat} {κ : Option zA → zM → Prop} {m : zM} {x : Nat} {h : Int} {lo : zL} (hlo : z_keep [0, 1] lo = [(0, zr 64), (1, zi (x : Int))]) 
    (o1 : T (D + 3) 103 (8, [(0, zr 64), (1, zi (x : Int)), (2, zi h), (3, zi 0)], [], m) κ) :
    T (D + 3) 103 (5, lo, [zi h], m) κ :=
  zkeep hT hlo (hT.1 [(8, [0, 1, 2, 3])] 6 (D + 3) 103 _ κ (o1))
theorem zb103_5 (hT : zRules T) {D : Nat} {κ : Option zA → zM → Prop} {m : zM} {x : Nat} {h : Int} {lo : zL} (hlo : z_keep [0, 1] lo = [(0, zr 64), (1, zi (x : Int))])  (hB : zB m) (h_x : x ≤ 127) (h_h : 0 ≤ h ∧ h ≤ 1000) 
    (k1 : T (D + 3) 103 (8, [(0, zr 64), (1, zi (x : Int)), (2, zi h), (3, zi 0)], [], m) κ) :
    T (D + 3) 103 (5, lo, [zi h], m) κ := by
  exact zb103_5r hT hlo
    k1
theorem zb103_8r (hT : zRules T) {D : Nat} {κ : Option zA → zM → Prop} {m : zM} {x : Nat} {h : Int} {i : Nat} {lo : zL} (hlo : z_keep [0, 1, 2, 3] lo = [(0, zr 64), (1, zi (x : Int)), (2, zi h), (3, zi (i : Int))]) 
    (o1 : ¬ wr (i : Int) < wr (m 64 2) → κ (some (zi 0)) m)
    (o2 : wr (i : Int) < wr (m 64 2) → ¬ wr (z_and (z_shr (x : Int) (i : Int)) 1) = 1 → T (D + 3) 103 (8, [(0, zr 64), (1, zi (x : Int)), (2, zi h), (3, zi ((i : Int) + 1))], [], m) κ)
    (o3 : wr (i : Int) < wr (m 64 2) → wr (z_and (z_shr (x : Int) (i : Int)) 1) = 1 → (0 ≤ wr (i : Int) ∧ wr (i : Int) < 7))
    (o4 : wr (i : Int) < wr (m 64 2) → wr (z_and (z_shr (x : Int) (i : Int)) 1) = 1 → wr (m 66 ((wr (i : Int)).toNat)) < wr h → T (D + 3) 103 (8, [(0, zr 64), (1, zi (x : Int)), (2, zi h), (3, zi ((i : Int) + 1))], [], m) κ)
    (o5 : wr (i : Int) < wr (m 64 2) → wr (z_and (z_shr (x : Int) (i : Int)) 1) = 1 → ¬ wr (m 66 ((wr (i : Int)).toNat)) < wr h → (0 ≤ wr (z_and (x : Int) (z_xor (z_shl 1 (i : Int)) (-1))) ∧ wr (z_and (x : Int) (z_xor (z_shl 1 (i : Int)) (-1))) < 128))
    (o6 : wr (i : Int) < wr (m 64 2) → wr (z_and (z_shr (x : Int) (i : Int)) 1) = 1 → ¬ wr (m 66 ((wr (i : Int)).toNat)) < wr h → wr (m 71 ((wr (z_and (x : Int) (z_xor (z_shl 1 (i : Int)) (-1)))).toNat)) = 0 → T (D + 3) 103 (8, [(0, zr 64), (1, zi (x : Int)), (2, zi h), (3, zi ((i : Int) + 1))], [], m) κ)
    (o7 : wr (i : Int) < wr (m 64 2) → wr (z_and (z_shr (x : Int) (i : Int)) 1) = 1 → ¬ wr (m 66 ((wr (i : Int)).toNat)) < wr h → ¬ wr (m 71 ((wr (z_and (x : Int) (z_xor (z_shl 1 (i : Int)) (-1)))).toNat)) = 0 → κ (some (zi 1)) m) :
    T (D + 3) 103 (8, lo, [], m) κ :=
  zkeep hT hlo (hT.1 [(8, [0, 1, 2, 3])] 6 (D + 3) 103 _ κ (And.intro (fun a1 => (And.intro (z_b01L rfl) (o1 a1))) (fun a2 => (hT.1 [(8, [0, 1, 2, 3])] 6 (D + 3) 103 (18, [(0, zr 64), (1, zi (x : Int)), (2, zi h), (3, zi (i : Int))], [zi (i : Int), zi (x : Int)], m) _ (And.intro (fun a3 => (hT.1 [(8, [0, 1, 2, 3])] 6 (D + 3) 103 (55, [(0, zr 64), (1, zi (x : Int)), (2, zi h), (3, zi ((i : Int) + 1))], [], m) _ (o2 (Classical.byContradiction a2) a3))) (fun a4 => (hT.1 [(8, [0, 1, 2, 3])] 6 (D + 3) 103 (26, [(0, zr 64), (1, zi (x : Int)), (2, zi h), (3, zi (i : Int))], [zi h], m) _ (And.intro (o3 (Classical.byContradiction a2) (Classical.byContradiction a4)) (And.intro (fun a5 => (hT.1 [(8, [0, 1, 2, 3])] 6 (D + 3) 103 (55, [(0, zr 64), (1, zi (x : Int)), (2, zi h), (3, zi ((i : Int) + 1))], [], m) _ (o4 (Classical.byContradiction a2) (Classical.byContradiction a4) a5))) (fun a6 => (hT.1 [(8, [0, 1, 2, 3])] 6 (D + 3) 103 (36, [(0, zr 64), (1, zi (x : Int)), (2, zi h), (3, zi (i : Int))], [zr 64], m) _ (hT.1 [(8, [0, 1, 2, 3])] 6 (D + 3) 103 (44, [(0, zr 64), (1, zi (x : Int)), (2, zi h), (3, zi (i : Int))], [zi (-1), zi (z_shl 1 (i : Int)), zi (x : Int), zr 71], m) _ (And.intro (o5 (Classical.byContradiction a2) (Classical.byContradiction a4) a6) (And.intro (fun a7 => (o6 (Classical.byContradiction a2) (Classical.byContradiction a4) a6 a7)) (fun a8 => (And.intro (z_b01L rfl) (o7 (Classical.byContradiction a2) (Classical.byContradiction a4) a6 a8)))))))))))))))))
theorem zb103_8 (hT : zRules T) {D : Nat} {κ : Option zA → zM → Prop} {m : zM} {x : Nat} {h : Int} {i : Nat} {lo : zL} (hlo : z_keep [0, 1, 2, 3] lo = [(0, zr 64), (1, zi (x : Int)), (2, zi h), (3, zi (i : Int))])  (hB : zB m) (h_x : x ≤ 127) (h_h : 0 ≤ h ∧ h ≤ 1000) (h_i : i ≤ 7) 
    (k1 : ¬ (i : Int) < (m 64 2) → κ (some (zi 0)) m)
    (k2 : (i : Int) < (m 64 2) → ¬ (z_and (z_shr (x : Int) (i : Int)) 1) = 1 → T (D + 3) 103 (8, [(0, zr 64), (1, zi (x : Int)), (2, zi h), (3, zi ((i : Int) + 1))], [], m) κ)
    (k3 : (i : Int) < (m 64 2) → (z_and (z_shr (x : Int) (i : Int)) 1) = 1 → (m 66 i) < h → T (D + 3) 103 (8, [(0, zr 64), (1, zi (x : Int)), (2, zi h), (3, zi ((i : Int) + 1))], [], m) κ)
    (k4 : (i : Int) < (m 64 2) → (z_and (z_shr (x : Int) (i : Int)) 1) = 1 → ¬ (m 66 i) < h → (0 ≤ (z_and (x : Int) (z_xor (z_shl 1 (i : Int)) (-1))) ∧ (z_and (x : Int) (z_xor (z_shl 1 (i : Int)) (-1))) < 128))
    (k5 : (i : Int) < (m 64 2) → (z_and (z_shr (x : Int) (i : Int)) 1) = 1 → ¬ (m 66 i) < h → (m 71 ((z_and (x : Int) (z_xor (z_shl 1 (i : Int)) (-1))).toNat)) = 0 → T (D + 3) 103 (8, [(0, zr 64), (1, zi (x : Int)), (2, zi h), (3, zi ((i : Int) + 1))], [], m) κ)
    (k6 : (i : Int) < (m 64 2) → (z_and (z_shr (x : Int) (i : Int)) 1) = 1 → ¬ (m 66 i) < h → ¬ (m 71 ((z_and (x : Int) (z_xor (z_shl 1 (i : Int)) (-1))).toNat)) = 0 → κ (some (zi 1)) m) :
    T (D + 3) 103 (8, lo, [], m) κ := by
  have hb3 : 0 ≤ (m 64 2) ∧ (m 64 2) ≤ 7 := hB 64 2
  have hb4 : (-2147483648) ≤ (z_shr (x : Int) (i : Int)) ∧ (z_shr (x : Int) (i : Int)) ≤ 2147483647 := z_shrB (x : Int) (i : Int)
  have hb5 : 0 ≤ (z_and (z_shr (x : Int) (i : Int)) 1) ∧ (z_and (z_shr (x : Int) (i : Int)) 1) ≤ 1 := z_andC (z_shr (x : Int) (i : Int)) 1 (by decide)
  have hb6 : 0 ≤ (m 66 i) ∧ (m 66 i) ≤ 99 := hB 66 i
  have hb7 : (-2147483648) ≤ (z_shl 1 (i : Int)) ∧ (z_shl 1 (i : Int)) ≤ 2147483647 := z_shlB 1 (i : Int)
  have hb8 : (-2147483648) ≤ (z_xor (z_shl 1 (i : Int)) (-1)) ∧ (z_xor (z_shl 1 (i : Int)) (-1)) ≤ 2147483647 := z_xorB (z_shl 1 (i : Int)) (-1)
  have hb9 : (-2147483648) ≤ (z_and (x : Int) (z_xor (z_shl 1 (i : Int)) (-1))) ∧ (z_and (x : Int) (z_xor (z_shl 1 (i : Int)) (-1))) ≤ 2147483647 := z_andB (x : Int) (z_xor (z_shl 1 (i : Int)) (-1))
  have hb10 : 0 ≤ (m 71 ((z_and (x : Int) (z_xor (z_shl 1 (i : Int)) (-1))).toNat)) ∧ (m 71 ((z_and (x : Int) (z_xor (z_shl 1 (i : Int)) (-1))).toNat)) ≤ 1 := hB 71 ((z_and (x : Int) (z_xor (z_shl 1 (i : Int)) (-1))).toNat)
  have he0 : wr (i : Int) = (i : Int) := wr_id (by omega) (by omega)
  have he1 : wr (m 64 2) = (m 64 2) := wr_id (by omega) (by omega)
  have he2 : wr (z_and (z_shr (x : Int) (i : Int)) 1) = (z_and (z_shr (x : Int) (i : Int)) 1) := wr_id (by omega) (by omega)
  have he3 : (i : Int).toNat = i := by omega
  have he4 : wr (m 66 i) = (m 66 i) := wr_id (by omega) (by omega)
  have he5 : wr h = h := wr_id (by omega) (by omega)
  have he6 : wr (z_and (x : Int) (z_xor (z_shl 1 (i : Int)) (-1))) = (z_and (x : Int) (z_xor (z_shl 1 (i : Int)) (-1))) := wr_id (by omega) (by omega)
  have he7 : wr (m 71 ((z_and (x : Int) (z_xor (z_shl 1 (i : Int)) (-1))).toNat)) = (m 71 ((z_and (x : Int) (z_xor (z_shl 1 (i : Int)) (-1))).toNat)) := wr_id (by omega) (by omega)
  have key := @zb103_8r T hT D κ m x h i lo hlo
  simp only [he0, he1, he2, he3, he4, he5, he6, he7, Int.toNat_natCast] at key
  exact key
    k1
    k2
    (fun x0 x1 => by refine ⟨?_, ?_⟩ <;> omega)
    k3
    k4
    k5
    k6
theorem zb98_0r (hT : zRules T) {D : Nat} {κ : Option zA → zM → Prop} {m : zM} {x : Nat} 
    (o1 : T (D + 2) 98 (4, [(0, zr 64), (1, zi (x : Int)), (2, zi 0), (3, zi 0)], [], m) κ) :
    T (D + 2) 98 (0, [(0, zr 64), (1, zi (x : Int))], [], m) κ :=
  hT.1 [(4, [0, 1, 2, 3])] 6 (D + 2) 98 _ κ (o1)
theorem zb98_0 (hT : zRules T) {D : Nat} {κ : Option zA → zM → Prop} {m : zM} {x : Nat}  (hB : zB m) (h_x : x ≤ 127) 
    (k1 : T (D + 2) 98 (4, [(0, zr 64), (1, zi (x : Int)), (2, zi 0), (3, zi 0)], [], m) κ) :
    T (D + 2) 98 (0, [(0, zr 64), (1, zi (x : Int))], [], m) κ := by
  exact zb98_0r hT
    k1
theorem zb98_4r (hT : zRules T) {D : Nat} {κ : Option zA → zM → Prop} {m : zM} {x : Nat} {h : Int} {i : Nat} {lo : zL} (hlo : z_keep [0, 1, 2, 3] lo = [(0, zr 64), (1, zi (x : Int)), (2, zi h), (3, zi (i : Int))]) 
    (o1 : ¬ wr (i : Int) < wr (m 64 2) → κ (some (zi (wr h))) m)
    (o2 : wr (i : Int) < wr (m 64 2) → (0 ≤ wr (i : Int) ∧ wr (i : Int) < 7))
    (o3 : wr (i : Int) < wr (m 64 2) → T (D + 2) 98 (4, [(0, zr 64), (1, zi (x : Int)), (2, zi (h + ((z_and (z_shr (x : Int) (i : Int)) 1) * (m 65 ((wr (i : Int)).toNat))))), (3, zi ((i : Int) + 1))], [], m) κ) :
    T (D + 2) 98 (4, lo, [], m) κ :=
  zkeep hT hlo (hT.1 [(4, [0, 1, 2, 3])] 6 (D + 2) 98 _ κ (And.intro (fun a1 => (o1 a1)) (fun a2 => (hT.1 [(4, [0, 1, 2, 3])] 6 (D + 2) 98 (14, [(0, zr 64), (1, zi (x : Int)), (2, zi h), (3, zi (i : Int))], [zi (x : Int), zi h], m) _ (hT.1 [(4, [0, 1, 2, 3])] 6 (D + 2) 98 (22, [(0, zr 64), (1, zi (x : Int)), (2, zi h), (3, zi (i : Int))], [zr 65, zi (z_and (z_shr (x : Int) (i : Int)) 1), zi h], m) _ (And.intro (o2 (Classical.byContradiction a2)) (hT.1 [(4, [0, 1, 2, 3])] 6 (D + 2) 98 (30, [(0, zr 64), (1, zi (x : Int)), (2, zi (h + ((z_and (z_shr (x : Int) (i : Int)) 1) * (m 65 ((wr (i : Int)).toNat))))), (3, zi ((i : Int) + 1))], [], m) _ (o3 (Classical.byContradiction a2)))))))))
theorem zb98_4 (hT : zRules T) {D : Nat} {κ : Option zA → zM → Prop} {m : zM} {x : Nat} {h : Int} {i : Nat} {lo : zL} (hlo : z_keep [0, 1, 2, 3] lo = [(0, zr 64), (1, zi (x : Int)), (2, zi h), (3, zi (i : Int))])  (hB : zB m) (h_x : x ≤ 127) (h_h : 0 ≤ h ∧ h ≤ 140) (h_i : i ≤ 7) 
    (k1 : ¬ (i : Int) < (m 64 2) → κ (some (zi h)) m)
    (k2 : (i : Int) < (m 64 2) → T (D + 2) 98 (4, [(0, zr 64), (1, zi (x : Int)), (2, zi (h + ((z_and (z_shr (x : Int) (i : Int)) 1) * (m 65 i)))), (3, zi ((i : Int) + 1))], [], m) κ) :
    T (D + 2) 98 (4, lo, [], m) κ := by
  have hb3 : 0 ≤ (m 64 2) ∧ (m 64 2) ≤ 7 := hB 64 2
  have hb4 : (-2147483648) ≤ (z_shr (x : Int) (i : Int)) ∧ (z_shr (x : Int) (i : Int)) ≤ 2147483647 := z_shrB (x : Int) (i : Int)
  have hb5 : 0 ≤ (z_and (z_shr (x : Int) (i : Int)) 1) ∧ (z_and (z_shr (x : Int) (i : Int)) 1) ≤ 1 := z_andC (z_shr (x : Int) (i : Int)) 1 (by decide)
  have hb6 : 0 ≤ (m 65 i) ∧ (m 65 i) ≤ 20 := hB 65 i
  have hb7 : 0 ≤ ((z_and (z_shr (x : Int) (i : Int)) 1) * (m 65 i)) ∧ ((z_and (z_shr (x : Int) (i : Int)) 1) * (m 65 i)) ≤ 20 := z_mulB (z_and (z_shr (x : Int) (i : Int)) 1) (m 65 i) 1 20 20 (by omega) (by omega) (by omega) (by omega) rfl
  have he0 : wr (i : Int) = (i : Int) := wr_id (by omega) (by omega)
  have he1 : wr (m 64 2) = (m 64 2) := wr_id (by omega) (by omega)
  have he2 : (i : Int).toNat = i := by omega
  have he3 : wr h = h := wr_id (by omega) (by omega)
  have key := @zb98_4r T hT D κ m x h i lo hlo
  simp only [he0, he1, he2, he3, Int.toNat_natCast] at key
  exact key
    k1
    (fun x0 => by refine ⟨?_, ?_⟩ <;> omega)
    k2
theorem zb283_0r (hT : zRules T) {D : Nat} {κ : Option zA → zM → Prop} {m : zM} 
    (o1 : T (D + 3) 283 (9, [(0, zr 74), (1, zi 0), (2, zi 1)], [], (zu m 74 12 0)) κ) :
    T (D + 3) 283 (0, [(0, zr 74)], [], m) κ :=
  hT.1 [(9, [0, 1, 2])] 6 (D + 3) 283 _ κ (And.intro trivial (hT.1 [(9, [0, 1, 2])] 6 (D + 3) 283 (8, [(0, zr 74), (1, zi 0)], [zi 1], (zu m 74 12 0)) _ (o1)))
theorem zb283_0 (hT : zRules T) {D : Nat} {κ : Option zA → zM → Prop} {m : zM}  (hB : zB m) 
    (k1 : zB (zu m 74 12 0) → T (D + 3) 283 (9, [(0, zr 74), (1, zi 0), (2, zi 1)], [], (zu m 74 12 0)) κ) :
    T (D + 3) 283 (0, [(0, zr 74)], [], m) κ := by
  exact zb283_0r hT
    (k1  (zB_u hB trivial))
theorem zb283_9r (hT : zRules T) {D : Nat} {κ : Option zA → zM → Prop} {m : zM} {b : Nat} {x : Nat} {lo : zL} (hlo : z_keep [0, 1, 2] lo = [(0, zr 74), (1, zi (b : Int)), (2, zi (x : Int))]) 
    (o1 : ¬ wr (x : Int) < wr (z_shl 1 (m 74 54)) → T (D + 2) 293 (0, [(0, zi (b : Int))], [], (zu (zu (zu m 74 11 0) 81 0 (b : Int)) 74 11 1)) (fun r m1 => T (D + 3) 283 (60, [(0, zr 74), (1, zi (b : Int)), (2, zi (x : Int))], r.toList ++ [], m1) κ))
    (o2 : wr (x : Int) < wr (z_shl 1 (m 74 54)) → T (D + 2) 293 (0, [(0, zi (x : Int))], [], m) (fun r m1 => T (D + 3) 283 (23, [(0, zr 74), (1, zi (b : Int)), (2, zi (x : Int))], r.toList ++ [], m1) κ)) :
    T (D + 3) 283 (9, lo, [], m) κ :=
  zkeep hT hlo (hT.1 [(9, [0, 1, 2])] 6 (D + 3) 283 _ κ (And.intro (fun a1 => (hT.1 [(9, [0, 1, 2])] 6 (D + 3) 283 (46, [(0, zr 74), (1, zi (b : Int)), (2, zi (x : Int))], [], m) _ (And.intro trivial (hT.1 [] 6 (D + 2) 189 _ _ (And.intro (And.intro (z_ixL rfl) trivial) (hT.1 [] 6 (D + 2) 189 (10, [(0, zr 74), (1, zi (b : Int))], [], (zu (zu m 74 11 0) 81 0 (b : Int))) _ (And.intro trivial (hT.1 [] 6 (D + 2) 189 (20, [(0, zr 74), (1, zi (b : Int))], [], (zu (zu (zu m 74 11 0) 81 0 (b : Int)) 74 11 1)) _ (hT.1 [(9, [0, 1, 2])] 6 (D + 3) 283 _ _ (o1 a1)))))))))) (fun a2 => (hT.1 [(9, [0, 1, 2])] 6 (D + 3) 283 (19, [(0, zr 74), (1, zi (b : Int)), (2, zi (x : Int))], [], m) _ (o2 (Classical.byContradiction a2))))))
theorem zb283_9 (hT : zRules T) {D : Nat} {κ : Option zA → zM → Prop} {m : zM} {b : Nat} {x : Nat} {lo : zL} (hlo : z_keep [0, 1, 2] lo = [(0, zr 74), (1, zi (b : Int)), (2, zi (x : Int))])  (hB : zB m) (h_b : b ≤ 127) (h_x : x ≤ 128) 
    (k1 : ¬ (x : Int) < (z_shl 1 (m 74 54)) → zB (zu (zu (zu m 74 11 0) 81 0 (b : Int)) 74 11 1) → T (D + 2) 293 (0, [(0, zi (b : Int))], [], (zu (zu (zu m 74 11 0) 81 0 (b : Int)) 74 11 1)) (fun r m1 => T (D + 3) 283 (60, [(0, zr 74), (1, zi (b : Int)), (2, zi (x : Int))], r.toList ++ [], m1) κ))
    (k2 : (x : Int) < (z_shl 1 (m 74 54)) → T (D + 2) 293 (0, [(0, zi (x : Int))], [], m) (fun r m1 => T (D + 3) 283 (23, [(0, zr 74), (1, zi (b : Int)), (2, zi (x : Int))], r.toList ++ [], m1) κ)) :
    T (D + 3) 283 (9, lo, [], m) κ := by
  have hb2 : 0 ≤ (m 74 54) ∧ (m 74 54) ≤ 7 := hB 74 54
  have hb3 : (-2147483648) ≤ (z_shl 1 (m 74 54)) ∧ (z_shl 1 (m 74 54)) ≤ 2147483647 := z_shlB 1 (m 74 54)
  have he0 : wr (x : Int) = (x : Int) := wr_id (by omega) (by omega)
  have he1 : wr (z_shl 1 (m 74 54)) = (z_shl 1 (m 74 54)) := wr_id (by omega) (by omega)
  have key := @zb283_9r T hT D κ m b x lo hlo
  simp only [he0, he1, Int.toNat_natCast] at key
  exact key
    (fun x0 => k1 x0 (zB_u (zB_u (zB_u hB (show 0 ≤ 0 ∧ 0 ≤ 32 from ⟨by omega, by omega⟩)) trivial) (show 0 ≤ 1 ∧ 1 ≤ 32 from ⟨by omega, by omega⟩)))
    k2
theorem zb283_23r (hT : zRules T) {D : Nat} {κ : Option zA → zM → Prop} {m : zM} {b : Nat} {x : Nat} {v : Int} {lo : zL} (hlo : z_keep [0, 1, 2] lo = [(0, zr 74), (1, zi (b : Int)), (2, zi (x : Int))]) 
    (o1 : T (D + 2) 293 (0, [(0, zi (b : Int))], [], m) (fun r m1 => T (D + 3) 283 (27, [(0, zr 74), (1, zi (b : Int)), (2, zi (x : Int))], r.toList ++ [zi v], m1) κ)) :
    T (D + 3) 283 (23, lo, [zi v], m) κ :=
  zkeep hT hlo (hT.1 [(9, [0, 1, 2])] 6 (D + 3) 283 _ κ (o1))
theorem zb283_23 (hT : zRules T) {D : Nat} {κ : Option zA → zM → Prop} {m : zM} {b : Nat} {x : Nat} {v : Int} {lo : zL} (hlo : z_keep [0, 1, 2] lo = [(0, zr 74), (1, zi (b : Int)), (2, zi (x : Int))])  (hB : zB m) (h_b : b ≤ 127) (h_x : x ≤ 127) (h_v : (-2147483648) ≤ v ∧ v ≤ 2147483647) 
    (k1 : T (D + 2) 293 (0, [(0, zi (b : Int))], [], m) (fun r m1 => T (D + 3) 283 (27, [(0, zr 74), (1, zi (b : Int)), (2, zi (x : Int))], r.toList ++ [zi v], m1) κ)) :
    T (D + 3) 283 (23, lo, [zi v], m) κ := by
  exact zb283_23r hT hlo
    k1
theorem zb283_27r (hT : zRules T) {D : Nat} {κ : Option zA → zM → Prop} {m : zM} {b : Nat} {x : Nat} {v : Int} {y : Int} {lo : zL} (hlo : z_keep [0, 1, 2] lo = [(0, zr 74), (1, zi (b : Int)), (2, zi (x : Int))]) 
    (o1 : ¬ wr y < wr v → T (D + 3) 283 (9, [(0, zr 74), (1, zi (b : Int)), (2, zi ((x : Int) + 1))], [], m) κ)
    (o2 : wr y < wr v → T (D + 2) 282 (0, [(0, zr 74), (1, zi (x : Int))], [], m) (fun r m1 => T (D + 3) 283 (35, [(0, zr 74), (1, zi (b : Int)), (2, zi (x : Int))], r.toList ++ [], m1) κ)) :
    T (D + 3) 283 (27, lo, [zi y, zi v], m) κ :=
  zkeep hT hlo (hT.1 [(9, [0, 1, 2])] 6 (D + 3) 283 _ κ (And.intro (fun a1 => (o1 a1)) (fun a2 => (o2 (Classical.byContradiction a2)))))
theorem zb283_27 (hT : zRules T) {D : Nat} {κ : Option zA → zM → Prop} {m : zM} {b : Nat} {x : Nat} {v : Int} {y : Int} {lo : zL} (hlo : z_keep [0, 1, 2] lo = [(0, zr 74), (1, zi (b : Int)), (2, zi (x : Int))])  (hB : zB m) (h_b : b ≤ 127) (h_x : x ≤ 127) (h_v : (-2147483648) ≤ v ∧ v ≤ 2147483647) (h_y : (-2147483648) ≤ y ∧ y ≤ 2147483647) 
    (k1 : ¬ y < v → T (D + 3) 283 (9, [(0, zr 74), (1, zi (b : Int)), (2, zi ((x : Int) + 1))], [], m) κ)
    (k2 : y < v → T (D + 2) 282 (0, [(0, zr 74), (1, zi (x : Int))], [], m) (fun r m1 => T (D + 3) 283 (35, [(0, zr 74), (1, zi (b : Int)), (2, zi (x : Int))], r.toList ++ [], m1) κ)) :
    T (D + 3) 283 (27, lo, [zi y, zi v], m) κ := by
  have he0 : wr y = y := wr_id (by omega) (by omega)
  have he1 : wr v = v := wr_id (by omega) (by omega)
  have key := @zb283_27r T hT D κ m b x v y lo hlo
  simp only [he0, he1, Int.toNat_natCast] at key
  exact key
    k1
    k2
theorem zb283_35r (hT : zRules T) {D : Nat} {κ : Option zA → zM → Prop} {m : zM} {b : Nat} {x : Nat} {v : Int} {lo : zL} (hlo : z_keep [0, 1, 2] lo = [(0, zr 74), (1, zi (b : Int)), (2, zi (x : Int))]) 
    (o1 : wr v = 0 → T (D + 3) 283 (9, [(0, zr 74), (1, zi (b : Int)), (2, zi ((x : Int) + 1))], [], m) κ)
    (o2 : ¬ wr v = 0 → T (D + 3) 283 (9, [(0, zr 74), (1, zi (x : Int)), (2, zi ((x : Int) + 1))], [], m) κ) :
    T (D + 3) 283 (35, lo, [zi v], m) κ :=
  zkeep hT hlo (hT.1 [(9, [0, 1, 2])] 6 (D + 3) 283 _ κ (And.intro (fun a1 => (o1 a1)) (fun a2 => (o2 a2))))
theorem zb283_35 (hT : zRules T) {D : Nat} {κ : Option zA → zM → Prop} {m : zM} {b : Nat} {x : Nat} {v : Int} {lo : zL} (hlo : z_keep [0, 1, 2] lo = [(0, zr 74), (1, zi (b : Int)), (2, zi (x : Int))])  (hB : zB m) (h_b : b ≤ 127) (h_x : x ≤ 127) (h_v : 0 ≤ v ∧ v ≤ 1) 
    (k1 : v = 0 → T (D + 3) 283 (9, [(0, zr 74), (1, zi (b : Int)), (2, zi ((x : Int) + 1))], [], m) κ)
    (k2 : ¬ v = 0 → T (D + 3) 283 (9, [(0, zr 74), (1, zi (x : Int)), (2, zi ((x : Int) + 1))], [], m) κ) :
    T (D + 3) 283 (35, lo, [zi v], m) κ := by
  have he0 : wr v = v := wr_id (by omega) (by omega)
  have key := @zb283_35r T hT D κ m b x v lo hlo
  simp only [he0, Int.toNat_natCast] at key
  exact key
    k1
    k2
theorem zb283_60r (hT : zRules T) {D : Nat} {κ : Option zA → zM → Prop} {m : zM} {v : Int} {lo : zL} (hlo : z_keep [] lo = []) 
    (o1 : κ (some (zi (wr v))) m) :
    T (D + 3) 283 (60, lo, [zi v], m) κ :=
  zkeep hT hlo (hT.1 [(9, [0, 1, 2])] 6 (D + 3) 283 _ κ (o1))
theorem zb283_60 (hT : zRules T) {D : Nat} {κ : Option zA → zM → Prop} {m : zM} {v : Int} {lo : zL} (hlo : z_keep [] lo = [])  (h_v : (-2147483648) ≤ v ∧ v ≤ 2147483647) 
    (k1 : κ (some (zi v)) m) :
    T (D + 3) 283 (60, lo, [zi v], m) κ := by
  have he0 : wr v = v := wr_id (by omega) (by omega)
  have key := @zb283_60r T hT D κ m v lo hlo
  simp only [he0, Int.toNat_natCast] at key
  exact key
    k1
theorem zb282_0r (hT : zRules T) {D : Nat} {κ : Option zA → zM → Prop} {m : zM} {x : Nat} 
    (o1 : T (D + 2) 282 (4, [(0, zr 74), (2, zi 0), (3, zi (x : Int))], [], m) κ) :
    T (D + 2) 282 (0, [(0, zr 74), (1, zi (x : Int))], [], m) κ :=
  hT.1 [(4, [0, 2, 3]), (14, [0, 2, 3, 4, 5])] 6 (D + 2) 282 _ κ (o1)
theorem zb282_0 (hT : zRules T) {D : Nat} {κ : Option zA → zM → Prop} {m : zM} {x : Nat}  (hB : zB m) (h_x : x ≤ 127) 
    (k1 : T (D + 2) 282 (4, [(0, zr 74), (2, zi 0), (3, zi (x : Int))], [], m) κ) :
    T (D + 2) 282 (0, [(0, zr 74), (1, zi (x : Int))], [], m) κ := by
  exact zb282_0r hT
    k1
theorem zb282_4r (hT : zRules T) {D : Nat} {κ : Option zA → zM → Prop} {m : zM} {s : Int} {y : Nat} {lo : zL} (hlo : z_keep [0, 2, 3] lo = [(0, zr 74), (2, zi s), (3, zi (y : Int))]) 
    (o1 : wr (y : Int) = 0 → κ (some (zi 1)) m)
    (o2 : ¬ wr (y : Int) = 0 → T (D + 2) 282 (14, [(0, zr 74), (2, zi s), (3, zi (y : Int)), (4, zi (-1)), (5, zi 0)], [], m) κ) :
    T (D + 2) 282 (4, lo, [], m) κ :=
  zkeep hT hlo (hT.1 [(4, [0, 2, 3]), (14, [0, 2, 3, 4, 5])] 6 (D + 2) 282 _ κ (And.intro (fun a1 => (And.intro (z_b01L rfl) (o1 a1))) (fun a2 => (o2 a2))))
theorem zb282_4 (hT : zRules T) {D : Nat} {κ : Option zA → zM → Prop} {m : zM} {s : Int} {y : Nat} {lo : zL} (hlo : z_keep [0, 2, 3] lo = [(0, zr 74), (2, zi s), (3, zi (y : Int))])  (hB : zB m) (h_s : 0 ≤ s ∧ s ≤ 1000) (h_y : y ≤ 127) 
    (k1 : (y : Int) = 0 → κ (some (zi 1)) m)
    (k2 : ¬ (y : Int) = 0 → T (D + 2) 282 (14, [(0, zr 74), (2, zi s), (3, zi (y : Int)), (4, zi (-1)), (5, zi 0)], [], m) κ) :
    T (D + 2) 282 (4, lo, [], m) κ := by
  have he0 : wr (y : Int) = (y : Int) := wr_id (by omega) (by omega)
  have key := @zb282_4r T hT D κ m s y lo hlo
  simp only [he0, Int.toNat_natCast] at key
  exact key
    k1
    k2
theorem zb282_14r (hT : zRules T) {D : Nat} {κ : Option zA → zM → Prop} {m : zM} {s : Int} {y : Nat} {f : Int} {i : Nat} {lo : zL} (hlo : z_keep [0, 2, 3, 4, 5] lo = [(0, zr 74), (2, zi s), (3, zi (y : Int)), (4, zi f), (5, zi (i : Int))]) 
    (o1 : ¬ wr (i : Int) < wr (m 74 54) → (0 ≤ wr (2 * f) ∧ wr (2 * f) < 14))
    (o2 : ¬ wr (i : Int) < wr (m 74 54) → (0 ≤ wr ((2 * f) + 1) ∧ wr ((2 * f) + 1) < 14))
    (o3 : ¬ wr (i : Int) < wr (m 74 54) → ¬ wr (m 100 ((wr ((2 * f) + 1)).toNat)) < wr (s + (m 100 ((wr (2 * f)).toNat))) → T (D + 2) 282 (4, [(0, zr 74), (2, zi (s + (m 100 ((wr (2 * f)).toNat)))), (3, zi (z_and (y : Int) (z_xor (z_shl 1 f) (-1))))], [], m) κ)
    (o4 : ¬ wr (i : Int) < wr (m 74 54) → wr (m 100 ((wr ((2 * f) + 1)).toNat)) < wr (s + (m 100 ((wr (2 * f)).toNat))) → κ (some (zi 0)) m)
    (o5 : wr (i : Int) < wr (m 74 54) → ¬ wr (z_and (z_shr (y : Int) (i : Int)) 1) = 1 → T (D + 2) 282 (14, [(0, zr 74), (2, zi s), (3, zi (y : Int)), (4, zi f), (5, zi ((i : Int) + 1))], [], m) κ)
    (o6 : wr (i : Int) < wr (m 74 54) → wr (z_and (z_shr (y : Int) (i : Int)) 1) = 1 → wr f = (-1) → T (D + 2) 282 (14, [(0, zr 74), (2, zi s), (3, zi (y : Int)), (4, zi (i : Int)), (5, zi ((i : Int) + 1))], [], m) κ)
    (o7 : wr (i : Int) < wr (m 74 54) → wr (z_and (z_shr (y : Int) (i : Int)) 1) = 1 → ¬ wr f = (-1) → (0 ≤ wr ((2 * (i : Int)) + 1) ∧ wr ((2 * (i : Int)) + 1) < 14))
    (o8 : wr (i : Int) < wr (m 74 54) → wr (z_and (z_shr (y : Int) (i : Int)) 1) = 1 → ¬ wr f = (-1) → (0 ≤ wr ((2 * f) + 1) ∧ wr ((2 * f) + 1) < 14))
    (o9 : wr (i : Int) < wr (m 74 54) → wr (z_and (z_shr (y : Int) (i : Int)) 1) = 1 → ¬ wr f = (-1) → ¬ wr (m 100 ((wr ((2 * (i : Int)) + 1)).toNat)) < wr (m 100 ((wr ((2 * f) + 1)).toNat)) → T (D + 2) 282 (14, [(0, zr 74), (2, zi s), (3, zi (y : Int)), (4, zi f), (5, zi ((i : Int) + 1))], [], m) κ)
    (o10 : wr (i : Int) < wr (m 74 54) → wr (z_and (z_shr (y : Int) (i : Int)) 1) = 1 → ¬ wr f = (-1) → wr (m 100 ((wr ((2 * (i : Int)) + 1)).toNat)) < wr (m 100 ((wr ((2 * f) + 1)).toNat)) → T (D + 2) 282 (14, [(0, zr 74), (2, zi s), (3, zi (y : Int)), (4, zi (i : Int)), (5, zi ((i : Int) + 1))], [], m) κ) :
    T (D + 2) 282 (14, lo, [], m) κ :=
  zkeep hT hlo (hT.1 [(4, [0, 2, 3]), (14, [0, 2, 3, 4, 5])] 6 (D + 2) 282 _ κ (And.intro (fun a1 => (hT.1 [(4, [0, 2, 3]), (14, [0, 2, 3, 4, 5])] 6 (D + 2) 282 (75, [(0, zr 74), (2, zi s), (3, zi (y : Int)), (4, zi f), (5, zi (i : Int))], [zr 74, zi s], m) _ (And.intro (o1 a1) (hT.1 [(4, [0, 2, 3]), (14, [0, 2, 3, 4, 5])] 6 (D + 2) 282 (84, [(0, zr 74), (2, zi s), (3, zi (y : Int)), (4, zi f), (5, zi (i : Int))], [zi (s + (m 100 ((wr (2 * f)).toNat)))], m) _ (hT.1 [(4, [0, 2, 3]), (14, [0, 2, 3, 4, 5])] 6 (D + 2) 282 (93, [(0, zr 74), (2, zi (s + (m 100 ((wr (2 * f)).toNat)))), (3, zi (y : Int)), (4, zi f), (5, zi (i : Int))], [zi f, zi 2, zr 100, zi (s + (m 100 ((wr (2 * f)).toNat)))], m) _ (And.intro (o2 a1) (And.intro (fun a3 => (hT.1 [(4, [0, 2, 3]), (14, [0, 2, 3, 4, 5])] 6 (D + 2) 282 (103, [(0, zr 74), (2, zi (s + (m 100 ((wr (2 * f)).toNat)))), (3, zi (y : Int)), (4, zi f), (5, zi (i : Int))], [zi (y : Int)], m) _ (hT.1 [(4, [0, 2, 3]), (14, [0, 2, 3, 4, 5])] 6 (D + 2) 282 (110, [(0, zr 74), (2, zi (s + (m 100 ((wr (2 * f)).toNat)))), (3, zi (y : Int)), (4, zi f), (5, zi (i : Int))], [zi (z_and (y : Int) (z_xor (z_shl 1 f) (-1)))], m) _ (o3 a1 a3)))) (fun a4 => (hT.1 [(4, [0, 2, 3]), (14, [0, 2, 3, 4, 5])] 6 (D + 2) 282 (101, [(0, zr 74), (2, zi (s + (m 100 ((wr (2 * f)).toNat)))), (3, zi (y : Int)), (4, zi f), (5, zi (i : Int))], [zi 0], m) _ (And.intro (z_b01L rfl) (o4 a1 (Classical.byContradiction a4)))))))))))) (fun a2 => (hT.1 [(4, [0, 2, 3]), (14, [0, 2, 3, 4, 5])] 6 (D + 2) 282 (26, [(0, zr 74), (2, zi s), (3, zi (y : Int)), (4, zi f), (5, zi (i : Int))], [zi (i : Int), zi (y : Int)], m) _ (hT.1 [] 6 (D + 1) 187 _ _ (hT.1 [] 6 (D + 1) 187 (6, [(0, zi (y : Int)), (1, zi (i : Int))], [zi 1, zi (z_and (z_shr (y : Int) (i : Int)) 1)], m) _ (And.intro (fun a5 => (And.intro (z_b01L rfl) (hT.1 [(4, [0, 2, 3]), (14, [0, 2, 3, 4, 5])] 6 (D + 2) 282 _ _ (And.intro (fun _ => (o5 (Classical.byContradiction a2) a5)) (fun a7 => (a7 (z_litT rfl)).elim))))) (fun a6 => (And.intro (z_b01L rfl) (hT.1 [(4, [0, 2, 3]), (14, [0, 2, 3, 4, 5])] 6 (D + 2) 282 _ _ (And.intro (fun a8 => (z_litF a8 rfl).elim) (fun _ => (And.intro (fun a9 => (hT.1 [(4, [0, 2, 3]), (14, [0, 2, 3, 4, 5])] 6 (D + 2) 282 (67, [(0, zr 74), (2, zi s), (3, zi (y : Int)), (4, zi (i : Int)), (5, zi (i : Int))], [], m) _ (o6 (Classical.byContradiction a2) (Classical.byContradiction a6) a9))) (fun a10 => (hT.1 [(4, [0, 2, 3]), (14, [0, 2, 3, 4, 5])] 6 (D + 2) 282 (42, [(0, zr 74), (2, zi s), (3, zi (y : Int)), (4, zi f), (5, zi (i : Int))], [zr 100], m) _ (And.intro (o7 (Classical.byContradiction a2) (Classical.byContradiction a6) a10) (hT.1 [(4, [0, 2, 3]), (14, [0, 2, 3, 4, 5])] 6 (D + 2) 282 (49, [(0, zr 74), (2, zi s), (3, zi (y : Int)), (4, zi f), (5, zi (i : Int))], [zi (m 100 ((wr ((2 * (i : Int)) + 1)).toNat))], m) _ (hT.1 [(4, [0, 2, 3]), (14, [0, 2, 3, 4, 5])] 6 (D + 2) 282 (58, [(0, zr 74), (2, zi s), (3, zi (y : Int)), (4, zi f), (5, zi (i : Int))], [zi 1, zi (2 * f), zr 100, zi (m 100 ((wr ((2 * (i : Int)) + 1)).toNat))], m) _ (And.intro (o8 (Classical.byContradiction a2) (Classical.byContradiction a6) a10) (And.intro (fun a11 => (o9 (Classical.byContradiction a2) (Classical.byContradiction a6) a10 a11)) (fun a12 => (hT.1 [(4, [0, 2, 3]), (14, [0, 2, 3, 4, 5])] 6 (D + 2) 282 (70, [(0, zr 74), (2, zi s), (3, zi (y : Int)), (4, zi (i : Int)), (5, zi ((i : Int) + 1))], [], m) _ (o10 (Classical.byContradiction a2) (Classical.byContradiction a6) a10 (Classical.byContradiction a12))))))))))))))))))))))))
theorem zb282_14 (hT : zRules T) {D : Nat} {κ : Option zA → zM → Prop} {m : zM} {s : Int} {y : Nat} {f : Int} {i : Nat} {lo : zL} (hlo : z_keep [0, 2, 3, 4, 5] lo = [(0, zr 74), (2, zi s), (3, zi (y : Int)), (4, zi f), (5, zi (i : Int))])  (hB : zB m) (h_s : 0 ≤ s ∧ s ≤ 1000) (h_y : y ≤ 127) (h_f : (-1) ≤ f ∧ f ≤ 6) (h_i : i ≤ 7) 
    (k1 : ¬ (i : Int) < (m 74 54) → (0 ≤ (2 * f) ∧ (2 * f) < 14))
    (k2 : ¬ (i : Int) < (m 74 54) → (0 ≤ ((2 * f) + 1) ∧ ((2 * f) + 1) < 14))
    (k3 : ¬ (i : Int) < (m 74 54) → ¬ (m 100 (((2 * f) + 1).toNat)) < (s + (m 100 ((2 * f).toNat))) → T (D + 2) 282 (4, [(0, zr 74), (2, zi (s + (m 100 ((2 * f).toNat)))), (3, zi (z_and (y : Int) (z_xor (z_shl 1 f) (-1))))], [], m) κ)
    (k4 : ¬ (i : Int) < (m 74 54) → (m 100 (((2 * f) + 1).toNat)) < (s + (m 100 ((2 * f).toNat))) → κ (some (zi 0)) m)
    (k5 : (i : Int) < (m 74 54) → ¬ (z_and (z_shr (y : Int) (i : Int)) 1) = 1 → T (D + 2) 282 (14, [(0, zr 74), (2, zi s), (3, zi (y : Int)), (4, zi f), (5, zi ((i : Int) + 1))], [], m) κ)
    (k6 : (i : Int) < (m 74 54) → (z_and (z_shr (y : Int) (i : Int)) 1) = 1 → f = (-1) → T (D + 2) 282 (14, [(0, zr 74), (2, zi s), (3, zi (y : Int)), (4, zi (i : Int)), (5, zi ((i : Int) + 1))], [], m) κ)
    (k7 : (i : Int) < (m 74 54) → (z_and (z_shr (y : Int) (i : Int)) 1) = 1 → ¬ f = (-1) → ¬ (m 100 (2 * i + 1)) < (m 100 (((2 * f) + 1).toNat)) → T (D + 2) 282 (14, [(0, zr 74), (2, zi s), (3, zi (y : Int)), (4, zi f), (5, zi ((i : Int) + 1))], [], m) κ)
    (k8 : (i : Int) < (m 74 54) → (z_and (z_shr (y : Int) (i : Int)) 1) = 1 → ¬ f = (-1) → (m 100 (2 * i + 1)) < (m 100 (((2 * f) + 1).toNat)) → T (D + 2) 282 (14, [(0, zr 74), (2, zi s), (3, zi (y : Int)), (4, zi (i : Int)), (5, zi ((i : Int) + 1))], [], m) κ) :
    T (D + 2) 282 (14, lo, [], m) κ := by
  have hb4 : 0 ≤ (m 74 54) ∧ (m 74 54) ≤ 7 := hB 74 54
  have hb5 : (-2147483648) ≤ (z_shr (y : Int) (i : Int)) ∧ (z_shr (y : Int) (i : Int)) ≤ 2147483647 := z_shrB (y : Int) (i : Int)
  have hb6 : 0 ≤ (z_and (z_shr (y : Int) (i : Int)) 1) ∧ (z_and (z_shr (y : Int) (i : Int)) 1) ≤ 1 := z_andC (z_shr (y : Int) (i : Int)) 1 (by decide)
  have hb7 : 0 ≤ (m 100 (2 * i + 1)) ∧ (m 100 (2 * i + 1)) ≤ 99 := hB 100 (2 * i + 1)
  have hb8 : 0 ≤ (m 100 (((2 * f) + 1).toNat)) ∧ (m 100 (((2 * f) + 1).toNat)) ≤ 99 := hB 100 (((2 * f) + 1).toNat)
  have hb9 : 0 ≤ (m 100 ((2 * f).toNat)) ∧ (m 100 ((2 * f).toNat)) ≤ 99 := hB 100 ((2 * f).toNat)
  have hb10 : (-2147483648) ≤ (z_shl 1 f) ∧ (z_shl 1 f) ≤ 2147483647 := z_shlB 1 f
  have hb11 : (-2147483648) ≤ (z_xor (z_shl 1 f) (-1)) ∧ (z_xor (z_shl 1 f) (-1)) ≤ 2147483647 := z_xorB (z_shl 1 f) (-1)
  have hb12 : (-2147483648) ≤ (z_and (y : Int) (z_xor (z_shl 1 f) (-1))) ∧ (z_and (y : Int) (z_xor (z_shl 1 f) (-1))) ≤ 2147483647 := z_andB (y : Int) (z_xor (z_shl 1 f) (-1))
  have he0 : wr (i : Int) = (i : Int) := wr_id (by omega) (by omega)
  have he1 : wr (m 74 54) = (m 74 54) := wr_id (by omega) (by omega)
  have he2 : wr (z_and (z_shr (y : Int) (i : Int)) 1) = (z_and (z_shr (y : Int) (i : Int)) 1) := wr_id (by omega) (by omega)
  have he3 : wr f = f := wr_id (by omega) (by omega)
  have he4 : wr ((2 * (i : Int)) + 1) = ((2 * (i : Int)) + 1) := wr_id (by omega) (by omega)
  have he5 : ((2 * (i : Int)) + 1).toNat = 2 * i + 1 := by omega
  have he6 : wr ((2 * f) + 1) = ((2 * f) + 1) := wr_id (by omega) (by omega)
  have he7 : wr (m 100 (2 * i + 1)) = (m 100 (2 * i + 1)) := wr_id (by omega) (by omega)
  have he8 : wr (m 100 (((2 * f) + 1).toNat)) = (m 100 (((2 * f) + 1).toNat)) := wr_id (by omega) (by omega)
  have he9 : wr (2 * f) = (2 * f) := wr_id (by omega) (by omega)
  have he10 : wr (s + (m 100 ((2 * f).toNat))) = (s + (m 100 ((2 * f).toNat))) := wr_id (by omega) (by omega)
  have key := @zb282_14r T hT D κ m s y f i lo hlo
  simp only [he0, he1, he2, he3, he4, he5, he6, he7, he8, he9, he10, Int.toNat_natCast] at key
  exact key
    k1
    k2
    k3
    k4
    k5
    k6
    (fun x0 x1 x2 => by refine ⟨?_, ?_⟩ <;> omega)
    (fun x0 x1 x2 => by refine ⟨?_, ?_⟩ <;> omega)
    k7
    k8
end ZBlocks
end
-- 95.timely.lean.txt
section
/-! timely(): it ends, and leaves what matters. -/
noncomputable def popc7 (x : Nat) : Nat := (List.range 7).countP (fun i => x.testBit i)
theorem popc7_7 : ∀ x : Nat, x < 128 → popc7 x ≤ 7 := by decide +kernel
theorem popc7_no : ∀ x : Nat, x < 128 → popc7 x = 0 → x = 0 := by decide +kernel
theorem clr_v : ∀ f : Nat, f < 7 → ∀ x : Nat, x < 128 → z_and (x : Int) (z_xor (z_shl 1 (f : Int)) (-1)) = ((x &&& (127 - 2 ^ f) : Nat) : Int) := by decide +kernel
theorem clr_p : ∀ f : Nat, f < 7 → ∀ x : Nat, x < 128 → x.testBit f = true → popc7 (x &&& (127 - 2 ^ f)) < popc7 x := by decide +kernel
section ZTimely
variable {T : Nat → Nat → zG → (Option zA → zM → Prop) → Prop} {B : Int}
theorem z_hoursOf0 (hT : zRules T) {D : Nat} {κ : Option zA → zM → Prop} {m : zM} {x N : Nat} (hB : zB m) (hN : m 64 2 = (N : Int)) (hx : x ≤ 127) (hk : ∀ h : Int, (0 ≤ h ∧ h ≤ 140) → κ (some (zi h)) m) : T (D + 2) 98 (0, [(0, zr 64), (1, zi (x : Int))], [], m) κ := by
  have b64 : 0 ≤ m 64 2 ∧ m 64 2 ≤ 7 := hB 64 2
  have key : ∀ (j t : Nat) (h : Int), t + j = N → (0 ≤ h ∧ h ≤ 20 * t) → T (D + 2) 98 (4, [(0, zr 64), (1, zi (x : Int)), (2, zi h), (3, zi (t : Int))], [], m) κ := by
    intro j
    induction j with
    | zero =>
      intro t h ht hh
      exact zb98_4 hT rfl hB hx (by omega) (by omega) (fun _ => hk h (by omega)) (fun q => by omega)
    | succ j ih =>
      intro t h ht hh
      have b65 : 0 ≤ m 65 t ∧ m 65 t ≤ 20 := hB 65 t
      refine zb98_4 hT rfl hB hx (by omega) (by omega) (fun q => by omega) (fun _ => ?_)
      rw [z_bit (by omega) (by omega)]
      by_cases e : x.testBit t = true
      · rw [if_pos e, Int.one_mul]
        exact ih (t + 1) _ (by omega) (by omega)
      · rw [if_neg e, Int.zero_mul, Int.add_zero]
        exact ih (t + 1) _ (by omega) (by omega)
  exact zb98_0 hT hB hx (key N 0 0 (by omega) (by omega))
theorem z_canBe0 (hT : zRules T) {D : Nat} {κ : Option zA → zM → Prop} {m : zM} {x N : Nat} (hB : zB m) (hN : m 64 2 = (N : Int)) (hx : x ≤ 127) (hk : ∀ v : Int, (0 ≤ v ∧ v ≤ 1) → κ (some (zi v)) m) : T (D + 3) 103 (0, [(0, zr 64), (1, zi (x : Int))], [], m) κ := by
  have b64 : 0 ≤ m 64 2 ∧ m 64 2 ≤ 7 := hB 64 2
  refine zb103_0 hT hB hx ?_
  refine z_hoursOf0 hT hB hN hx (fun h hh => ?_)
  refine zb103_5 hT rfl hB hx (by omega) ?_
  have key : ∀ (j t : Nat), t + j = N → T (D + 3) 103 (8, [(0, zr 64), (1, zi (x : Int)), (2, zi h), (3, zi (t : Int))], [], m) κ := by
    intro j
    induction j with
    | zero =>
      intro t ht
      exact zb103_8 hT rfl hB hx (by omega) (by omega) (fun _ => hk 0 (by omega)) (fun q => by omega) (fun q => by omega) (fun q => by omega) (fun q => by omega) (fun q => by omega)
    | succ j ih =>
      intro t ht
      refine zb103_8 hT rfl hB hx (by omega) (by omega) (fun q => by omega) (fun _ _ => ih (t + 1) (by omega)) (fun _ _ _ => ih (t + 1) (by omega)) (fun _ _ _ => ?_) (fun _ _ _ _ => ih (t + 1) (by omega)) (fun _ _ _ _ => hk 1 (by omega))
      have hl : x &&& (127 - 2 ^ t) ≤ x := Nat.and_le_left
      rw [clr_v t (by omega) x (by omega)]
      omega
  exact key N 0 (by omega)
theorem z_isTimely0 (hT : zRules T) {N : Nat} : ∀ (j : Nat) (D : Nat) (κ : Option zA → zM → Prop) (m : zM) (y : Nat) (s : Int), zB m → m 74 54 = (N : Int) → N ≤ 7 → y < 2 ^ N → popc7 y ≤ j → (0 ≤ s ∧ s + 99 * j ≤ 693) → (∀ v : Int, (0 ≤ v ∧ v ≤ 1) → κ (some (zi v)) m) →
    T (D + 2) 282 (4, [(0, zr 74), (2, zi s), (3, zi (y : Int))], [], m) κ := by
  intro j
  induction j with
  | zero =>
    intro D κ m y s hB hN hN7 hy hp hs hk
    have p7 : 2 ^ N ≤ 2 ^ 7 := Nat.pow_le_pow_right (by omega) hN7
    have y0 := popc7_no y (by omega) (by omega)
    exact zb282_4 hT rfl hB (by omega) (by omega) (fun _ => hk 1 (by omega)) (fun q => by omega)
  | succ j ih =>
    intro D κ m y s hB hN hN7 hy hp hs hk
    have p7 : 2 ^ N ≤ 2 ^ 7 := Nat.pow_le_pow_right (by omega) hN7
    refine zb282_4 hT rfl hB (by omega) (by omega) (fun _ => hk 1 (by omega)) (fun y0 => ?_)
    have loop : ∀ (i t : Nat) (f : Int), t + i = N → ((f = -1 ∧ ∀ q, q < t → y.testBit q = false) ∨ ∃ g : Nat, f = (g : Int) ∧ g < 7 ∧ y.testBit g = true) → T (D + 2) 282 (14, [(0, zr 74), (2, zi s), (3, zi (y : Int)), (4, zi f), (5, zi (t : Int))], [], m) κ := by
      intro i
      induction i with
      | zero =>
        intro t f ht hf
        have hg : ∃ g : Nat, f = (g : Int) ∧ g < 7 ∧ y.testBit g = true := by
          rcases hf with ⟨_, h0⟩ | h0
          · exfalso
            obtain ⟨q, hq⟩ := Nat.exists_testBit_of_ne_zero (show y ≠ 0 by omega)
            have h1 := Nat.ge_two_pow_of_testBit hq
            have h2 : q < N := (Nat.pow_lt_pow_iff_right (a := 2) (by omega)).mp (by omega)
            rw [h0 q (by omega)] at hq
            cases hq
          · exact h0
        obtain ⟨g, rfl, g7, gb⟩ := hg
        have e2 : (2 * (g : Int)).toNat = 2 * g := by omega
        have b100 : 0 ≤ m 100 (2 * g) ∧ m 100 (2 * g) ≤ 99 := hB 100 (2 * g)
        have hc := clr_p g g7 y (by omega) gb
        have hl : y &&& (127 - 2 ^ g) ≤ y := Nat.and_le_left
        refine zb282_14 hT rfl hB (by omega) (by omega) (by omega) (by omega) (fun _ => by omega) (fun _ => by omega) (fun _ _ => ?_) (fun _ _ => hk 0 (by omega)) (fun q => by omega) (fun q => by omega) (fun q => by omega) (fun q => by omega)
        rw [e2, clr_v g g7 y (by omega)]
        exact ih D κ m _ _ hB hN hN7 (by omega) (by omega) (by omega) hk
      | succ i ih2 =>
        intro t f ht hf
        have f6 : -1 ≤ f ∧ f ≤ 6 := by
          rcases hf with ⟨h0, _⟩ | ⟨g, h0, h1, _⟩
          · omega
          · omega
        have hbit := z_bit (n := y) (i := t) (by omega) (by omega)
        have yes : z_and (z_shr (y : Int) (t : Int)) 1 = 1 → y.testBit t = true := fun q => by
          rw [hbit] at q
          cases hb : y.testBit t with
          | true => rfl
          | false =>
            rw [hb, if_neg (by simp)] at q
            cases q
        have nb : ¬ z_and (z_shr (y : Int) (t : Int)) 1 = 1 → y.testBit t = false := fun q => by
          rw [hbit] at q
          cases hb : y.testBit t with
          | false => rfl
          | true =>
            rw [hb, if_pos rfl] at q
            exact absurd rfl q
        refine zb282_14 hT rfl hB (by omega) (by omega) f6 (by omega) (fun q => by omega) (fun q => by omega) (fun q => by omega) (fun q => by omega) (fun _ q => ?_) (fun _ q _ => ?_) (fun _ q q2 _ => ?_) (fun _ q _ _ => ?_)
        · refine ih2 (t + 1) f (by omega) ?_
          rcases hf with ⟨h0, h1⟩ | h0
          · refine Or.inl ⟨h0, fun r hr => ?_⟩
            by_cases e : r = t
            · rw [e]
              exact nb q
            · exact h1 r (by omega)
          · exact Or.inr h0
        · exact ih2 (t + 1) _ (by omega) (Or.inr ⟨t, rfl, by omega, yes q⟩)
        · refine ih2 (t + 1) f (by omega) ?_
          rcases hf with ⟨h0, _⟩ | h0
          · exact absurd h0 q2
          · exact Or.inr h0
        · exact ih2 (t + 1) _ (by omega) (Or.inr ⟨t, rfl, by omega, yes q⟩)
    exact loop N 0 (-1) (by omega) (Or.inl ⟨rfl, fun q hq => by omega⟩)
theorem w_timely0 (hT : zRules T) : Way T 156 283 [(0, zr 1)] [(0, zr 74)] 5 3 B B False := by
  rintro D m sc ⟨n, k, hI⟩ κ hκ
  have hI0 := hI
  obtain ⟨i1, i2, i3, i4, i5, i6, i7, i8, i9, i10, i11⟩ := hI
  have b64 : 0 ≤ m 64 2 ∧ m 64 2 ≤ 7 := i1 64 2
  obtain ⟨N, hN⟩ : ∃ N : Nat, m 64 2 = (N : Int) := ⟨(m 64 2).toNat, by omega⟩
  have p7 : 2 ^ N ≤ 2 ^ 7 := Nat.pow_le_pow_right (by omega) (by omega)
  have p1 : 1 ≤ 2 ^ N := Nat.one_le_two_pow
  have ref : ∀ (r : Option zA) (M0 : zM), zB M0 → Agree coreK m M0 → κ r M0 := by
    intro r M0 hB0 hA0
    refine hκ _ _ (fun D2 κ2 h2 => ?_)
    have fin : ∀ r2 M1, zB M1 → Agree coreK m M1 → κ2 r2 M1 := fun r2 M1 hB1 hA1 => h2 _ _ (fun x => x.elim) ⟨n, k, Inv_fr hA1 hB1 hI0⟩
    refine zb283_0 hT hB0 (fun hz => ?_)
    have hA : Agree coreK m (zu M0 74 12 0) := hA0.trans (.of (L := [(74, some 12)]) (zFr.refl.set rfl) rfl)
    generalize zu M0 74 12 0 = M at hz hA ⊢
    have e54 : M 74 54 = (N : Int) := by rw [hA 74 54 rfl, i9.1, hN]
    have e4 : z_shl 1 (M 74 54) = ((2 ^ N : Nat) : Int) := by rw [e54, z_shl1T N (by omega)]
    have loop : ∀ (j x b : Nat), x + j = 2 ^ N → b ≤ 127 → T (D2 + 3) 283 (9, [(0, zr 74), (1, zi (b : Int)), (2, zi (x : Int))], [], M) κ2 := by
      intro j
      induction j with
      | zero =>
        intro x b hx hb
        generalize 2 ^ N = P at p7 hx e4
        refine zb283_9 hT rfl hz hb (by omega) (fun _ hz2 => ?_) (fun q => by omega)
        refine zb293_0 (D := D2 + 1) hT (by omega) ?_
        exact zb283_60 hT rfl (z_andB _ _) (fin _ _ hz2 (hA.trans (.of (L := [(74, some 11), (81, none)]) (((zFr.refl.set rfl).set rfl).set rfl) rfl)))
      | succ j ih =>
        intro x b hx hb
        have hxn : x < 2 ^ N := by omega
        have hx63 : x ≤ 127 := by omega
        have hlt : (x : Int) < z_shl 1 (M 74 54) := by
          rw [e4]
          exact Int.ofNat_lt.mpr hxn
        have nx := fun b hb => ih (x + 1) b (by omega) hb
        refine zb283_9 hT rfl hz hb (by omega) (fun q => absurd hlt q) (fun _ => ?_)
        refine zb293_0 (D := D2 + 1) hT (by omega) ?_
        refine zb283_23 hT rfl hz hb hx63 (z_andB _ _) ?_
        refine zb293_0 (D := D2 + 1) hT (by omega) ?_
        refine zb283_27 hT rfl hz hb hx63 (z_andB _ _) (z_andB _ _) (fun _ => nx b hb) (fun _ => ?_)
        refine zb282_0 hT hz hx63 ?_
        refine z_isTimely0 hT 7 D2 _ M x 0 hz e54 (by omega) hxn (popc7_7 x (by omega)) (by omega) (fun v hv => ?_)
        exact zb283_35 hT rfl hz hb hx63 hv (fun _ => nx b hb) (fun _ => nx x hx63)
    exact loop (2 ^ N - 1) 1 0 (by omega) (by omega)
  have loop : ∀ (j x b : Nat) (M : zM), x + j = 2 ^ N → b ≤ 127 → zB M → zFr (inL [(71, none)]) m M → T (D + 4) 102 (11, [(0, zr 64), (1, zi (b : Int)), (2, zi (x : Int))], [], M) (fun r m1 => T (D + 5) 156 (7, [(0, zr 1)], r.toList ++ [], m1) κ) := by
    intro j
    induction j with
    | zero =>
      intro x b M hx hb hBM hF
      have e4 : z_shl 1 (M 64 2) = ((2 ^ N : Nat) : Int) := by rw [hF 64 2 rfl, hN, z_shl1T N (by omega)]
      generalize 2 ^ N = P at p7 hx e4
      refine zb102_11 hT rfl hBM hb (by omega) (fun _ => ?_) (fun q => by omega)
      refine zb156_7 hT rfl hBM hb (fun hz => ?_)
      refine zb293_0 (D := D + 3) hT (by omega) ?_
      exact zb156_20 hT rfl (z_andB _ _) (ref _ _ hz ((Agree.of hF rfl).trans (.of (L := [(72, some 1), (73, none)]) ((zFr.refl.set rfl).set rfl) rfl)))
    | succ j ih =>
      intro x b M hx hb hBM hF
      have hxn : x < 2 ^ N := by omega
      have hx63 : x ≤ 127 := by omega
      have e64 : M 64 2 = (N : Int) := (hF 64 2 rfl).trans hN
      have hlt : (x : Int) < z_shl 1 (M 64 2) := by
        rw [e64, z_shl1T N (by omega)]
        exact Int.ofNat_lt.mpr hxn
      refine zb102_11 hT rfl hBM hb (by omega) (fun q => absurd hlt q) (fun _ => ?_)
      refine z_canBe0 (D := D) hT hBM e64 hx63 (fun v hv => ?_)
      refine zb102_31 hT rfl hBM hb hx63 hv ?_ ?_
      · exact fun _ hz => ih (x + 1) b _ (by omega) hb hz (hF.set rfl)
      · intro _ hz
        refine zb293_0 (D := D + 2) hT (by omega) ?_
        refine zb102_45 hT rfl hz hb hx63 (z_andB _ _) ?_
        refine zb293_0 (D := D + 2) hT (by omega) ?_
        exact zb102_49 hT rfl hz hb hx63 (z_andB _ _) (z_andB _ _) (fun _ => ih (x + 1) b _ (by omega) hb hz (hF.set rfl)) (fun _ => ih (x + 1) x _ (by omega) hx63 hz (hF.set rfl))
  refine zb156_0 hT i1 ?_
  exact zb102_0 hT i1 (fun hz => loop (2 ^ N - 1) 1 0 _ (by omega) (by omega) hz (zFr.refl.set rfl))
end ZTimely
end
-- 96.b16.lean.txt
section
section ZBlocks
variable {T : Nat → Nat → zG → (Option zA → zM → Prop) → Prop}
theorem zb155_0r (hT : zRules T) {D : Nat} {κ : Option zA → zM → Prop} {m : zM} 
    (o1 : T (D + 4) 99 (0, [(0, zr 64)], [], m) (fun r m1 => T (D + 5) 155 (7, [(0, zr 1)], r.toList ++ [], m1) κ)) :
    T (D + 5) 155 (0, [(0, zr 1)], [], m) κ :=
  hT.1 [] 6 (D + 5) 155 _ κ (o1)
theorem zb155_0 (hT : zRules T) {D : Nat} {κ : Option zA → zM → Prop} {m : zM}  (hB : zB m) 
    (k1 : T (D + 4) 99 (0, [(0, zr 64)], [], m) (fun r m1 => T (D + 5) 155 (7, [(0, zr 1)], r.toList ++ [], m1) κ)) :
    T (D + 5) 155 (0, [(0, zr 1)], [], m) κ := by
  exact zb155_0r hT
    k1
theorem zb155_7r (hT : zRules T) {D : Nat} {κ : Option zA → zM → Prop} {m : zM} {v : Int} {lo : zL} (hlo : z_keep [0] lo = [(0, zr 1)]) 
    (o1 : T (D + 4) 48 (0, [(0, zr 72), (1, zr 67), (2, zi (m 64 2))], [], m) (fun r m1 => T (D + 5) 155 (29, [(0, zr 1), (1, zi v)], r.toList ++ [], m1) κ)) :
    T (D + 5) 155 (7, lo, [zi v], m) κ :=
  zkeep hT hlo (hT.1 [] 6 (D + 5) 155 _ κ (hT.1 [] 6 (D + 5) 155 (19, [(0, zr 1), (1, zi v)], [zr 67, zr 72], m) _ (o1)))
theorem zb155_7 (hT : zRules T) {D : Nat} {κ : Option zA → zM → Prop} {m : zM} {v : Int} {lo : zL} (hlo : z_keep [0] lo = [(0, zr 1)])  (hB : zB m) (h_v : (-2147483648) ≤ v ∧ v ≤ 2147483647) 
    (k1 : T (D + 4) 48 (0, [(0, zr 72), (1, zr 67), (2, zi (m 64 2))], [], m) (fun r m1 => T (D + 5) 155 (29, [(0, zr 1), (1, zi v)], r.toList ++ [], m1) κ)) :
    T (D + 5) 155 (7, lo, [zi v], m) κ := by
  have hb1 : 0 ≤ (m 64 2) ∧ (m 64 2) ≤ 7 := hB 64 2
  exact zb155_7r hT hlo
    k1
theorem zb155_29r (hT : zRules T) {D : Nat} {κ : Option zA → zM → Prop} {m : zM} {v : Int} {lo : zL} (hlo : z_keep [1] lo = [(1, zi v)]) 
    (o1 : κ (some (zi (wr v))) m) :
    T (D + 5) 155 (29, lo, [], m) κ :=
  zkeep hT hlo (hT.1 [] 6 (D + 5) 155 _ κ (o1))
theorem zb155_29 (hT : zRules T) {D : Nat} {κ : Option zA → zM → Prop} {m : zM} {v : Int} {lo : zL} (hlo : z_keep [1] lo = [(1, zi v)])  (h_v : (-2147483648) ≤ v ∧ v ≤ 2147483647) 
    (k1 : κ (some (zi v)) m) :
    T (D + 5) 155 (29, lo, [], m) κ := by
  have he0 : wr v = v := wr_id (by omega) (by omega)
  have key := @zb155_29r T hT D κ m v lo hlo
  simp only [he0, Int.toNat_natCast] at key
  exact key
    k1
theorem zb48_0_67r (hT : zRules T) {D : Nat} {κ : Option zA → zM → Prop} {m : zM} {n : Nat} 
    (o1 : 7 < wr (n : Int) → False)
    (o2 : ¬ 7 < wr (n : Int) → 0 < wr (wr (n : Int)) → ((0 : Int) ≤ 0 ∧ (0 : Int) ≤ 0 ∧ (0 : Int) ≤ wr ((zu m 72 1 (wr (wr (n : Int)))) 72 1) ∧ 0 + wr ((zu m 72 1 (wr (wr (n : Int)))) 72 1) ≤ 7 ∧ 0 + wr ((zu m 72 1 (wr (wr (n : Int)))) 72 1) ≤ 26))
    (o3 : ¬ 7 < wr (n : Int) → 0 < wr (wr (n : Int)) → κ (none) (z_cp (zu m 72 1 (wr (wr (n : Int)))) 67 73 0 0 ((wr ((zu m 72 1 (wr (wr (n : Int)))) 72 1)).toNat)))
    (o4 : ¬ 7 < wr (n : Int) → ¬ 0 < wr (wr (n : Int)) → κ (none) (z_cp (zu m 72 1 0) 67 73 0 0 0)) :
    T (D + 2) 48 (0, [(0, zr 72), (1, zr 67), (2, zi (n : Int))], [], m) κ :=
  hT.1 [] 6 (D + 2) 48 _ κ (hT.1 [] 6 (D + 2) 48 (6, [(0, zr 72), (1, zr 67), (2, zi (n : Int))], [zr 72, zi 7, zi (n : Int), zi 0, zr 72], m) _ (hT.1 [] 6 (D + 1) 294 _ _ (And.intro (fun a1 => (z_litF a1 rfl).elim) (fun _ => (hT.1 [] 6 (D + 2) 48 _ _ (hT.1 [] 6 (D + 1) 294 _ _ (And.intro (fun a2 => (o1 a2).elim) (fun a3 => (hT.1 [] 6 (D + 2) 48 _ _ (hT.1 [] 6 (D + 1) 295 _ _ (And.intro (fun a4 => (hT.1 [] 6 (D + 2) 48 _ _ (And.intro trivial (hT.1 [] 6 (D + 2) 48 (29, [(0, zr 72), (1, zr 67), (2, zi (n : Int))], [zi 0, zr 73, zi 0, zr 67], (zu m 72 1 (wr (wr (n : Int))))) _ (And.intro (o2 a3 a4) (o3 a3 a4)))))) (fun a5 => (hT.1 [] 6 (D + 2) 48 _ _ (And.intro trivial (hT.1 [] 6 (D + 2) 48 (29, [(0, zr 72), (1, zr 67), (2, zi (n : Int))], [zi 0, zr 73, zi 0, zr 67], (zu m 72 1 0)) _ (And.intro (And.intro (z_leL rfl) (And.intro (z_leL rfl) (And.intro (z_leL rfl) (And.intro (z_leL rfl) (z_leL rfl))))) (o4 a3 a5)))))))))))))))))
theorem zb48_0_67 (hT : zRules T) {D : Nat} {κ : Option zA → zM → Prop} {m : zM} {n : Nat}  (hB : zB m) (h_n : n ≤ 7) 
    (k1 : 0 < (n : Int) → zB (z_cp (zu m 72 1 (n : Int)) 67 73 0 0 n) → κ (none) (z_cp (zu m 72 1 (n : Int)) 67 73 0 0 n))
    (k2 : ¬ 0 < (n : Int) → zB (z_cp (zu m 72 1 0) 67 73 0 0 0) → κ (none) (z_cp (zu m 72 1 0) 67 73 0 0 0)) :
    T (D + 2) 48 (0, [(0, zr 72), (1, zr 67), (2, zi (n : Int))], [], m) κ := by
  have he0 : wr (n : Int) = (n : Int) := wr_id (by omega) (by omega)
  have he1 : ((zu m 72 1 (n : Int)) 72 1) = (n : Int) := (zu_sm rfl)
  have he2 : (n : Int).toNat = n := by omega
  have key := @zb48_0_67r T hT D κ m n
  simp only [he0, he1, he2, Int.toNat_natCast] at key
  exact key
    (fun x0 => by omega)
    (fun x0 x1 => by refine ⟨?_, ?_, ?_, ?_, ?_⟩ <;> omega)
    (fun x0 x1 => k1 x1 (zB_cp (zB_u hB (show 0 ≤ (n : Int) ∧ (n : Int) ≤ 26 from ⟨by omega, by omega⟩)) (fun _ _ _ => trivial)))
    (fun x0 x1 => k2 x1 (zB_cp (zB_u hB (show 0 ≤ 0 ∧ 0 ≤ 26 from ⟨by omega, by omega⟩)) (fun _ _ _ => trivial)))
theorem zb99_0r (hT : zRules T) {D : Nat} {κ : Option zA → zM → Prop} {m : zM} 
    (o1 : (0 ≤ wr ((z_shl 1 (m 64 2)) - 1) ∧ wr ((z_shl 1 (m 64 2)) - 1) < 128))
    (o2 : T (D + 4) 99 (20, [(0, zr 64), (2, zi (((z_shl 1 (m 64 2)) - 1) - 1))], [], (zu m 70 ((wr ((z_shl 1 (m 64 2)) - 1)).toNat) 0)) κ) :
    T (D + 4) 99 (0, [(0, zr 64)], [], m) κ :=
  hT.1 [(20, [0, 2]), (58, [0, 2, 3])] 6 (D + 4) 99 _ κ (hT.1 [(20, [0, 2]), (58, [0, 2, 3])] 6 (D + 4) 99 (8, [(0, zr 64)], [zi ((z_shl 1 (m 64 2)) - 1)], m) _ (And.intro (And.intro (o1) trivial) (hT.1 [(20, [0, 2]), (58, [0, 2, 3])] 6 (D + 4) 99 (16, [(0, zr 64), (1, zi ((z_shl 1 (m 64 2)) - 1))], [], (zu m 70 ((wr ((z_shl 1 (m 64 2)) - 1)).toNat) 0)) _ (o2))))
theorem zb99_0 (hT : zRules T) {D : Nat} {κ : Option zA → zM → Prop} {m : zM}  (hB : zB m) 
    (k1 : (0 ≤ wr ((z_shl 1 (m 64 2)) - 1) ∧ wr ((z_shl 1 (m 64 2)) - 1) < 128))
    (k2 : zB (zu m 70 ((wr ((z_shl 1 (m 64 2)) - 1)).toNat) 0) → T (D + 4) 99 (20, [(0, zr 64), (2, zi (((z_shl 1 (m 64 2)) - 1) - 1))], [], (zu m 70 ((wr ((z_shl 1 (m 64 2)) - 1)).toNat) 0)) κ) :
    T (D + 4) 99 (0, [(0, zr 64)], [], m) κ := by
  have hb0 : 0 ≤ (m 64 2) ∧ (m 64 2) ≤ 7 := hB 64 2
  have hb1 : (-2147483648) ≤ (z_shl 1 (m 64 2)) ∧ (z_shl 1 (m 64 2)) ≤ 2147483647 := z_shlB 1 (m 64 2)
  have hb2 : (-2147483648) ≤ wr ((z_shl 1 (m 64 2)) - 1) ∧ wr ((z_shl 1 (m 64 2)) - 1) ≤ 2147483647 := wrB ((z_shl 1 (m 64 2)) - 1)
  exact zb99_0r hT
    k1
    (k2  (zB_u hB trivial))
theorem zb99_20r (hT : zRules T) {D : Nat} {κ : Option zA → zM → Prop} {m : zM} {x : Int} {lo : zL} (hlo : z_keep [0, 2] lo = [(0, zr 64), (2, zi x)]) 
    (o1 : wr x < 0 → T (D + 4) 99 (58, [(0, zr 64), (2, zi 0), (3, zi 0)], [], m) κ)
    (o2 : ¬ wr x < 0 → T (D + 3) 98 (0, [(0, zr 64), (1, zi x)], [], m) (fun r m1 => T (D + 4) 99 (29, [(0, zr 64), (2, zi x)], r.toList ++ [], m1) κ)) :
    T (D + 4) 99 (20, lo, [], m) κ :=
  zkeep hT hlo (hT.1 [(20, [0, 2]), (58, [0, 2, 3])] 6 (D + 4) 99 _ κ (And.intro (fun a1 => (o1 a1)) (fun a2 => (o2 a2))))
theorem zb99_20 (hT : zRules T) {D : Nat} {κ : Option zA → zM → Prop} {m : zM} {x : Int} {lo : zL} (hlo : z_keep [0, 2] lo = [(0, zr 64), (2, zi x)])  (hB : zB m) (h_x : (-1) ≤ x ∧ x ≤ 126) 
    (k1 : x < 0 → T (D + 4) 99 (58, [(0, zr 64), (2, zi 0), (3, zi 0)], [], m) κ)
    (k2 : ¬ x < 0 → T (D + 3) 98 (0, [(0, zr 64), (1, zi x)], [], m) (fun r m1 => T (D + 4) 99 (29, [(0, zr 64), (2, zi x)], r.toList ++ [], m1) κ)) :
    T (D + 4) 99 (20, lo, [], m) κ := by
  have he0 : wr x = x := wr_id (by omega) (by omega)
  have key := @zb99_20r T hT D κ m x lo hlo
  simp only [he0, Int.toNat_natCast] at key
  exact key
    k1
    k2
theorem zb99_29r (hT : zRules T) {D : Nat} {κ : Option zA → zM → Prop} {m : zM} {x : Nat} {h : Int} {lo : zL} (hlo : z_keep [0, 2] lo = [(0, zr 64), (2, zi (x : Int))]) 
    (o1 : T (D + 3) 101 (0, [(0, zr 64), (1, zi (x : Int)), (2, zi h)], [], m) (fun r m1 => T (D + 4) 99 (44, [(0, zr 64), (2, zi (x : Int)), (3, zi h)], r.toList ++ [zi h, zi (x : Int), zr 64, zi (x : Int), zr 70], m1) κ)) :
    T (D + 4) 99 (29, lo, [zi h], m) κ :=
  zkeep hT hlo (hT.1 [(20, [0, 2]), (58, [0, 2, 3])] 6 (D + 4) 99 _ κ (hT.1 [(20, [0, 2]), (58, [0, 2, 3])] 6 (D + 4) 99 (37, [(0, zr 64), (2, zi (x : Int)), (3, zi h)], [zi (x : Int), zr 64, zi (x : Int), zr 70], m) _ (o1)))
theorem zb99_29 (hT : zRules T) {D : Nat} {κ : Option zA → zM → Prop} {m : zM} {x : Nat} {h : Int} {lo : zL} (hlo : z_keep [0, 2] lo = [(0, zr 64), (2, zi (x : Int))])  (hB : zB m) (h_x : x ≤ 126) (h_h : 0 ≤ h ∧ h ≤ 140) 
    (k1 : T (D + 3) 101 (0, [(0, zr 64), (1, zi (x : Int)), (2, zi h)], [], m) (fun r m1 => T (D + 4) 99 (44, [(0, zr 64), (2, zi (x : Int)), (3, zi h)], r.toList ++ [zi h, zi (x : Int), zr 64, zi (x : Int), zr 70], m1) κ)) :
    T (D + 4) 99 (29, lo, [zi h], m) κ := by
  exact zb99_29r hT hlo
    k1
theorem zb99_44r (hT : zRules T) {D : Nat} {κ : Option zA → zM → Prop} {m : zM} {x : Nat} {h : Int} {f : Int} {lo : zL} (hlo : z_keep [0, 2] lo = [(0, zr 64), (2, zi (x : Int))]) 
    (o1 : T (D + 3) 100 (0, [(0, zr 64), (1, zi (x : Int)), (2, zi h), (3, zi f)], [], m) (fun r m1 => T (D + 4) 99 (47, [(0, zr 64), (2, zi (x : Int))], r.toList ++ [zi (x : Int), zr 70], m1) κ)) :
    T (D + 4) 99 (44, lo, [zi f, zi h, zi (x : Int), zr 64, zi (x : Int), zr 70], m) κ :=
  zkeep hT hlo (hT.1 [(20, [0, 2]), (58, [0, 2, 3])] 6 (D + 4) 99 _ κ (o1))
theorem zb99_44 (hT : zRules T) {D : Nat} {κ : Option zA → zM → Prop} {m : zM} {x : Nat} {h : Int} {f : Int} {lo : zL} (hlo : z_keep [0, 2] lo = [(0, zr 64), (2, zi (x : Int))])  (hB : zB m) (h_x : x ≤ 126) (h_h : 0 ≤ h ∧ h ≤ 140) (h_f : (-1) ≤ f ∧ f ≤ 6) 
    (k1 : T (D + 3) 100 (0, [(0, zr 64), (1, zi (x : Int)), (2, zi h), (3, zi f)], [], m) (fun r m1 => T (D + 4) 99 (47, [(0, zr 64), (2, zi (x : Int))], r.toList ++ [zi (x : Int), zr 70], m1) κ)) :
    T (D + 4) 99 (44, lo, [zi f, zi h, zi (x : Int), zr 64, zi (x : Int), zr 70], m) κ := by
  exact zb99_44r hT hlo
    k1
theorem zb99_47r (hT : zRules T) {D : Nat} {κ : Option zA → zM → Prop} {m : zM} {x : Nat} {h : Int} {v : Int} {lo : zL} (hlo : z_keep [0, 2] lo = [(0, zr 64), (2, zi (x : Int))]) 
    (o1 : (0 ≤ wr (x : Int) ∧ wr (x : Int) < 128))
    (o2 : T (D + 4) 99 (20, [(0, zr 64), (2, zi ((x : Int) + (-1)))], [], (zu m 70 ((wr (x : Int)).toNat) v)) κ) :
    T (D + 4) 99 (47, lo, [zi v, zi (x : Int), zr 70], m) κ :=
  zkeep hT hlo (hT.1 [(20, [0, 2]), (58, [0, 2, 3])] 6 (D + 4) 99 _ κ (And.intro (And.intro (o1) trivial) (o2)))
theorem zb99_47 (hT : zRules T) {D : Nat} {κ : Option zA → zM → Prop} {m : zM} {x : Nat} {h : Int} {v : Int} {lo : zL} (hlo : z_keep [0, 2] lo = [(0, zr 64), (2, zi (x : Int))])  (hB : zB m) (h_x : x ≤ 126) (h_h : 0 ≤ h ∧ h ≤ 140) (h_v : (-2147483648) ≤ v ∧ v ≤ 2147483647) 
    (k1 : zB (zu m 70 x v) → T (D + 4) 99 (20, [(0, zr 64), (2, zi ((x : Int) + (-1)))], [], (zu m 70 x v)) κ) :
    T (D + 4) 99 (47, lo, [zi v, zi (x : Int), zr 70], m) κ := by
  have he0 : wr (x : Int) = (x : Int) := wr_id (by omega) (by omega)
  have he1 : (x : Int).toNat = x := by omega
  have key := @zb99_47r T hT D κ m x h v lo hlo
  simp only [he0, he1, Int.toNat_natCast] at key
  exact key
    (by refine ⟨?_, ?_⟩ <;> omega)
    (k1  (zB_u hB trivial))
theorem zb99_58r (hT : zRules T) {D : Nat} {κ : Option zA → zM → Prop} {m : zM} {x : Nat} {i : Nat} {lo : zL} (hlo : z_keep [0, 2, 3] lo = [(0, zr 64), (2, zi (x : Int)), (3, zi (i : Int))]) 
    (o1 : ¬ wr (i : Int) < wr (m 64 2) → κ (some (zi (wr (m 70 0)))) m)
    (o2 : wr (i : Int) < wr (m 64 2) → T (D + 3) 98 (0, [(0, zr 64), (1, zi (x : Int))], [], m) (fun r m1 => T (D + 4) 99 (78, [(0, zr 64), (2, zi (x : Int)), (3, zi (i : Int))], r.toList ++ [zi (x : Int), zr 64, zi (i : Int), zr 67], m1) κ)) :
    T (D + 4) 99 (58, lo, [], m) κ :=
  zkeep hT hlo (hT.1 [(20, [0, 2]), (58, [0, 2, 3])] 6 (D + 4) 99 _ κ (And.intro (fun a1 => (hT.1 [(20, [0, 2]), (58, [0, 2, 3])] 6 (D + 4) 99 (103, [(0, zr 64), (2, zi (x : Int)), (3, zi (i : Int))], [zr 70], m) _ (And.intro (z_ixL rfl) (o1 a1)))) (fun a2 => (hT.1 [(20, [0, 2]), (58, [0, 2, 3])] 6 (D + 4) 99 (70, [(0, zr 64), (2, zi (x : Int)), (3, zi (i : Int))], [zr 67], m) _ (o2 (Classical.byContradiction a2))))))
theorem zb99_58 (hT : zRules T) {D : Nat} {κ : Option zA → zM → Prop} {m : zM} {x : Nat} {i : Nat} {lo : zL} (hlo : z_keep [0, 2, 3] lo = [(0, zr 64), (2, zi (x : Int)), (3, zi (i : Int))])  (hB : zB m) (h_x : x ≤ 127) (h_i : i ≤ 7) 
    (k1 : ¬ (i : Int) < (m 64 2) → κ (some (zi (wr (m 70 0)))) m)
    (k2 : (i : Int) < (m 64 2) → T (D + 3) 98 (0, [(0, zr 64), (1, zi (x : Int))], [], m) (fun r m1 => T (D + 4) 99 (78, [(0, zr 64), (2, zi (x : Int)), (3, zi (i : Int))], r.toList ++ [zi (x : Int), zr 64, zi (i : Int), zr 67], m1) κ)) :
    T (D + 4) 99 (58, lo, [], m) κ := by
  have hb2 : 0 ≤ (m 64 2) ∧ (m 64 2) ≤ 7 := hB 64 2
  have hb3 : (-2147483648) ≤ wr (m 70 0) ∧ wr (m 70 0) ≤ 2147483647 := wrB (m 70 0)
  have he0 : wr (i : Int) = (i : Int) := wr_id (by omega) (by omega)
  have he1 : wr (m 64 2) = (m 64 2) := wr_id (by omega) (by omega)
  have key := @zb99_58r T hT D κ m x i lo hlo
  simp only [he0, he1, Int.toNat_natCast] at key
  exact key
    k1
    k2
theorem zb99_78r (hT : zRules T) {D : Nat} {κ : Option zA → zM → Prop} {m : zM} {x : Nat} {i : Nat} {h : Int} {lo : zL} (hlo : z_keep [0, 2, 3] lo = [(0, zr 64), (2, zi (x : Int)), (3, zi (i : Int))]) 
    (o1 : T (D + 3) 101 (0, [(0, zr 64), (1, zi (x : Int)), (2, zi h)], [], m) (fun r m1 => T (D + 4) 99 (81, [(0, zr 64), (2, zi (x : Int)), (3, zi (i : Int))], r.toList ++ [zi (i : Int), zr 67], m1) κ)) :
    T (D + 4) 99 (78, lo, [zi h, zi (x : Int), zr 64, zi (i : Int), zr 67], m) κ :=
  zkeep hT hlo (hT.1 [(20, [0, 2]), (58, [0, 2, 3])] 6 (D + 4) 99 _ κ (o1))
theorem zb99_78 (hT : zRules T) {D : Nat} {κ : Option zA → zM → Prop} {m : zM} {x : Nat} {i : Nat} {h : Int} {lo : zL} (hlo : z_keep [0, 2, 3] lo = [(0, zr 64), (2, zi (x : Int)), (3, zi (i : Int))])  (hB : zB m) (h_x : x ≤ 127) (h_i : i ≤ 6) (h_h : 0 ≤ h ∧ h ≤ 140) 
    (k1 : T (D + 3) 101 (0, [(0, zr 64), (1, zi (x : Int)), (2, zi h)], [], m) (fun r m1 => T (D + 4) 99 (81, [(0, zr 64), (2, zi (x : Int)), (3, zi (i : Int))], r.toList ++ [zi (i : Int), zr 67], m1) κ)) :
    T (D + 4) 99 (78, lo, [zi h, zi (x : Int), zr 64, zi (i : Int), zr 67], m) κ := by
  exact zb99_78r hT hlo
    k1
theorem zb99_81r (hT : zRules T) {D : Nat} {κ : Option zA → zM → Prop} {m : zM} {x : Nat} {i : Nat} {g : Nat} {lo : zL} (hlo : z_keep [0, 2, 3] lo = [(0, zr 64), (2, zi (x : Int)), (3, zi (i : Int))]) 
    (o1 : (0 ≤ wr (i : Int) ∧ wr (i : Int) < 7))
    (o2 : (0 ≤ wr (i : Int) ∧ wr (i : Int) < 7))
    (o3 : T (D + 4) 99 (58, [(0, zr 64), (2, zi (z_or (x : Int) (z_shl 1 ((zu m 67 ((wr (i : Int)).toNat) (g : Int)) 67 ((wr (i : Int)).toNat))))), (3, zi ((i : Int) + 1))], [], (zu m 67 ((wr (i : Int)).toNat) (g : Int))) κ) :
    T (D + 4) 99 (81, lo, [zi (g : Int), zi (i : Int), zr 67], m) κ :=
  zkeep hT hlo (hT.1 [(20, [0, 2]), (58, [0, 2, 3])] 6 (D + 4) 99 _ κ (And.intro (And.intro (o1) trivial) (hT.1 [(20, [0, 2]), (58, [0, 2, 3])] 6 (D + 4) 99 (89, [(0, zr 64), (2, zi (x : Int)), (3, zi (i : Int))], [zi (i : Int), zr 67, zi 1, zi (x : Int)], (zu m 67 ((wr (i : Int)).toNat) (g : Int))) _ (And.intro (o2) (o3)))))
theorem zb99_81 (hT : zRules T) {D : Nat} {κ : Option zA → zM → Prop} {m : zM} {x : Nat} {i : Nat} {g : Nat} {lo : zL} (hlo : z_keep [0, 2, 3] lo = [(0, zr 64), (2, zi (x : Int)), (3, zi (i : Int))])  (hB : zB m) (h_x : x ≤ 127) (h_i : i ≤ 6) (h_g : g ≤ 6) 
    (k1 : zB (zu m 67 i (g : Int)) → T (D + 4) 99 (58, [(0, zr 64), (2, zi (z_or (x : Int) (z_shl 1 (g : Int)))), (3, zi ((i : Int) + 1))], [], (zu m 67 i (g : Int))) κ) :
    T (D + 4) 99 (81, lo, [zi (g : Int), zi (i : Int), zr 67], m) κ := by
  have hb3 : (-2147483648) ≤ (z_shl 1 (g : Int)) ∧ (z_shl 1 (g : Int)) ≤ 2147483647 := z_shlB 1 (g : Int)
  have hb4 : (-2147483648) ≤ (z_or (x : Int) (z_shl 1 (g : Int))) ∧ (z_or (x : Int) (z_shl 1 (g : Int))) ≤ 2147483647 := z_orB (x : Int) (z_shl 1 (g : Int))
  have he0 : wr (i : Int) = (i : Int) := wr_id (by omega) (by omega)
  have he1 : (i : Int).toNat = i := by omega
  have he2 : ((zu m 67 i (g : Int)) 67 i) = (g : Int) := (zu_sm (by omega))
  have key := @zb99_81r T hT D κ m x i g lo hlo
  simp only [he0, he1, he2, Int.toNat_natCast] at key
  exact key
    (by refine ⟨?_, ?_⟩ <;> omega)
    (by refine ⟨?_, ?_⟩ <;> omega)
    (k1  (zB_u hB trivial))
theorem zb101_0r (hT : zRules T) {D : Nat} {κ : Option zA → zM → Prop} {m : zM} {x : Nat} {h : Int} 
    (o1 : T (D + 3) 101 (8, [(0, zr 64), (1, zi (x : Int)), (2, zi h), (3, zi (-1)), (4, zi 0), (5, zi 0)], [], m) κ) :
    T (D + 3) 101 (0, [(0, zr 64), (1, zi (x : Int)), (2, zi h)], [], m) κ :=
  hT.1 [(8, [0, 1, 2, 3, 4, 5])] 6 (D + 3) 101 _ κ (o1)
theorem zb101_0 (hT : zRules T) {D : Nat} {κ : Option zA → zM → Prop} {m : zM} {x : Nat} {h : Int}  (hB : zB m) (h_x : x ≤ 127) (h_h : 0 ≤ h ∧ h ≤ 140) 
    (k1 : T (D + 3) 101 (8, [(0, zr 64), (1, zi (x : Int)), (2, zi h), (3, zi (-1)), (4, zi 0), (5, zi 0)], [], m) κ) :
    T (D + 3) 101 (0, [(0, zr 64), (1, zi (x : Int)), (2, zi h)], [], m) κ := by
  exact zb101_0r hT
    k1
theorem zb101_8r (hT : zRules T) {D : Nat} {κ : Option zA → zM → Prop} {m : zM} {x : Nat} {h : Int} {f : Int} {b : Int} {i : Nat} {lo : zL} (hlo : z_keep [0, 1, 2, 3, 4, 5] lo = [(0, zr 64), (1, zi (x : Int)), (2, zi h), (3, zi f), (4, zi b), (5, zi (i : Int))]) 
    (o1 : ¬ wr (i : Int) < wr (m 64 2) → κ (some (zi (wr f))) m)
    (o2 : wr (i : Int) < wr (m 64 2) → ¬ wr (z_and (z_shr (x : Int) (i : Int)) 1) = 0 → T (D + 3) 101 (8, [(0, zr 64), (1, zi (x : Int)), (2, zi h), (3, zi f), (4, zi b), (5, zi ((i : Int) + 1))], [], m) κ)
    (o3 : wr (i : Int) < wr (m 64 2) → wr (z_and (z_shr (x : Int) (i : Int)) 1) = 0 → T (D + 2) 100 (0, [(0, zr 64), (1, zi (x : Int)), (2, zi h), (3, zi (i : Int))], [], m) (fun r m1 => T (D + 3) 101 (34, [(0, zr 64), (1, zi (x : Int)), (2, zi h), (3, zi f), (4, zi b), (5, zi (i : Int))], r.toList ++ [], m1) κ)) :
    T (D + 3) 101 (8, lo, [], m) κ :=
  zkeep hT hlo (hT.1 [(8, [0, 1, 2, 3, 4, 5])] 6 (D + 3) 101 _ κ (And.intro (fun a1 => (o1 a1)) (fun a2 => (hT.1 [(8, [0, 1, 2, 3, 4, 5])] 6 (D + 3) 101 (20, [(0, zr 64), (1, zi (x : Int)), (2, zi h), (3, zi f), (4, zi b), (5, zi (i : Int))], [zi (i : Int), zi (x : Int)], m) _ (And.intro (fun a3 => (o2 (Classical.byContradiction a2) a3)) (fun a4 => (hT.1 [(8, [0, 1, 2, 3, 4, 5])] 6 (D + 3) 101 (28, [(0, zr 64), (1, zi (x : Int)), (2, zi h), (3, zi f), (4, zi b), (5, zi (i : Int))], [zi (x : Int), zr 64], m) _ (o3 (Classical.byContradiction a2) (Classical.byContradiction a4)))))))))
theorem zb101_8 (hT : zRules T) {D : Nat} {κ : Option zA → zM → Prop} {m : zM} {x : Nat} {h : Int} {f : Int} {b : Int} {i : Nat} {lo : zL} (hlo : z_keep [0, 1, 2, 3, 4, 5] lo = [(0, zr 64), (1, zi (x : Int)), (2, zi h), (3, zi f), (4, zi b), (5, zi (i : Int))])  (hB : zB m) (h_x : x ≤ 127) (h_h : 0 ≤ h ∧ h ≤ 140) (h_f : (-1) ≤ f ∧ f ≤ 6) (h_b : (-2147483648) ≤ b ∧ b ≤ 2147483647) (h_i : i ≤ 7) 
    (k1 : ¬ (i : Int) < (m 64 2) → κ (some (zi f)) m)
    (k2 : (i : Int) < (m 64 2) → ¬ (z_and (z_shr (x : Int) (i : Int)) 1) = 0 → T (D + 3) 101 (8, [(0, zr 64), (1, zi (x : Int)), (2, zi h), (3, zi f), (4, zi b), (5, zi ((i : Int) + 1))], [], m) κ)
    (k3 : (i : Int) < (m 64 2) → (z_and (z_shr (x : Int) (i : Int)) 1) = 0 → T (D + 2) 100 (0, [(0, zr 64), (1, zi (x : Int)), (2, zi h), (3, zi (i : Int))], [], m) (fun r m1 => T (D + 3) 101 (34, [(0, zr 64), (1, zi (x : Int)), (2, zi h), (3, zi f), (4, zi b), (5, zi (i : Int))], r.toList ++ [], m1) κ)) :
    T (D + 3) 101 (8, lo, [], m) κ := by
  have hb5 : 0 ≤ (m 64 2) ∧ (m 64 2) ≤ 7 := hB 64 2
  have hb6 : (-2147483648) ≤ (z_shr (x : Int) (i : Int)) ∧ (z_shr (x : Int) (i : Int)) ≤ 2147483647 := z_shrB (x : Int) (i : Int)
  have hb7 : 0 ≤ (z_and (z_shr (x : Int) (i : Int)) 1) ∧ (z_and (z_shr (x : Int) (i : Int)) 1) ≤ 1 := z_andC (z_shr (x : Int) (i : Int)) 1 (by decide)
  have he0 : wr (i : Int) = (i : Int) := wr_id (by omega) (by omega)
  have he1 : wr (m 64 2) = (m 64 2) := wr_id (by omega) (by omega)
  have he2 : wr (z_and (z_shr (x : Int) (i : Int)) 1) = (z_and (z_shr (x : Int) (i : Int)) 1) := wr_id (by omega) (by omega)
  have he3 : wr f = f := wr_id (by omega) (by omega)
  have key := @zb101_8r T hT D κ m x h f b i lo hlo
  simp only [he0, he1, he2, he3, Int.toNat_natCast] at key
  exact key
    k1
    k2
    k3
theorem zb101_34r (hT : zRules T) {D : Nat} {κ : Option zA → zM → Prop} {m : zM} {x : Nat} {h : Int} {f : Int} {b : Int} {i : Nat} {v : Int} {lo : zL} (hlo : z_keep [0, 1, 2, 3, 4, 5] lo = [(0, zr 64), (1, zi (x : Int)), (2, zi h), (3, zi f), (4, zi b), (5, zi (i : Int))]) 
    (o1 : wr f = (-1) → T (D + 3) 101 (8, [(0, zr 64), (1, zi (x : Int)), (2, zi h), (3, zi (i : Int)), (4, zi v), (5, zi ((i : Int) + 1))], [], m) κ)
    (o2 : ¬ wr f = (-1) → ¬ wr v < wr b → T (D + 3) 101 (8, [(0, zr 64), (1, zi (x : Int)), (2, zi h), (3, zi f), (4, zi b), (5, zi ((i : Int) + 1))], [], m) κ)
    (o3 : ¬ wr f = (-1) → wr v < wr b → T (D + 3) 101 (8, [(0, zr 64), (1, zi (x : Int)), (2, zi h), (3, zi (i : Int)), (4, zi v), (5, zi ((i : Int) + 1))], [], m) κ) :
    T (D + 3) 101 (34, lo, [zi v], m) κ :=
  zkeep hT hlo (hT.1 [(8, [0, 1, 2, 3, 4, 5])] 6 (D + 3) 101 _ κ (And.intro (fun a1 => (hT.1 [(8, [0, 1, 2, 3, 4, 5])] 6 (D + 3) 101 (51, [(0, zr 64), (1, zi (x : Int)), (2, zi h), (3, zi (i : Int)), (4, zi b), (5, zi (i : Int)), (6, zi v)], [], m) _ (o1 a1))) (fun a2 => (hT.1 [(8, [0, 1, 2, 3, 4, 5])] 6 (D + 3) 101 (45, [(0, zr 64), (1, zi (x : Int)), (2, zi h), (3, zi f), (4, zi b), (5, zi (i : Int)), (6, zi v)], [zi b, zi v], m) _ (And.intro (fun a3 => (o2 a2 a3)) (fun a4 => (hT.1 [(8, [0, 1, 2, 3, 4, 5])] 6 (D + 3) 101 (58, [(0, zr 64), (1, zi (x : Int)), (2, zi h), (3, zi (i : Int)), (4, zi v), (5, zi ((i : Int) + 1)), (6, zi v)], [], m) _ (o3 a2 (Classical.byContradiction a4)))))))))
theorem zb101_34 (hT : zRules T) {D : Nat} {κ : Option zA → zM → Prop} {m : zM} {x : Nat} {h : Int} {f : Int} {b : Int} {i : Nat} {v : Int} {lo : zL} (hlo : z_keep [0, 1, 2, 3, 4, 5] lo = [(0, zr 64), (1, zi (x : Int)), (2, zi h), (3, zi f), (4, zi b), (5, zi (i : Int))])  (hB : zB m) (h_x : x ≤ 127) (h_h : 0 ≤ h ∧ h ≤ 140) (h_f : (-1) ≤ f ∧ f ≤ 6) (h_b : (-2147483648) ≤ b ∧ b ≤ 2147483647) (h_i : i ≤ 6) (h_v : (-2147483648) ≤ v ∧ v ≤ 2147483647) 
    (k1 : f = (-1) → T (D + 3) 101 (8, [(0, zr 64), (1, zi (x : Int)), (2, zi h), (3, zi (i : Int)), (4, zi v), (5, zi ((i : Int) + 1))], [], m) κ)
    (k2 : ¬ f = (-1) → ¬ v < b → T (D + 3) 101 (8, [(0, zr 64), (1, zi (x : Int)), (2, zi h), (3, zi f), (4, zi b), (5, zi ((i : Int) + 1))], [], m) κ)
    (k3 : ¬ f = (-1) → v < b → T (D + 3) 101 (8, [(0, zr 64), (1, zi (x : Int)), (2, zi h), (3, zi (i : Int)), (4, zi v), (5, zi ((i : Int) + 1))], [], m) κ) :
    T (D + 3) 101 (34, lo, [zi v], m) κ := by
  have he0 : wr f = f := wr_id (by omega) (by omega)
  have he1 : wr v = v := wr_id (by omega) (by omega)
  have he2 : wr b = b := wr_id (by omega) (by omega)
  have key := @zb101_34r T hT D κ m x h f b i v lo hlo
  simp only [he0, he1, he2, Int.toNat_natCast] at key
  exact key
    k1
    k2
    k3
theorem zb100_0r (hT : zRules T) {D : Nat} {κ : Option zA → zM → Prop} {m : zM} {x : Nat} {h : Int} {f : Int} 
    (o1 : wr f < 0 → κ (some (zi 0)) m)
    (o2 : ¬ wr f < 0 → wr f < wr (m 64 2) → (0 ≤ wr f ∧ wr f < 7))
    (o3 : ¬ wr f < 0 → wr f < wr (m 64 2) → (0 ≤ wr f ∧ wr f < 7))
    (o4 : ¬ wr f < 0 → wr f < wr (m 64 2) → 0 < wr ((h + (m 65 ((wr f).toNat))) - (m 66 ((wr f).toNat))) → (0 ≤ wr (z_or (x : Int) (z_shl 1 f)) ∧ wr (z_or (x : Int) (z_shl 1 f)) < 128))
    (o5 : ¬ wr f < 0 → wr f < wr (m 64 2) → 0 < wr ((h + (m 65 ((wr f).toNat))) - (m 66 ((wr f).toNat))) → κ (some (zi (wr (wr ((h + (m 65 ((wr f).toNat))) - (m 66 ((wr f).toNat))) + (m 70 ((wr (z_or (x : Int) (z_shl 1 f))).toNat)))))) m)
    (o6 : ¬ wr f < 0 → wr f < wr (m 64 2) → ¬ 0 < wr ((h + (m 65 ((wr f).toNat))) - (m 66 ((wr f).toNat))) → (0 ≤ wr (z_or (x : Int) (z_shl 1 f)) ∧ wr (z_or (x : Int) (z_shl 1 f)) < 128))
    (o7 : ¬ wr f < 0 → wr f < wr (m 64 2) → ¬ 0 < wr ((h + (m 65 ((wr f).toNat))) - (m 66 ((wr f).toNat))) → κ (some (zi (wr (0 + (m 70 ((wr (z_or (x : Int) (z_shl 1 f))).toNat)))))) m)
    (o8 : ¬ wr f < 0 → ¬ wr f < wr (m 64 2) → κ (some (zi 0)) m) :
    T (D + 2) 100 (0, [(0, zr 64), (1, zi (x : Int)), (2, zi h), (3, zi f)], [], m) κ :=
  hT.1 [] 6 (D + 2) 100 _ κ (And.intro (fun a1 => (o1 a1)) (fun a2 => (And.intro (fun a3 => (hT.1 [] 6 (D + 2) 100 (14, [(0, zr 64), (1, zi (x : Int)), (2, zi h), (3, zi f)], [], m) _ (And.intro (o2 a2 a3) (hT.1 [] 6 (D + 2) 100 (22, [(0, zr 64), (1, zi (x : Int)), (2, zi h), (3, zi f)], [zi (m 65 ((wr f).toNat)), zi h, zi 0], m) _ (And.intro (o3 a2 a3) (hT.1 [] 6 (D + 2) 100 (30, [(0, zr 64), (1, zi (x : Int)), (2, zi h), (3, zi f)], [zi ((h + (m 65 ((wr f).toNat))) - (m 66 ((wr f).toNat))), zi 0], m) _ (hT.1 [] 6 (D + 1) 295 _ _ (And.intro (fun a5 => (hT.1 [] 6 (D + 2) 100 _ _ (hT.1 [] 6 (D + 2) 100 (41, [(0, zr 64), (1, zi (x : Int)), (2, zi h), (3, zi f)], [zi (z_shl 1 f), zi (x : Int), zr 70, zi (wr ((h + (m 65 ((wr f).toNat))) - (m 66 ((wr f).toNat))))], m) _ (And.intro (o4 a2 a3 a5) (o5 a2 a3 a5))))) (fun a6 => (hT.1 [] 6 (D + 2) 100 _ _ (hT.1 [] 6 (D + 2) 100 (41, [(0, zr 64), (1, zi (x : Int)), (2, zi h), (3, zi f)], [zi (z_shl 1 f), zi (x : Int), zr 70, zi 0], m) _ (And.intro (o6 a2 a3 a6) (o7 a2 a3 a6))))))))))))) (fun a4 => (hT.1 [] 6 (D + 2) 100 (12, [(0, zr 64), (1, zi (x : Int)), (2, zi h), (3, zi f)], [], m) _ (o8 a2 a4))))))
theorem zb100_0 (hT : zRules T) {D : Nat} {κ : Option zA → zM → Prop} {m : zM} {x : Nat} {h : Int} {f : Int}  (hB : zB m) (h_x : x ≤ 127) (h_h : 0 ≤ h ∧ h ≤ 140) (h_f : (-1) ≤ f ∧ f ≤ 6) 
    (k1 : f < 0 → κ (some (zi 0)) m)
    (k2 : ¬ f < 0 → f < (m 64 2) → 0 < ((h + (m 65 (f.toNat))) - (m 66 (f.toNat))) → (0 ≤ (z_or (x : Int) (z_shl 1 f)) ∧ (z_or (x : Int) (z_shl 1 f)) < 128))
    (k3 : ¬ f < 0 → f < (m 64 2) → 0 < ((h + (m 65 (f.toNat))) - (m 66 (f.toNat))) → κ (some (zi (wr (((h + (m 65 (f.toNat))) - (m 66 (f.toNat))) + (m 70 ((z_or (x : Int) (z_shl 1 f)).toNat)))))) m)
    (k4 : ¬ f < 0 → f < (m 64 2) → ¬ 0 < ((h + (m 65 (f.toNat))) - (m 66 (f.toNat))) → (0 ≤ (z_or (x : Int) (z_shl 1 f)) ∧ (z_or (x : Int) (z_shl 1 f)) < 128))
    (k5 : ¬ f < 0 → f < (m 64 2) → ¬ 0 < ((h + (m 65 (f.toNat))) - (m 66 (f.toNat))) → κ (some (zi (wr (0 + (m 70 ((z_or (x : Int) (z_shl 1 f)).toNat)))))) m)
    (k6 : ¬ f < 0 → ¬ f < (m 64 2) → κ (some (zi 0)) m) :
    T (D + 2) 100 (0, [(0, zr 64), (1, zi (x : Int)), (2, zi h), (3, zi f)], [], m) κ := by
  have hb3 : 0 ≤ (m 64 2) ∧ (m 64 2) ≤ 7 := hB 64 2
  have hb4 : 0 ≤ (m 65 (f.toNat)) ∧ (m 65 (f.toNat)) ≤ 20 := hB 65 (f.toNat)
  have hb5 : 0 ≤ (m 66 (f.toNat)) ∧ (m 66 (f.toNat)) ≤ 99 := hB 66 (f.toNat)
  have hb6 : (-2147483648) ≤ (z_shl 1 f) ∧ (z_shl 1 f) ≤ 2147483647 := z_shlB 1 f
  have hb7 : (-2147483648) ≤ (z_or (x : Int) (z_shl 1 f)) ∧ (z_or (x : Int) (z_shl 1 f)) ≤ 2147483647 := z_orB (x : Int) (z_shl 1 f)
  have hb8 : (-2147483648) ≤ wr (((h + (m 65 (f.toNat))) - (m 66 (f.toNat))) + (m 70 ((z_or (x : Int) (z_shl 1 f)).toNat))) ∧ wr (((h + (m 65 (f.toNat))) - (m 66 (f.toNat))) + (m 70 ((z_or (x : Int) (z_shl 1 f)).toNat))) ≤ 2147483647 := wrB (((h + (m 65 (f.toNat))) - (m 66 (f.toNat))) + (m 70 ((z_or (x : Int) (z_shl 1 f)).toNat)))
  have hb9 : (-2147483648) ≤ wr (0 + (m 70 ((z_or (x : Int) (z_shl 1 f)).toNat))) ∧ wr (0 + (m 70 ((z_or (x : Int) (z_shl 1 f)).toNat))) ≤ 2147483647 := wrB (0 + (m 70 ((z_or (x : Int) (z_shl 1 f)).toNat)))
  have he0 : wr f = f := wr_id (by omega) (by omega)
  have he1 : wr (m 64 2) = (m 64 2) := wr_id (by omega) (by omega)
  have he2 : wr ((h + (m 65 (f.toNat))) - (m 66 (f.toNat))) = ((h + (m 65 (f.toNat))) - (m 66 (f.toNat))) := wr_id (by omega) (by omega)
  have he3 : wr (z_or (x : Int) (z_shl 1 f)) = (z_or (x : Int) (z_shl 1 f)) := wr_id (by omega) (by omega)
  have key := @zb100_0r T hT D κ m x h f
  simp only [he0, he1, he2, he3, Int.toNat_natCast] at key
  exact key
    k1
    (fun x0 x1 => by refine ⟨?_, ?_⟩ <;> omega)
    (fun x0 x1 => by refine ⟨?_, ?_⟩ <;> omega)
    k2
    k3
    k4
    k5
    k6
theorem zb281_0r (hT : zRules T) {D : Nat} {κ : Option zA → zM → Prop} {m : zM} 
    (o1 : T (D + 1) 280 (0, [(0, zr 74), (1, zi 0), (2, zi 0), (3, zi 0), (4, zi 0)], [], (zu (zu m 74 12 0) 74 57 100000000)) (fun r m1 => T (D + 2) 281 (20, [(0, zr 74)], r.toList ++ [], m1) κ)) :
    T (D + 2) 281 (0, [(0, zr 74)], [], m) κ :=
  hT.1 [(27, [0, 1])] 6 (D + 2) 281 _ κ (And.intro trivial (And.intro trivial (hT.1 [(27, [0, 1])] 6 (D + 2) 281 (12, [(0, zr 74)], [], (zu (zu m 74 12 0) 74 57 100000000)) _ (o1))))
theorem zb281_0 (hT : zRules T) {D : Nat} {κ : Option zA → zM → Prop} {m : zM}  (hB : zB m) 
    (k1 : zB (zu (zu m 74 12 0) 74 57 100000000) → T (D + 1) 280 (0, [(0, zr 74), (1, zi 0), (2, zi 0), (3, zi 0), (4, zi 0)], [], (zu (zu m 74 12 0) 74 57 100000000)) (fun r m1 => T (D + 2) 281 (20, [(0, zr 74)], r.toList ++ [], m1) κ)) :
    T (D + 2) 281 (0, [(0, zr 74)], [], m) κ := by
  exact zb281_0r hT
    (k1  (zB_u (zB_u hB trivial) trivial))
theorem zb281_20r (hT : zRules T) {D : Nat} {κ : Option zA → zM → Prop} {m : zM} {lo : zL} (hlo : z_keep [0] lo = [(0, zr 74)]) 
    (o1 : T (D + 2) 281 (27, [(0, zr 74), (1, zi 0)], [], (zu m 74 11 0)) κ) :
    T (D + 2) 281 (20, lo, [], m) κ :=
  zkeep hT hlo (hT.1 [(27, [0, 1])] 6 (D + 2) 281 _ κ (And.intro trivial (o1)))
theorem zb281_20 (hT : zRules T) {D : Nat} {κ : Option zA → zM → Prop} {m : zM} {lo : zL} (hlo : z_keep [0] lo = [(0, zr 74)])  (hB : zB m) 
    (k1 : zB (zu m 74 11 0) → T (D + 2) 281 (27, [(0, zr 74), (1, zi 0)], [], (zu m 74 11 0)) κ) :
    T (D + 2) 281 (20, lo, [], m) κ := by
  exact zb281_20r hT hlo
    (k1  (zB_u hB (show 0 ≤ 0 ∧ 0 ≤ 32 from ⟨by omega, by omega⟩)))
theorem zb281_27r (hT : zRules T) {D : Nat} {κ : Option zA → zM → Prop} {m : zM} {i : Nat} {lo : zL} (hlo : z_keep [0, 1] lo = [(0, zr 74), (1, zi (i : Int))]) 
    (o1 : ¬ wr (i : Int) < wr (m 74 54) → κ (some (zi (wr (m 74 57)))) m)
    (o2 : wr (i : Int) < wr (m 74 54) → (0 ≤ wr (i : Int) ∧ wr (i : Int) < 7))
    (o3 : wr (i : Int) < wr (m 74 54) → (0 ≤ wr (m 74 11) ∧ wr (m 74 11) < 32))
    (o4 : wr (i : Int) < wr (m 74 54) → T (D + 2) 281 (27, [(0, zr 74), (1, zi ((i : Int) + 1))], [], (zu (zu m 81 ((wr (m 74 11)).toNat) (m 102 ((wr (i : Int)).toNat))) 74 11 ((m 74 11) + 1))) κ) :
    T (D + 2) 281 (27, lo, [], m) κ :=
  zkeep hT hlo (hT.1 [(27, [0, 1])] 6 (D + 2) 281 _ κ (And.intro (fun a1 => (hT.1 [(27, [0, 1])] 6 (D + 2) 281 (55, [(0, zr 74), (1, zi (i : Int))], [zi (m 74 57)], m) _ (o1 a1))) (fun a2 => (hT.1 [(27, [0, 1])] 6 (D + 2) 281 (37, [(0, zr 74), (1, zi (i : Int))], [zr 74, zr 74], m) _ (And.intro (o2 (Classical.byContradiction a2)) (hT.1 [] 6 (D + 1) 189 _ _ (And.intro (And.intro (o3 (Classical.byContradiction a2)) trivial) (hT.1 [] 6 (D + 1) 189 (10, [(0, zr 74), (1, zi (m 102 ((wr (i : Int)).toNat)))], [], (zu m 81 ((wr (m 74 11)).toNat) (m 102 ((wr (i : Int)).toNat)))) _ (And.intro trivial (hT.1 [] 6 (D + 1) 189 (20, [(0, zr 74), (1, zi (m 102 ((wr (i : Int)).toNat)))], [], (zu (zu m 81 ((wr (m 74 11)).toNat) (m 102 ((wr (i : Int)).toNat))) 74 11 ((m 74 11) + 1))) _ (hT.1 [(27, [0, 1])] 6 (D + 2) 281 _ _ (o4 (Classical.byContradiction a2)))))))))))))
theorem zb281_27 (hT : zRules T) {D : Nat} {κ : Option zA → zM → Prop} {m : zM} {i : Nat} {lo : zL} (hlo : z_keep [0, 1] lo = [(0, zr 74), (1, zi (i : Int))])  (hB : zB m) (h_i : i ≤ 7) 
    (k1 : ¬ (i : Int) < (m 74 54) → κ (some (zi (wr (m 74 57)))) m)
    (k2 : (i : Int) < (m 74 54) → (0 ≤ (m 74 11) ∧ (m 74 11) < 32))
    (k3 : (i : Int) < (m 74 54) → T (D + 2) 281 (27, [(0, zr 74), (1, zi ((i : Int) + 1))], [], (zu (zu m 81 ((m 74 11).toNat) (m 102 i)) 74 11 ((m 74 11) + 1))) κ) :
    T (D + 2) 281 (27, lo, [], m) κ := by
  have hb1 : 0 ≤ (m 74 54) ∧ (m 74 54) ≤ 7 := hB 74 54
  have hb2 : 0 ≤ (m 74 11) ∧ (m 74 11) ≤ 32 := hB 74 11
  have hb3 : (-2147483648) ≤ wr (m 74 57) ∧ wr (m 74 57) ≤ 2147483647 := wrB (m 74 57)
  have he0 : wr (i : Int) = (i : Int) := wr_id (by omega) (by omega)
  have he1 : wr (m 74 54) = (m 74 54) := wr_id (by omega) (by omega)
  have he2 : (i : Int).toNat = i := by omega
  have he3 : wr (m 74 11) = (m 74 11) := wr_id (by omega) (by omega)
  have key := @zb281_27r T hT D κ m i lo hlo
  simp only [he0, he1, he2, he3, Int.toNat_natCast] at key
  exact key
    k1
    (fun x0 => by refine ⟨?_, ?_⟩ <;> omega)
    k2
    k3
theorem zb280_0r (hT : zRules T) {D : Nat} {κ : Option zA → zM → Prop} {m : zM} {k : Nat} {x : Nat} {s : Int} {t : Int} 
    (o1 : wr t < wr (m 74 57) → ¬ wr (k : Int) = wr (m 74 54) → T (D + 1) 280 (57, [(0, zr 74), (1, zi (k : Int)), (2, zi (x : Int)), (3, zi s), (4, zi t), (5, zi 0)], [], m) κ)
    (o2 : wr t < wr (m 74 57) → wr (k : Int) = wr (m 74 54) → T (D + 1) 280 (27, [(0, zr 74), (1, zi (k : Int)), (5, zi 0)], [], (zu m 74 57 t)) κ)
    (o3 : ¬ wr t < wr (m 74 57) → κ (none) m) :
    T (D + 1) 280 (0, [(0, zr 74), (1, zi (k : Int)), (2, zi (x : Int)), (3, zi s), (4, zi t)], [], m) κ :=
  hT.1 [(27, [0, 1, 5]), (57, [0, 1, 2, 3, 4, 5])] 6 (D + 1) 280 _ κ (And.intro (fun a1 => (hT.1 [(27, [0, 1, 5]), (57, [0, 1, 2, 3, 4, 5])] 6 (D + 1) 280 (12, [(0, zr 74), (1, zi (k : Int)), (2, zi (x : Int)), (3, zi s), (4, zi t)], [zr 74, zi (k : Int)], m) _ (And.intro (fun a3 => (o1 a1 a3)) (fun a4 => (And.intro trivial (hT.1 [(27, [0, 1, 5]), (57, [0, 1, 2, 3, 4, 5])] 6 (D + 1) 280 (25, [(0, zr 74), (1, zi (k : Int)), (2, zi (x : Int)), (3, zi s), (4, zi t)], [zi 0], (zu m 74 57 t)) _ (o2 a1 (Classical.byContradiction a4)))))))) (fun a2 => (o3 a2)))
theorem zb280_0 (hT : zRules T) {D : Nat} {κ : Option zA → zM → Prop} {m : zM} {k : Nat} {x : Nat} {s : Int} {t : Int}  (hB : zB m) (h_k : k ≤ 7) (h_x : x ≤ 127) (h_s : 0 ≤ s ∧ s ≤ 700) (h_t : 0 ≤ t ∧ t ≤ 5000) 
    (k1 : t < wr (m 74 57) → ¬ (k : Int) = (m 74 54) → T (D + 1) 280 (57, [(0, zr 74), (1, zi (k : Int)), (2, zi (x : Int)), (3, zi s), (4, zi t), (5, zi 0)], [], m) κ)
    (k2 : t < wr (m 74 57) → (k : Int) = (m 74 54) → zB (zu m 74 57 t) → T (D + 1) 280 (27, [(0, zr 74), (1, zi (k : Int)), (5, zi 0)], [], (zu m 74 57 t)) κ)
    (k3 : ¬ t < wr (m 74 57) → κ (none) m) :
    T (D + 1) 280 (0, [(0, zr 74), (1, zi (k : Int)), (2, zi (x : Int)), (3, zi s), (4, zi t)], [], m) κ := by
  have hb4 : (-2147483648) ≤ wr (m 74 57) ∧ wr (m 74 57) ≤ 2147483647 := wrB (m 74 57)
  have hb5 : 0 ≤ (m 74 54) ∧ (m 74 54) ≤ 7 := hB 74 54
  have he0 : wr t = t := wr_id (by omega) (by omega)
  have he1 : wr (k : Int) = (k : Int) := wr_id (by omega) (by omega)
  have he2 : wr (m 74 54) = (m 74 54) := wr_id (by omega) (by omega)
  have key := @zb280_0r T hT D κ m k x s t
  simp only [he0, he1, he2, Int.toNat_natCast] at key
  exact key
    k1
    (fun x0 x1 => k2 x0 x1 (zB_u hB trivial))
    k3
theorem zb280_27r (hT : zRules T) {D : Nat} {κ : Option zA → zM → Prop} {m : zM} {k : Nat} {i : Nat} {lo : zL} (hlo : z_keep [0, 1, 5] lo = [(0, zr 74), (1, zi (k : Int)), (5, zi (i : Int))]) 
    (o1 : ¬ wr (i : Int) < wr (k : Int) → κ (none) m)
    (o2 : wr (i : Int) < wr (k : Int) → (0 ≤ wr (i : Int) ∧ wr (i : Int) < 7))
    (o3 : wr (i : Int) < wr (k : Int) → (0 ≤ wr (i : Int) ∧ wr (i : Int) < 7))
    (o4 : wr (i : Int) < wr (k : Int) → T (D + 1) 280 (27, [(0, zr 74), (1, zi (k : Int)), (5, zi ((i : Int) + 1))], [], (zu m 102 ((wr (i : Int)).toNat) (m 101 ((wr (i : Int)).toNat)))) κ) :
    T (D + 1) 280 (27, lo, [], m) κ :=
  zkeep hT hlo (hT.1 [(27, [0, 1, 5]), (57, [0, 1, 2, 3, 4, 5])] 6 (D + 1) 280 _ κ (And.intro (fun a1 => (o1 a1)) (fun a2 => (hT.1 [(27, [0, 1, 5]), (57, [0, 1, 2, 3, 4, 5])] 6 (D + 1) 280 (39, [(0, zr 74), (1, zi (k : Int)), (5, zi (i : Int))], [zi (i : Int), zr 102], m) _ (And.intro (o2 (Classical.byContradiction a2)) (And.intro (And.intro (o3 (Classical.byContradiction a2)) trivial) (hT.1 [(27, [0, 1, 5]), (57, [0, 1, 2, 3, 4, 5])] 6 (D + 1) 280 (50, [(0, zr 74), (1, zi (k : Int)), (5, zi ((i : Int) + 1))], [], (zu m 102 ((wr (i : Int)).toNat) (m 101 ((wr (i : Int)).toNat)))) _ (o4 (Classical.byContradiction a2)))))))))
theorem zb280_27 (hT : zRules T) {D : Nat} {κ : Option zA → zM → Prop} {m : zM} {k : Nat} {i : Nat} {lo : zL} (hlo : z_keep [0, 1, 5] lo = [(0, zr 74), (1, zi (k : Int)), (5, zi (i : Int))])  (hB : zB m) (h_k : k ≤ 7) (h_i : i ≤ 7) 
    (k1 : ¬ (i : Int) < (k : Int) → κ (none) m)
    (k2 : (i : Int) < (k : Int) → zB (zu m 102 i (m 101 i)) → T (D + 1) 280 (27, [(0, zr 74), (1, zi (k : Int)), (5, zi ((i : Int) + 1))], [], (zu m 102 i (m 101 i))) κ) :
    T (D + 1) 280 (27, lo, [], m) κ := by
  have he0 : wr (i : Int) = (i : Int) := wr_id (by omega) (by omega)
  have he1 : wr (k : Int) = (k : Int) := wr_id (by omega) (by omega)
  have he2 : (i : Int).toNat = i := by omega
  have key := @zb280_27r T hT D κ m k i lo hlo
  simp only [he0, he1, he2, Int.toNat_natCast] at key
  exact key
    k1
    (fun x0 => by refine ⟨?_, ?_⟩ <;> omega)
    (fun x0 => by refine ⟨?_, ?_⟩ <;> omega)
    (fun x0 => k2 x0 (zB_u hB trivial))
theorem zb280_57r (hT : zRules T) {D : Nat} {κ : Option zA → zM → Prop} {m : zM} {k : Nat} {x : Nat} {s : Int} {t : Int} {i : Nat} {lo : zL} (hlo : z_keep [0, 1, 2, 3, 4, 5] lo = [(0, zr 74), (1, zi (k : Int)), (2, zi (x : Int)), (3, zi s), (4, zi t), (5, zi (i : Int))]) 
    (o1 : ¬ wr (i : Int) < wr (m 74 54) → κ (none) m)
    (o2 : wr (i : Int) < wr (m 74 54) → ¬ wr (z_and (z_shr (x : Int) (i : Int)) 1) = 1 → (0 ≤ wr (k : Int) ∧ wr (k : Int) < 7))
    (o3 : wr (i : Int) < wr (m 74 54) → ¬ wr (z_and (z_shr (x : Int) (i : Int)) 1) = 1 → (0 ≤ wr (2 * (i : Int)) ∧ wr (2 * (i : Int)) < 14))
    (o4 : wr (i : Int) < wr (m 74 54) → ¬ wr (z_and (z_shr (x : Int) (i : Int)) 1) = 1 → (0 ≤ wr ((2 * (i : Int)) + 1) ∧ wr ((2 * (i : Int)) + 1) < 14))
    (o5 : wr (i : Int) < wr (m 74 54) → ¬ wr (z_and (z_shr (x : Int) (i : Int)) 1) = 1 → 0 < wr ((s + (m 100 ((wr (2 * (i : Int))).toNat))) - (m 100 ((wr ((2 * (i : Int)) + 1)).toNat))) → T D 280 (0, [(0, zr 74), (1, zi ((k : Int) + 1)), (2, zi (z_or (x : Int) (z_shl 1 (i : Int)))), (3, zi (s + (m 100 ((wr (2 * (i : Int))).toNat)))), (4, zi (t + wr ((s + (m 100 ((wr (2 * (i : Int))).toNat))) - (m 100 ((wr ((2 * (i : Int)) + 1)).toNat)))))], [], (zu m 101 ((wr (k : Int)).toNat) (i : Int))) (fun r m1 => T (D + 1) 280 (135, [(0, zr 74), (1, zi (k : Int)), (2, zi (x : Int)), (3, zi s), (4, zi t), (5, zi (i : Int)), (6, zi (s + (m 100 ((wr (2 * (i : Int))).toNat))))], r.toList ++ [], m1) κ))
    (o6 : wr (i : Int) < wr (m 74 54) → ¬ wr (z_and (z_shr (x : Int) (i : Int)) 1) = 1 → ¬ 0 < wr ((s + (m 100 ((wr (2 * (i : Int))).toNat))) - (m 100 ((wr ((2 * (i : Int)) + 1)).toNat))) → T D 280 (0, [(0, zr 74), (1, zi ((k : Int) + 1)), (2, zi (z_or (x : Int) (z_shl 1 (i : Int)))), (3, zi (s + (m 100 ((wr (2 * (i : Int))).toNat)))), (4, zi (t + 0))], [], (zu m 101 ((wr (k : Int)).toNat) (i : Int))) (fun r m1 => T (D + 1) 280 (135, [(0, zr 74), (1, zi (k : Int)), (2, zi (x : Int)), (3, zi s), (4, zi t), (5, zi (i : Int)), (6, zi (s + (m 100 ((wr (2 * (i : Int))).toNat))))], r.toList ++ [], m1) κ))
    (o7 : wr (i : Int) < wr (m 74 54) → wr (z_and (z_shr (x : Int) (i : Int)) 1) = 1 → T (D + 1) 280 (57, [(0, zr 74), (1, zi (k : Int)), (2, zi (x : Int)), (3, zi s), (4, zi t), (5, zi ((i : Int) + 1))], [], m) κ) :
    T (D + 1) 280 (57, lo, [], m) κ :=
  zkeep hT hlo (hT.1 [(27, [0, 1, 5]), (57, [0, 1, 2, 3, 4, 5])] 6 (D + 1) 280 _ κ (And.intro (fun a1 => (o1 a1)) (fun a2 => (hT.1 [(27, [0, 1, 5]), (57, [0, 1, 2, 3, 4, 5])] 6 (D + 1) 280 (69, [(0, zr 74), (1, zi (k : Int)), (2, zi (x : Int)), (3, zi s), (4, zi t), (5, zi (i : Int))], [zi (i : Int), zi (x : Int)], m) _ (hT.1 [] 6 D 187 _ _ (hT.1 [] 6 D 187 (6, [(0, zi (x : Int)), (1, zi (i : Int))], [zi 1, zi (z_and (z_shr (x : Int) (i : Int)) 1)], m) _ (And.intro (fun a3 => (And.intro (z_b01L rfl) (hT.1 [(27, [0, 1, 5]), (57, [0, 1, 2, 3, 4, 5])] 6 (D + 1) 280 _ _ (And.intro (fun _ => (And.intro (And.intro (o2 (Classical.byContradiction a2) a3) trivial) (hT.1 [(27, [0, 1, 5]), (57, [0, 1, 2, 3, 4, 5])] 6 (D + 1) 280 (86, [(0, zr 74), (1, zi (k : Int)), (2, zi (x : Int)), (3, zi s), (4, zi t), (5, zi (i : Int))], [], (zu m 101 ((wr (k : Int)).toNat) (i : Int))) _ (hT.1 [(27, [0, 1, 5]), (57, [0, 1, 2, 3, 4, 5])] 6 (D + 1) 280 (95, [(0, zr 74), (1, zi (k : Int)), (2, zi (x : Int)), (3, zi s), (4, zi t), (5, zi (i : Int))], [zi (2 * (i : Int)), zr 100, zi s], (zu m 101 ((wr (k : Int)).toNat) (i : Int))) _ (And.intro (o3 (Classical.byContradiction a2) a3) (hT.1 [(27, [0, 1, 5]), (57, [0, 1, 2, 3, 4, 5])] 6 (D + 1) 280 (102, [(0, zr 74), (1, zi (k : Int)), (2, zi (x : Int)), (3, zi s), (4, zi t), (5, zi (i : Int)), (6, zi (s + (m 100 ((wr (2 * (i : Int))).toNat))))], [zi 1, zi (k : Int), zr 74], (zu m 101 ((wr (k : Int)).toNat) (i : Int))) _ (hT.1 [(27, [0, 1, 5]), (57, [0, 1, 2, 3, 4, 5])] 6 (D + 1) 280 (109, [(0, zr 74), (1, zi (k : Int)), (2, zi (x : Int)), (3, zi s), (4, zi t), (5, zi (i : Int)), (6, zi (s + (m 100 ((wr (2 * (i : Int))).toNat))))], [zi (z_or (x : Int) (z_shl 1 (i : Int))), zi ((k : Int) + 1), zr 74], (zu m 101 ((wr (k : Int)).toNat) (i : Int))) _ (hT.1 [(27, [0, 1, 5]), (57, [0, 1, 2, 3, 4, 5])] 6 (D + 1) 280 (120, [(0, zr 74), (1, zi (k : Int)), (2, zi (x : Int)), (3, zi s), (4, zi t), (5, zi (i : Int)), (6, zi (s + (m 100 ((wr (2 * (i : Int))).toNat))))], [zr 100, zi (s + (m 100 ((wr (2 * (i : Int))).toNat))), zi 0, zi t, zi (s + (m 100 ((wr (2 * (i : Int))).toNat))), zi (z_or (x : Int) (z_shl 1 (i : Int))), zi ((k : Int) + 1), zr 74], (zu m 101 ((wr (k : Int)).toNat) (i : Int))) _ (And.intro (o4 (Classical.byContradiction a2) a3) (hT.1 [(27, [0, 1, 5]), (57, [0, 1, 2, 3, 4, 5])] 6 (D + 1) 280 (127, [(0, zr 74), (1, zi (k : Int)), (2, zi (x : Int)), (3, zi s), (4, zi t), (5, zi (i : Int)), (6, zi (s + (m 100 ((wr (2 * (i : Int))).toNat))))], [zi (m 100 ((wr ((2 * (i : Int)) + 1)).toNat)), zi (s + (m 100 ((wr (2 * (i : Int))).toNat))), zi 0, zi t, zi (s + (m 100 ((wr (2 * (i : Int))).toNat))), zi (z_or (x : Int) (z_shl 1 (i : Int))), zi ((k : Int) + 1), zr 74], (zu m 101 ((wr (k : Int)).toNat) (i : Int))) _ (hT.1 [] 6 D 295 _ _ (And.intro (fun a6 => (hT.1 [(27, [0, 1, 5]), (57, [0, 1, 2, 3, 4, 5])] 6 (D + 1) 280 _ _ (o5 (Classical.byContradiction a2) a3 a6))) (fun a7 => (hT.1 [(27, [0, 1, 5]), (57, [0, 1, 2, 3, 4, 5])] 6 (D + 1) 280 _ _ (o6 (Classical.byContradiction a2) a3 a7))))))))))))))) (fun a5 => (a5 (z_litT rfl)).elim))))) (fun a4 => (And.intro (z_b01L rfl) (hT.1 [(27, [0, 1, 5]), (57, [0, 1, 2, 3, 4, 5])] 6 (D + 1) 280 _ _ (And.intro (fun a8 => (z_litF a8 rfl).elim) (fun _ => (o7 (Classical.byContradiction a2) (Classical.byContradiction a4))))))))))))))
theorem zb280_57 (hT : zRules T) {D : Nat} {κ : Option zA → zM → Prop} {m : zM} {k : Nat} {x : Nat} {s : Int} {t : Int} {i : Nat} {lo : zL} (hlo : z_keep [0, 1, 2, 3, 4, 5] lo = [(0, zr 74), (1, zi (k : Int)), (2, zi (x : Int)), (3, zi s), (4, zi t), (5, zi (i : Int))])  (hB : zB m) (h_k : k ≤ 6) (h_x : x ≤ 127) (h_s : 0 ≤ s ∧ s ≤ 700) (h_t : 0 ≤ t ∧ t ≤ 5000) (h_i : i ≤ 7) 
    (k1 : ¬ (i : Int) < (m 74 54) → κ (none) m)
    (k2 : (i : Int) < (m 74 54) → ¬ (z_and (z_shr (x : Int) (i : Int)) 1) = 1 → 0 < ((s + (m 100 (2 * i))) - (m 100 (2 * i + 1))) → zB (zu m 101 k (i : Int)) → T D 280 (0, [(0, zr 74), (1, zi ((k : Int) + 1)), (2, zi (z_or (x : Int) (z_shl 1 (i : Int)))), (3, zi (s + (m 100 (2 * i)))), (4, zi (t + ((s + (m 100 (2 * i))) - (m 100 (2 * i + 1)))))], [], (zu m 101 k (i : Int))) (fun r m1 => T (D + 1) 280 (135, [(0, zr 74), (1, zi (k : Int)), (2, zi (x : Int)), (3, zi s), (4, zi t), (5, zi (i : Int)), (6, zi (s + (m 100 (2 * i))))], r.toList ++ [], m1) κ))
    (k3 : (i : Int) < (m 74 54) → ¬ (z_and (z_shr (x : Int) (i : Int)) 1) = 1 → ¬ 0 < ((s + (m 100 (2 * i))) - (m 100 (2 * i + 1))) → zB (zu m 101 k (i : Int)) → T D 280 (0, [(0, zr 74), (1, zi ((k : Int) + 1)), (2, zi (z_or (x : Int) (z_shl 1 (i : Int)))), (3, zi (s + (m 100 (2 * i)))), (4, zi (t + 0))], [], (zu m 101 k (i : Int))) (fun r m1 => T (D + 1) 280 (135, [(0, zr 74), (1, zi (k : Int)), (2, zi (x : Int)), (3, zi s), (4, zi t), (5, zi (i : Int)), (6, zi (s + (m 100 (2 * i))))], r.toList ++ [], m1) κ))
    (k4 : (i : Int) < (m 74 54) → (z_and (z_shr (x : Int) (i : Int)) 1) = 1 → T (D + 1) 280 (57, [(0, zr 74), (1, zi (k : Int)), (2, zi (x : Int)), (3, zi s), (4, zi t), (5, zi ((i : Int) + 1))], [], m) κ) :
    T (D + 1) 280 (57, lo, [], m) κ := by
  have hb5 : 0 ≤ (m 74 54) ∧ (m 74 54) ≤ 7 := hB 74 54
  have hb6 : (-2147483648) ≤ (z_shr (x : Int) (i : Int)) ∧ (z_shr (x : Int) (i : Int)) ≤ 2147483647 := z_shrB (x : Int) (i : Int)
  have hb7 : 0 ≤ (z_and (z_shr (x : Int) (i : Int)) 1) ∧ (z_and (z_shr (x : Int) (i : Int)) 1) ≤ 1 := z_andC (z_shr (x : Int) (i : Int)) 1 (by decide)
  have hb8 : 0 ≤ (m 100 (2 * i)) ∧ (m 100 (2 * i)) ≤ 99 := hB 100 (2 * i)
  have hb9 : (-2147483648) ≤ (z_shl 1 (i : Int)) ∧ (z_shl 1 (i : Int)) ≤ 2147483647 := z_shlB 1 (i : Int)
  have hb10 : (-2147483648) ≤ (z_or (x : Int) (z_shl 1 (i : Int))) ∧ (z_or (x : Int) (z_shl 1 (i : Int))) ≤ 2147483647 := z_orB (x : Int) (z_shl 1 (i : Int))
  have hb11 : 0 ≤ (m 100 (2 * i + 1)) ∧ (m 100 (2 * i + 1)) ≤ 99 := hB 100 (2 * i + 1)
  have he0 : wr (i : Int) = (i : Int) := wr_id (by omega) (by omega)
  have he1 : wr (m 74 54) = (m 74 54) := wr_id (by omega) (by omega)
  have he2 : wr (z_and (z_shr (x : Int) (i : Int)) 1) = (z_and (z_shr (x : Int) (i : Int)) 1) := wr_id (by omega) (by omega)
  have he3 : wr (k : Int) = (k : Int) := wr_id (by omega) (by omega)
  have he4 : (k : Int).toNat = k := by omega
  have he5 : wr (2 * (i : Int)) = (2 * (i : Int)) := wr_id (by omega) (by omega)
  have he6 : (2 * (i : Int)).toNat = 2 * i := by omega
  have he7 : wr ((2 * (i : Int)) + 1) = ((2 * (i : Int)) + 1) := wr_id (by omega) (by omega)
  have he8 : ((2 * (i : Int)) + 1).toNat = 2 * i + 1 := by omega
  have he9 : wr ((s + (m 100 (2 * i))) - (m 100 (2 * i + 1))) = ((s + (m 100 (2 * i))) - (m 100 (2 * i + 1))) := wr_id (by omega) (by omega)
  have key := @zb280_57r T hT D κ m k x s t i lo hlo
  simp only [he0, he1, he2, he3, he4, he5, he6, he7, he8, he9, Int.toNat_natCast] at key
  exact key
    k1
    (fun x0 x1 => by refine ⟨?_, ?_⟩ <;> omega)
    (fun x0 x1 => by refine ⟨?_, ?_⟩ <;> omega)
    (fun x0 x1 => by refine ⟨?_, ?_⟩ <;> omega)
    (fun x0 x1 x2 => k2 x0 x1 x2 (zB_u hB trivial))
    (fun x0 x1 x2 => k3 x0 x1 x2 (zB_u hB trivial))
    k4
theorem zb280_135r (hT : zRules T) {D : Nat} {κ : Option zA → zM → Prop} {m : zM} {k : Nat} {x : Nat} {s : Int} {t : Int} {i : Nat} {lo : zL} (hlo : z_keep [0, 1, 2, 3, 4, 5] lo = [(0, zr 74), (1, zi (k : Int)), (2, zi (x : Int)), (3, zi s), (4, zi t), (5, zi (i : Int))]) 
    (o1 : T (D + 1) 280 (57, [(0, zr 74), (1, zi (k : Int)), (2, zi (x : Int)), (3, zi s), (4, zi t), (5, zi ((i : Int) + 1))], [], m) κ) :
    T (D + 1) 280 (135, lo, [], m) κ :=
  zkeep hT hlo (hT.1 [(27, [0, 1, 5]), (57, [0, 1, 2, 3, 4, 5])] 6 (D + 1) 280 _ κ (o1))
theorem zb280_135 (hT : zRules T) {D : Nat} {κ : Option zA → zM → Prop} {m : zM} {k : Nat} {x : Nat} {s : Int} {t : Int} {i : Nat} {lo : zL} (hlo : z_keep [0, 1, 2, 3, 4, 5] lo = [(0, zr 74), (1, zi (k : Int)), (2, zi (x : Int)), (3, zi s), (4, zi t), (5, zi (i : Int))])  (hB : zB m) (h_k : k ≤ 6) (h_x : x ≤ 127) (h_s : 0 ≤ s ∧ s ≤ 700) (h_t : 0 ≤ t ∧ t ≤ 5000) (h_i : i ≤ 6) 
    (k1 : T (D + 1) 280 (57, [(0, zr 74), (1, zi (k : Int)), (2, zi (x : Int)), (3, zi s), (4, zi t), (5, zi ((i : Int) + 1))], [], m) κ) :
    T (D + 1) 280 (135, lo, [], m) κ := by
  exact zb280_135r hT hlo
    k1
end ZBlocks
end
-- 97.late.lean.txt
section
/-! late(): it ends, and leaves what matters. -/
theorem set_p : ∀ f : Nat, f < 7 → ∀ x : Nat, x < 128 → x.testBit f = false → popc7 (x ||| 2 ^ f) = popc7 x + 1 := by decide +kernel
theorem full_p : ∀ N : Nat, N < 8 → ∀ x : Nat, x < 128 → (∀ q, q < N → x.testBit q = true) → N ≤ popc7 x := by decide +kernel
theorem bit_no {x t : Nat} (hx : x < 128) (ht : t ≤ 7) (q : z_and (z_shr (x : Int) (t : Int)) 1 = 0) : x.testBit t = false := by
  rw [z_bit (by omega) (by omega)] at q
  cases hb : x.testBit t with
  | false => rfl
  | true =>
    rw [hb, if_pos rfl] at q
    cases q
theorem bit_yes {x t : Nat} (hx : x < 128) (ht : t ≤ 7) (q : ¬ z_and (z_shr (x : Int) (t : Int)) 1 = 0) : x.testBit t = true := by
  rw [z_bit (by omega) (by omega)] at q
  cases hb : x.testBit t with
  | true => rfl
  | false =>
    rw [hb, if_neg (by simp)] at q
    exact absurd rfl q
section ZLate
variable {T : Nat → Nat → zG → (Option zA → zM → Prop) → Prop} {B : Int}
theorem orB {x f : Nat} (hx : x < 128) (hf : f < 7) : z_or (x : Int) (z_shl 1 (f : Int)) = ((x ||| 2 ^ f : Nat) : Int) ∧ x ||| 2 ^ f < 128 := by
  have p : 2 ^ f ≤ 2 ^ 6 := Nat.pow_le_pow_right (by omega) (by omega)
  refine ⟨?_, Nat.or_lt_two_pow (n := 7) hx (by omega)⟩
  rw [z_shl1T f (by omega), z_orN (by omega) (by omega)]
theorem z_lateWith0 (hT : zRules T) {D : Nat} {κ : Option zA → zM → Prop} {m : zM} {x : Nat} {h f : Int} (hB : zB m) (hx : x ≤ 127) (hh : 0 ≤ h ∧ h ≤ 140) (hf : -1 ≤ f ∧ f ≤ 6) (hk : ∀ v : Int, isI v → κ (some (zi v)) m) : T (D + 2) 100 (0, [(0, zr 64), (1, zi (x : Int)), (2, zi h), (3, zi f)], [], m) κ := by
  have bd : ¬ f < 0 → 0 ≤ z_or (x : Int) (z_shl 1 f) ∧ z_or (x : Int) (z_shl 1 f) < 128 := fun q => by
    obtain ⟨g, rfl⟩ : ∃ g : Nat, f = (g : Int) := ⟨f.toNat, by omega⟩
    obtain ⟨e1, e2⟩ := orB (x := x) (f := g) (by omega) (by omega)
    rw [e1]
    omega
  exact zb100_0 hT hB hx hh hf (fun _ => hk 0 (by unfold isI; omega)) (fun q _ _ => bd q) (fun _ _ _ => hk _ (wrB _)) (fun q _ _ => bd q) (fun _ _ _ => hk _ (wrB _)) (fun _ _ => hk 0 (by unfold isI; omega))
theorem z_firstLL0 (hT : zRules T) {D : Nat} {κ : Option zA → zM → Prop} {m : zM} {x N : Nat} {h : Int} (hB : zB m) (hN : m 64 2 = (N : Int)) (hx : x ≤ 127) (hh : 0 ≤ h ∧ h ≤ 140)
    (hk : ∀ f : Int, ((f = -1 ∧ ∀ q, q < N → x.testBit q = true) ∨ ∃ g : Nat, f = (g : Int) ∧ g < N ∧ x.testBit g = false) → κ (some (zi f)) m) : T (D + 3) 101 (0, [(0, zr 64), (1, zi (x : Int)), (2, zi h)], [], m) κ := by
  have b64 : 0 ≤ m 64 2 ∧ m 64 2 ≤ 7 := hB 64 2
  have key : ∀ (j t : Nat) (f b : Int), t + j = N → isI b → ((f = -1 ∧ ∀ q, q < t → x.testBit q = true) ∨ ∃ g : Nat, f = (g : Int) ∧ g < N ∧ x.testBit g = false) → T (D + 3) 101 (8, [(0, zr 64), (1, zi (x : Int)), (2, zi h), (3, zi f), (4, zi b), (5, zi (t : Int))], [], m) κ := by
    intro j
    induction j with
    | zero =>
      intro t f b ht hb hf
      have et : t = N := by omega
      subst et
      have f6 : -1 ≤ f ∧ f ≤ 6 := by
        rcases hf with ⟨h0, _⟩ | ⟨g, h0, h1, _⟩
        · omega
        · omega
      exact zb101_8 hT rfl hB hx hh f6 hb (by omega) (fun _ => hk f hf) (fun q => by omega) (fun q => by omega)
    | succ j ih =>
      intro t f b ht hb hf
      have f6 : -1 ≤ f ∧ f ≤ 6 := by
        rcases hf with ⟨h0, _⟩ | ⟨g, h0, h1, _⟩
        · omega
        · omega
      refine zb101_8 hT rfl hB hx hh f6 hb (by omega) (fun q => by omega) (fun _ q => ?_) (fun _ q => ?_)
      · refine ih (t + 1) f b (by omega) hb ?_
        rcases hf with ⟨h0, h1⟩ | h0
        · refine Or.inl ⟨h0, fun r hr => ?_⟩
          by_cases e : r = t
          · rw [e]
            exact bit_yes (by omega) (by omega) q
          · exact h1 r (by omega)
        · exact Or.inr h0
      · refine z_lateWith0 hT hB hx hh (by omega) (fun v hv => ?_)
        have nx : ∀ b2 : Int, isI b2 → T (D + 3) 101 (8, [(0, zr 64), (1, zi (x : Int)), (2, zi h), (3, zi (t : Int)), (4, zi b2), (5, zi ((t : Int) + 1))], [], m) κ := fun b2 hb2 => ih (t + 1) (t : Int) b2 (by omega) hb2 (Or.inr ⟨t, rfl, by omega, bit_no (by omega) (by omega) q⟩)
        refine zb101_34 hT rfl hB hx hh f6 hb (by omega) hv (fun _ => nx v hv) (fun q2 _ => ?_) (fun _ _ => nx v hv)
        refine ih (t + 1) f b (by omega) hb ?_
        rcases hf with ⟨h0, _⟩ | h0
        · exact absurd h0 q2
        · exact Or.inr h0
  exact zb101_0 hT hB hx hh (key N 0 (-1) 0 (by omega) (by unfold isI; omega) (Or.inl ⟨rfl, fun q hq => by omega⟩))
theorem z_orderLL0 (hT : zRules T) {D : Nat} {κ : Option zA → zM → Prop} {m : zM} (hB : zB m) (hk : ∀ v M, isI v → zB M → zFr (inL [(67, none), (70, none)]) m M → κ (some (zi v)) M) : T (D + 4) 99 (0, [(0, zr 64)], [], m) κ := by
  have b64 : 0 ≤ m 64 2 ∧ m 64 2 ≤ 7 := hB 64 2
  obtain ⟨N, hN⟩ : ∃ N : Nat, m 64 2 = (N : Int) := ⟨(m 64 2).toNat, by omega⟩
  have p7 : 2 ^ N ≤ 2 ^ 7 := Nat.pow_le_pow_right (by omega) (by omega)
  have p1 : 1 ≤ 2 ^ N := Nat.one_le_two_pow
  have second : ∀ (j t x : Nat) (M : zM), t + j = N → x < 128 → popc7 x = t → zB M → zFr (inL [(67, none), (70, none)]) m M → T (D + 4) 99 (58, [(0, zr 64), (2, zi (x : Int)), (3, zi (t : Int))], [], M) κ := by
    intro j
    induction j with
    | zero =>
      intro t x M ht hx hp hBM hF
      have e64 : M 64 2 = (N : Int) := (hF 64 2 rfl).trans hN
      exact zb99_58 hT rfl hBM (by omega) (by omega) (fun _ => hk _ M (wrB _) hBM hF) (fun q => by omega)
    | succ j ih =>
      intro t x M ht hx hp hBM hF
      have e64 : M 64 2 = (N : Int) := (hF 64 2 rfl).trans hN
      refine zb99_58 hT rfl hBM (by omega) (by omega) (fun q => by omega) (fun _ => ?_)
      refine z_hoursOf0 (D := D + 1) hT hBM e64 (by omega) (fun h hh => ?_)
      refine zb99_78 hT rfl hBM (by omega) (by omega) hh ?_
      refine z_firstLL0 (D := D) hT hBM e64 (by omega) hh (fun f hf => ?_)
      have hg : ∃ g : Nat, f = (g : Int) ∧ g < N ∧ x.testBit g = false := by
        rcases hf with ⟨_, h1⟩ | h0
        · have := full_p N (by omega) x hx h1
          omega
        · exact h0
      obtain ⟨g, rfl, g7, gb⟩ := hg
      refine zb99_81 hT rfl hBM (by omega) (by omega) (by omega) (fun hz => ?_)
      obtain ⟨e1, e2⟩ := orB (x := x) (f := g) (by omega) (by omega)
      rw [e1]
      exact ih (t + 1) _ _ (by omega) e2 (by rw [set_p g (by omega) x hx gb, hp]) hz (hF.set rfl)
  have first : ∀ (j : Nat) (M : zM), j < 2 ^ N → zB M → zFr (inL [(67, none), (70, none)]) m M → T (D + 4) 99 (20, [(0, zr 64), (2, zi ((j : Int) - 1))], [], M) κ := by
    intro j
    induction j with
    | zero =>
      intro M hj hBM hF
      exact zb99_20 hT rfl hBM (by omega) (fun _ => second N 0 0 M (by omega) (by omega) (by decide) hBM hF) (fun q => by omega)
    | succ j ih =>
      intro M hj hBM hF
      have e64 : M 64 2 = (N : Int) := (hF 64 2 rfl).trans hN
      rw [show ((j + 1 : Nat) : Int) - 1 = (j : Int) by omega]
      refine zb99_20 hT rfl hBM (by omega) (fun q => by omega) (fun _ => ?_)
      refine z_hoursOf0 (D := D + 1) hT hBM e64 (by omega) (fun h hh => ?_)
      refine zb99_29 hT rfl hBM (by omega) hh ?_
      refine z_firstLL0 (D := D) hT hBM e64 (by omega) hh (fun f hf => ?_)
      have f6 : -1 ≤ f ∧ f ≤ 6 := by
        rcases hf with ⟨h0, _⟩ | ⟨g, h0, h1, _⟩
        · omega
        · omega
      refine zb99_44 hT rfl hBM (by omega) hh f6 ?_
      refine z_lateWith0 (D := D + 1) hT hBM (by omega) hh f6 (fun v hv => ?_)
      refine zb99_47 hT rfl hBM (by omega) hh hv (fun hz => ?_)
      exact ih _ (by omega) hz (hF.set rfl)
  have es : z_shl 1 (m 64 2) = ((2 ^ N : Nat) : Int) := by rw [hN, z_shl1T N (by omega)]
  have ew : wr (((2 ^ N : Nat) : Int) - 1) = ((2 ^ N : Nat) : Int) - 1 := by
    generalize 2 ^ N = P at p7 p1
    exact wr_id (by omega) (by omega)
  refine zb99_0 hT hB ?_ ?_
  · rw [es, ew]
    generalize 2 ^ N = P at p7 p1
    omega
  · intro hz
    rw [es] at hz ⊢
    have h1 := first (2 ^ N - 1) _ (by omega) hz (zFr.refl.set rfl)
    rw [show ((2 ^ N - 1 : Nat) : Int) - 1 = ((2 ^ N : Nat) : Int) - 1 - 1 by
      generalize 2 ^ N = P at p7 p1
      omega] at h1
    exact h1
noncomputable def goL : zLs := [(74, some 57), (101, none), (102, none)]
theorem z_goOrder0 (hT : zRules T) {N : Nat} (hN7 : N ≤ 7) : ∀ (j : Nat) (D : Nat) (κ : Option zA → zM → Prop) (m : zM) (k x : Nat) (s t : Int), zB m → m 74 54 = (N : Int) → k + j = N → x < 128 → (0 ≤ s ∧ s ≤ 99 * k) → (0 ≤ t ∧ t ≤ 693 * k) → (∀ M, zB M → zFr (inL goL) m M → κ none M) →
    T (D + j + 1) 280 (0, [(0, zr 74), (1, zi (k : Int)), (2, zi (x : Int)), (3, zi s), (4, zi t)], [], m) κ := by
  intro j
  induction j with
  | zero =>
    intro D κ m k x s t hB hN hkj hx hs ht hk
    refine zb280_0 (D := D) hT hB (by omega) (by omega) (by omega) (by omega) (fun _ q => by omega) (fun _ _ hz => ?_) (fun _ => hk m hB zFr.refl)
    have key : ∀ (i c : Nat) (M : zM), c + i = k → zB M → zFr (inL goL) m M → T (D + 1) 280 (27, [(0, zr 74), (1, zi (k : Int)), (5, zi (c : Int))], [], M) κ := by
      intro i
      induction i with
      | zero =>
        intro c M hc hBM hF
        exact zb280_27 (D := D) hT rfl hBM (by omega) (by omega) (fun _ => hk M hBM hF) (fun q => by omega)
      | succ i ih =>
        intro c M hc hBM hF
        exact zb280_27 (D := D) hT rfl hBM (by omega) (by omega) (fun q => by omega) (fun _ hz2 => ih (c + 1) _ (by omega) hz2 (hF.set rfl))
    exact key k 0 _ (by omega) hz (zFr.refl.set rfl)
  | succ j ih =>
    intro D κ m k x s t hB hN hkj hx hs ht hk
    have loop : ∀ (i c : Nat) (M : zM), c + i = N → zB M → zFr (inL goL) m M → T (D + (j + 1) + 1) 280 (57, [(0, zr 74), (1, zi (k : Int)), (2, zi (x : Int)), (3, zi s), (4, zi t), (5, zi (c : Int))], [], M) κ := by
      intro i
      induction i with
      | zero =>
        intro c M hc hBM hF
        have e54 : M 74 54 = (N : Int) := (hF 74 54 rfl).trans hN
        exact zb280_57 (D := D + j + 1) hT rfl hBM (by omega) (by omega) (by omega) (by omega) (by omega) (fun _ => hk M hBM hF) (fun q => by omega) (fun q => by omega) (fun q => by omega)
      | succ i ih2 =>
        intro c M hc hBM hF
        have e54 : M 74 54 = (N : Int) := (hF 74 54 rfl).trans hN
        have b0 : 0 ≤ M 100 (2 * c) ∧ M 100 (2 * c) ≤ 99 := hBM 100 (2 * c)
        have b1 : 0 ≤ M 100 (2 * c + 1) ∧ M 100 (2 * c + 1) ≤ 99 := hBM 100 (2 * c + 1)
        obtain ⟨e1, e2⟩ := orB (x := x) (f := c) hx (by omega)
        have go : ∀ t2 : Int, (0 ≤ t2 ∧ t2 ≤ 693 * ((k + 1 : Nat) : Int)) → zB (zu M 101 k (c : Int)) → T (D + j + 1) 280 (0, [(0, zr 74), (1, zi ((k : Int) + 1)), (2, zi (z_or (x : Int) (z_shl 1 (c : Int)))), (3, zi (s + (M 100 (2 * c)))), (4, zi t2)], [], (zu M 101 k (c : Int))) (fun r m1 => T (D + (j + 1) + 1) 280 (135, [(0, zr 74), (1, zi (k : Int)), (2, zi (x : Int)), (3, zi s), (4, zi t), (5, zi (c : Int)), (6, zi (s + (M 100 (2 * c))))], r.toList ++ [], m1) κ) := by
          intro t2 ht2 hz
          rw [e1]
          refine ih D _ _ (k + 1) (x ||| 2 ^ c) _ t2 hz (by rw [zu_dn (by omega), e54]) (by omega) e2 (by omega) ht2 (fun M2 hB2 hF2 => ?_)
          exact zb280_135 (D := D + j + 1) hT rfl hB2 (by omega) (by omega) (by omega) (by omega) (by omega) (ih2 (c + 1) M2 (by omega) hB2 ((hF.set rfl).trans hF2))
        exact zb280_57 (D := D + j + 1) hT rfl hBM (by omega) (by omega) (by omega) (by omega) (by omega) (fun q => by omega) (fun _ _ _ hz => go _ (by omega) hz) (fun _ _ _ hz => go _ (by omega) hz) (fun _ _ => ih2 (c + 1) M (by omega) hBM hF)
    exact zb280_0 (D := D + j + 1) hT hB (by omega) (by omega) (by omega) (by omega) (fun _ _ => loop N 0 m (by omega) hB zFr.refl) (fun _ q => by omega) (fun _ => hk m hB zFr.refl)
theorem w_late0 (hT : zRules T) : Way T 155 281 [(0, zr 1)] [(0, zr 74)] 5 9 B B False := by
  rintro D m sc ⟨n, k, hI⟩ κ hκ
  have hI0 := hI
  obtain ⟨i1, i2, i3, i4, i5, i6, i7, i8, i9, i10, i11⟩ := hI
  have b64 : 0 ≤ m 64 2 ∧ m 64 2 ≤ 7 := i1 64 2
  obtain ⟨N, hN⟩ : ∃ N : Nat, m 64 2 = (N : Int) := ⟨(m 64 2).toNat, by omega⟩
  have ref : ∀ (r : Option zA) (M0 : zM), zB M0 → Agree coreK m M0 → κ r M0 := by
    intro r M0 hB0 hA0
    refine hκ _ _ (fun D2 κ2 h2 => ?_)
    refine zb281_0 (D := D2 + 7) hT hB0 (fun hz => ?_)
    have hA1 : Agree coreK m (zu (zu M0 74 12 0) 74 57 100000000) := hA0.trans (.of (L := [(74, some 12), (74, some 57)]) ((zFr.refl.set rfl).set rfl) rfl)
    have e54 : (zu (zu M0 74 12 0) 74 57 100000000) 74 54 = (N : Int) := by rw [hA1 74 54 rfl, i9.1, hN]
    have hgo := z_goOrder0 (N := N) hT (by omega) N (D2 + (7 - N)) (fun r m1 => T (D2 + 7 + 2) 281 (20, [(0, zr 74)], r.toList ++ [], m1) κ2) _ 0 0 0 0 hz e54 (by omega) (by omega) (by omega) (by omega)
    rw [show D2 + (7 - N) + N + 1 = D2 + 7 + 1 by omega] at hgo
    refine hgo (fun M hBM hF => ?_)
    have hA2 : Agree coreK m M := hA1.trans (.of hF rfl)
    refine zb281_20 (D := D2 + 7) hT rfl hBM (fun hz2 => ?_)
    have loop : ∀ (i c : Nat) (M2 : zM), c + i = N → zB M2 → M2 74 11 = (c : Int) → Agree coreK m M2 → T (D2 + 7 + 2) 281 (27, [(0, zr 74), (1, zi (c : Int))], [], M2) κ2 := by
      intro i
      induction i with
      | zero =>
        intro c M2 hc hB2 h11 hA3
        have e54 : M2 74 54 = (N : Int) := by rw [hA3 74 54 rfl, i9.1, hN]
        exact zb281_27 (D := D2 + 7) hT rfl hB2 (by omega) (fun _ => h2 _ _ (fun x => x.elim) ⟨n, k, Inv_fr hA3 hB2 hI0⟩) (fun q => by omega) (fun q => by omega)
      | succ i ih =>
        intro c M2 hc hB2 h11 hA3
        have e54 : M2 74 54 = (N : Int) := by rw [hA3 74 54 rfl, i9.1, hN]
        refine zb281_27 (D := D2 + 7) hT rfl hB2 (by omega) (fun q => by omega) (fun _ => by omega) (fun _ => ?_)
        refine ih (c + 1) _ (by omega) (zB_u (zB_u hB2 trivial) ?_) (by rw [zu_sm rfl, h11]; omega) (hA3.trans (.of (L := [(74, some 11), (81, none)]) ((zFr.refl.set rfl).set rfl) rfl))
        show 0 ≤ M2 74 11 + 1 ∧ M2 74 11 + 1 ≤ 32
        omega
    exact loop N 0 _ (by omega) hz2 (by rw [zu_sm rfl]; rfl) (hA2.trans (.of (L := [(74, some 11)]) (zFr.refl.set rfl) rfl))
  refine zb155_0 hT i1 ?_
  refine z_orderLL0 hT i1 (fun v M hv hBM hF => ?_)
  refine zb155_7 hT rfl hBM hv ?_
  rw [hF 64 2 rfl, hN]
  have hA : Agree coreK m M := .of hF rfl
  refine zb48_0_67 (D := D + 2) hT hBM (by omega) (fun _ hz => ?_) (fun _ hz => ?_)
  · exact zb155_29 hT rfl hv (ref _ _ hz (hA.trans (.of (L := [(72, some 1), (73, none)]) ((zFr.refl.set rfl).cp (fun _ => rfl)) rfl)))
  · exact zb155_29 hT rfl hv (ref _ _ hz (hA.trans (.of (L := [(72, some 1), (73, none)]) ((zFr.refl.set rfl).cp (fun _ => rfl)) rfl)))
end ZLate
end
-- 98.b17.lean.txt
section
section ZBlocks
variable {T : Nat → Nat → zG → (Option zA → zM → Prop) → Prop}
theorem zb157_0r (hT : zRules T) {D : Nat} {κ : Option zA → zM → Prop} {m : zM} {w : Int} 
    (o1 : wr w < 1 → κ (some (zi (-1))) m)
    (o2 : ¬ wr w < 1 → ¬ 3 < wr w → T (D + 4) 104 (0, [(0, zr 64), (1, zi w)], [], m) (fun r m1 => T (D + 5) 157 (20, [(0, zr 1), (1, zi w)], r.toList ++ [], m1) κ))
    (o3 : ¬ wr w < 1 → 3 < wr w → κ (some (zi (-1))) m) :
    T (D + 5) 157 (0, [(0, zr 1), (1, zi w)], [], m) κ :=
  hT.1 [] 6 (D + 5) 157 _ κ (And.intro (fun a1 => (o1 a1)) (fun a2 => (And.intro (fun a3 => (hT.1 [] 6 (D + 5) 157 (12, [(0, zr 1), (1, zi w)], [], m) _ (o2 a2 a3))) (fun a4 => (hT.1 [] 6 (D + 5) 157 (10, [(0, zr 1), (1, zi w)], [], m) _ (o3 a2 (Classical.byContradiction a4)))))))
theorem zb157_0 (hT : zRules T) {D : Nat} {κ : Option zA → zM → Prop} {m : zM} {w : Int}  (hB : zB m) (h_w : (-2147483648) ≤ w ∧ w ≤ 2147483647) 
    (k1 : w < 1 → κ (some (zi (-1))) m)
    (k2 : ¬ w < 1 → ¬ 3 < w → T (D + 4) 104 (0, [(0, zr 64), (1, zi w)], [], m) (fun r m1 => T (D + 5) 157 (20, [(0, zr 1), (1, zi w)], r.toList ++ [], m1) κ))
    (k3 : ¬ w < 1 → 3 < w → κ (some (zi (-1))) m) :
    T (D + 5) 157 (0, [(0, zr 1), (1, zi w)], [], m) κ := by
  have he0 : wr w = w := wr_id (by omega) (by omega)
  have key := @zb157_0r T hT D κ m w
  simp only [he0, Int.toNat_natCast] at key
  exact key
    k1
    k2
    k3
theorem zb157_20r (hT : zRules T) {D : Nat} {κ : Option zA → zM → Prop} {m : zM} {v : Int} {lo : zL} (hlo : z_keep [0] lo = [(0, zr 1)]) 
    (o1 : T (D + 4) 48 (0, [(0, zr 72), (1, zr 67), (2, zi (m 64 2))], [], m) (fun r m1 => T (D + 5) 157 (42, [(0, zr 1), (2, zi v)], r.toList ++ [], m1) κ)) :
    T (D + 5) 157 (20, lo, [zi v], m) κ :=
  zkeep hT hlo (hT.1 [] 6 (D + 5) 157 _ κ (hT.1 [] 6 (D + 5) 157 (32, [(0, zr 1), (2, zi v)], [zr 67, zr 72], m) _ (o1)))
theorem zb157_20 (hT : zRules T) {D : Nat} {κ : Option zA → zM → Prop} {m : zM} {v : Int} {lo : zL} (hlo : z_keep [0] lo = [(0, zr 1)])  (hB : zB m) (h_v : (-2147483648) ≤ v ∧ v ≤ 2147483647) 
    (k1 : T (D + 4) 48 (0, [(0, zr 72), (1, zr 67), (2, zi (m 64 2))], [], m) (fun r m1 => T (D + 5) 157 (42, [(0, zr 1), (2, zi v)], r.toList ++ [], m1) κ)) :
    T (D + 5) 157 (20, lo, [zi v], m) κ := by
  have hb1 : 0 ≤ (m 64 2) ∧ (m 64 2) ≤ 7 := hB 64 2
  exact zb157_20r hT hlo
    k1
theorem zb157_42r (hT : zRules T) {D : Nat} {κ : Option zA → zM → Prop} {m : zM} {v : Int} {lo : zL} (hlo : z_keep [2] lo = [(2, zi v)]) 
    (o1 : κ (some (zi (wr v))) m) :
    T (D + 5) 157 (42, lo, [], m) κ :=
  zkeep hT hlo (hT.1 [] 6 (D + 5) 157 _ κ (o1))
theorem zb157_42 (hT : zRules T) {D : Nat} {κ : Option zA → zM → Prop} {m : zM} {v : Int} {lo : zL} (hlo : z_keep [2] lo = [(2, zi v)])  (h_v : (-2147483648) ≤ v ∧ v ≤ 2147483647) 
    (k1 : κ (some (zi v)) m) :
    T (D + 5) 157 (42, lo, [], m) κ := by
  have he0 : wr v = v := wr_id (by omega) (by omega)
  have key := @zb157_42r T hT D κ m v lo hlo
  simp only [he0, Int.toNat_natCast] at key
  exact key
    k1
theorem zb104_0r (hT : zRules T) {D : Nat} {κ : Option zA → zM → Prop} {m : zM} {w : Nat} 
    (o1 : T (D + 4) 104 (4, [(0, zr 64), (1, zi (w : Int)), (2, zi 1), (3, zi 1)], [], m) κ) :
    T (D + 4) 104 (0, [(0, zr 64), (1, zi (w : Int))], [], m) κ :=
  hT.1 [(4, [0, 1, 2, 3]), (27, [0, 1, 2, 3, 4])] 6 (D + 4) 104 _ κ (o1)
theorem zb104_0 (hT : zRules T) {D : Nat} {κ : Option zA → zM → Prop} {m : zM} {w : Nat}  (hB : zB m) (h_w : w ≤ 3) 
    (k1 : T (D + 4) 104 (4, [(0, zr 64), (1, zi (w : Int)), (2, zi 1), (3, zi 1)], [], m) κ) :
    T (D + 4) 104 (0, [(0, zr 64), (1, zi (w : Int))], [], m) κ := by
  exact zb104_0r hT
    k1
theorem zb104_4r (hT : zRules T) {D : Nat} {κ : Option zA → zM → Prop} {m : zM} {w : Nat} {a : Nat} {i : Nat} {lo : zL} (hlo : z_keep [0, 1, 2, 3] lo = [(0, zr 64), (1, zi (w : Int)), (2, zi (a : Int)), (3, zi (i : Int))]) 
    (o1 : ¬ wr (i : Int) < wr (m 64 2) → T (D + 4) 104 (27, [(0, zr 64), (1, zi (w : Int)), (2, zi (a : Int)), (3, zi (-1)), (4, zi 0)], [], m) κ)
    (o2 : wr (i : Int) < wr (m 64 2) → T (D + 4) 104 (4, [(0, zr 64), (1, zi (w : Int)), (2, zi ((a : Int) * (w : Int))), (3, zi ((i : Int) + 1))], [], m) κ) :
    T (D + 4) 104 (4, lo, [], m) κ :=
  zkeep hT hlo (hT.1 [(4, [0, 1, 2, 3]), (27, [0, 1, 2, 3, 4])] 6 (D + 4) 104 _ κ (And.intro (fun a1 => (hT.1 [(4, [0, 1, 2, 3]), (27, [0, 1, 2, 3, 4])] 6 (D + 4) 104 (24, [(0, zr 64), (1, zi (w : Int)), (2, zi (a : Int)), (3, zi (-1))], [], m) _ (o1 a1))) (fun a2 => (hT.1 [(4, [0, 1, 2, 3]), (27, [0, 1, 2, 3, 4])] 6 (D + 4) 104 (14, [(0, zr 64), (1, zi (w : Int)), (2, zi (a : Int)), (3, zi (i : Int))], [zi (w : Int), zi (a : Int)], m) _ (o2 (Classical.byContradiction a2))))))
theorem zb104_4 (hT : zRules T) {D : Nat} {κ : Option zA → zM → Prop} {m : zM} {w : Nat} {a : Nat} {i : Nat} {lo : zL} (hlo : z_keep [0, 1, 2, 3] lo = [(0, zr 64), (1, zi (w : Int)), (2, zi (a : Int)), (3, zi (i : Int))])  (hB : zB m) (h_w : w ≤ 3) (h_a : a ≤ 2187) (h_i : i ≤ 7) 
    (k1 : ¬ (i : Int) < (m 64 2) → T (D + 4) 104 (27, [(0, zr 64), (1, zi (w : Int)), (2, zi (a : Int)), (3, zi (-1)), (4, zi 0)], [], m) κ)
    (k2 : (i : Int) < (m 64 2) → T (D + 4) 104 (4, [(0, zr 64), (1, zi (w : Int)), (2, zi ((a : Int) * (w : Int))), (3, zi ((i : Int) + 1))], [], m) κ) :
    T (D + 4) 104 (4, lo, [], m) κ := by
  have hb3 : 0 ≤ (m 64 2) ∧ (m 64 2) ≤ 7 := hB 64 2
  have hb4 : 0 ≤ ((a : Int) * (w : Int)) ∧ ((a : Int) * (w : Int)) ≤ 6561 := z_mulB (a : Int) (w : Int) 2187 3 6561 (by omega) (by omega) (by omega) (by omega) rfl
  have he0 : wr (i : Int) = (i : Int) := wr_id (by omega) (by omega)
  have he1 : wr (m 64 2) = (m 64 2) := wr_id (by omega) (by omega)
  have key := @zb104_4r T hT D κ m w a i lo hlo
  simp only [he0, he1, Int.toNat_natCast] at key
  exact key
    k1
    k2
theorem zb104_27r (hT : zRules T) {D : Nat} {κ : Option zA → zM → Prop} {m : zM} {w : Nat} {a : Nat} {b : Int} {q : Nat} {lo : zL} (hlo : z_keep [0, 1, 2, 3, 4] lo = [(0, zr 64), (1, zi (w : Int)), (2, zi (a : Int)), (3, zi b), (4, zi (q : Int))]) 
    (o1 : ¬ wr (q : Int) < wr (a : Int) → κ (some (zi (wr b))) m)
    (o2 : wr (q : Int) < wr (a : Int) → T (D + 3) 105 (0, [(0, zr 64), (1, zi (q : Int)), (2, zi (w : Int))], [], m) (fun r m1 => T (D + 4) 104 (40, [(0, zr 64), (1, zi (w : Int)), (2, zi (a : Int)), (3, zi b), (4, zi (q : Int))], r.toList ++ [], m1) κ)) :
    T (D + 4) 104 (27, lo, [], m) κ :=
  zkeep hT hlo (hT.1 [(4, [0, 1, 2, 3]), (27, [0, 1, 2, 3, 4])] 6 (D + 4) 104 _ κ (And.intro (fun a1 => (o1 a1)) (fun a2 => (hT.1 [(4, [0, 1, 2, 3]), (27, [0, 1, 2, 3, 4])] 6 (D + 4) 104 (37, [(0, zr 64), (1, zi (w : Int)), (2, zi (a : Int)), (3, zi b), (4, zi (q : Int))], [zi (w : Int), zi (q : Int), zr 64], m) _ (o2 (Classical.byContradiction a2))))))
theorem zb104_27 (hT : zRules T) {D : Nat} {κ : Option zA → zM → Prop} {m : zM} {w : Nat} {a : Nat} {b : Int} {q : Nat} {lo : zL} (hlo : z_keep [0, 1, 2, 3, 4] lo = [(0, zr 64), (1, zi (w : Int)), (2, zi (a : Int)), (3, zi b), (4, zi (q : Int))])  (hB : zB m) (h_w : w ≤ 3) (h_a : a ≤ 6561) (h_b : (-2147483648) ≤ b ∧ b ≤ 2147483647) (h_q : q ≤ 6561) 
    (k1 : ¬ (q : Int) < (a : Int) → κ (some (zi b)) m)
    (k2 : (q : Int) < (a : Int) → T (D + 3) 105 (0, [(0, zr 64), (1, zi (q : Int)), (2, zi (w : Int))], [], m) (fun r m1 => T (D + 4) 104 (40, [(0, zr 64), (1, zi (w : Int)), (2, zi (a : Int)), (3, zi b), (4, zi (q : Int))], r.toList ++ [], m1) κ)) :
    T (D + 4) 104 (27, lo, [], m) κ := by
  have he0 : wr (q : Int) = (q : Int) := wr_id (by omega) (by omega)
  have he1 : wr (a : Int) = (a : Int) := wr_id (by omega) (by omega)
  have he2 : wr b = b := wr_id (by omega) (by omega)
  have key := @zb104_27r T hT D κ m w a b q lo hlo
  simp only [he0, he1, he2, Int.toNat_natCast] at key
  exact key
    k1
    k2
theorem zb104_40r (hT : zRules T) {D : Nat} {κ : Option zA → zM → Prop} {m : zM} {w : Nat} {a : Nat} {b : Int} {q : Nat} {v : Int} {lo : zL} (hlo : z_keep [0, 1, 2, 3, 4] lo = [(0, zr 64), (1, zi (w : Int)), (2, zi (a : Int)), (3, zi b), (4, zi (q : Int))]) 
    (o1 : wr b = (-1) → ((0 : Int) ≤ 0 ∧ (0 : Int) ≤ 0 ∧ (0 : Int) ≤ wr (m 64 2) ∧ 0 + wr (m 64 2) ≤ 7 ∧ 0 + wr (m 64 2) ≤ 7))
    (o2 : wr b = (-1) → T (D + 4) 104 (27, [(0, zr 64), (1, zi (w : Int)), (2, zi (a : Int)), (3, zi v), (4, zi ((q : Int) + 1))], [], (z_cp m 68 67 0 0 ((wr (m 64 2)).toNat))) κ)
    (o3 : ¬ wr b = (-1) → ¬ wr v < wr b → T (D + 4) 104 (27, [(0, zr 64), (1, zi (w : Int)), (2, zi (a : Int)), (3, zi b), (4, zi ((q : Int) + 1))], [], m) κ)
    (o4 : ¬ wr b = (-1) → wr v < wr b → ((0 : Int) ≤ 0 ∧ (0 : Int) ≤ 0 ∧ (0 : Int) ≤ wr (m 64 2) ∧ 0 + wr (m 64 2) ≤ 7 ∧ 0 + wr (m 64 2) ≤ 7))
    (o5 : ¬ wr b = (-1) → wr v < wr b → T (D + 4) 104 (27, [(0, zr 64), (1, zi (w : Int)), (2, zi (a : Int)), (3, zi v), (4, zi ((q : Int) + 1))], [], (z_cp m 68 67 0 0 ((wr (m 64 2)).toNat))) κ) :
    T (D + 4) 104 (40, lo, [zi v], m) κ :=
  zkeep hT hlo (hT.1 [(4, [0, 1, 2, 3]), (27, [0, 1, 2, 3, 4])] 6 (D + 4) 104 _ κ (And.intro (fun a1 => (hT.1 [(4, [0, 1, 2, 3]), (27, [0, 1, 2, 3, 4])] 6 (D + 4) 104 (56, [(0, zr 64), (1, zi (w : Int)), (2, zi (a : Int)), (3, zi v), (4, zi (q : Int)), (5, zi v)], [], m) _ (hT.1 [(4, [0, 1, 2, 3]), (27, [0, 1, 2, 3, 4])] 6 (D + 4) 104 (66, [(0, zr 64), (1, zi (w : Int)), (2, zi (a : Int)), (3, zi v), (4, zi (q : Int)), (5, zi v)], [zi 0, zr 67, zi 0, zr 68], m) _ (And.intro (o1 a1) (o2 a1))))) (fun a2 => (hT.1 [(4, [0, 1, 2, 3]), (27, [0, 1, 2, 3, 4])] 6 (D + 4) 104 (50, [(0, zr 64), (1, zi (w : Int)), (2, zi (a : Int)), (3, zi b), (4, zi (q : Int)), (5, zi v)], [zi b, zi v], m) _ (And.intro (fun a3 => (o3 a2 a3)) (fun a4 => (hT.1 [(4, [0, 1, 2, 3]), (27, [0, 1, 2, 3, 4])] 6 (D + 4) 104 (61, [(0, zr 64), (1, zi (w : Int)), (2, zi (a : Int)), (3, zi v), (4, zi (q : Int)), (5, zi v)], [zi 0, zr 68], m) _ (And.intro (o4 a2 (Classical.byContradiction a4)) (hT.1 [(4, [0, 1, 2, 3]), (27, [0, 1, 2, 3, 4])] 6 (D + 4) 104 (73, [(0, zr 64), (1, zi (w : Int)), (2, zi (a : Int)), (3, zi v), (4, zi (q : Int)), (5, zi v)], [], (z_cp m 68 67 0 0 ((wr (m 64 2)).toNat))) _ (o5 a2 (Classical.byContradiction a4)))))))))))
theorem zb104_40 (hT : zRules T) {D : Nat} {κ : Option zA → zM → Prop} {m : zM} {w : Nat} {a : Nat} {b : Int} {q : Nat} {v : Int} {lo : zL} (hlo : z_keep [0, 1, 2, 3, 4] lo = [(0, zr 64), (1, zi (w : Int)), (2, zi (a : Int)), (3, zi b), (4, zi (q : Int))])  (hB : zB m) (h_w : w ≤ 3) (h_a : a ≤ 6561) (h_b : (-2147483648) ≤ b ∧ b ≤ 2147483647) (h_q : q ≤ 6561) (h_v : (-2147483648) ≤ v ∧ v ≤ 2147483647) 
    (k1 : b = (-1) → zB (z_cp m 68 67 0 0 ((m 64 2).toNat)) → T (D + 4) 104 (27, [(0, zr 64), (1, zi (w : Int)), (2, zi (a : Int)), (3, zi v), (4, zi ((q : Int) + 1))], [], (z_cp m 68 67 0 0 ((m 64 2).toNat))) κ)
    (k2 : ¬ b = (-1) → ¬ v < b → T (D + 4) 104 (27, [(0, zr 64), (1, zi (w : Int)), (2, zi (a : Int)), (3, zi b), (4, zi ((q : Int) + 1))], [], m) κ)
    (k3 : ¬ b = (-1) → v < b → zB (z_cp m 68 67 0 0 ((m 64 2).toNat)) → T (D + 4) 104 (27, [(0, zr 64), (1, zi (w : Int)), (2, zi (a : Int)), (3, zi v), (4, zi ((q : Int) + 1))], [], (z_cp m 68 67 0 0 ((m 64 2).toNat))) κ) :
    T (D + 4) 104 (40, lo, [zi v], m) κ := by
  have hb5 : 0 ≤ (m 64 2) ∧ (m 64 2) ≤ 7 := hB 64 2
  have he0 : wr b = b := wr_id (by omega) (by omega)
  have he1 : wr (m 64 2) = (m 64 2) := wr_id (by omega) (by omega)
  have he2 : wr v = v := wr_id (by omega) (by omega)
  have key := @zb104_40r T hT D κ m w a b q v lo hlo
  simp only [he0, he1, he2, Int.toNat_natCast] at key
  exact key
    (fun x0 => by refine ⟨?_, ?_, ?_, ?_, ?_⟩ <;> omega)
    (fun x0 => k1 x0 (zB_cp hB (fun _ _ _ => trivial)))
    k2
    (fun x0 x1 => by refine ⟨?_, ?_, ?_, ?_, ?_⟩ <;> omega)
    (fun x0 x1 => k3 x0 x1 (zB_cp hB (fun _ _ _ => trivial)))
theorem zb105_0r (hT : zRules T) {D : Nat} {κ : Option zA → zM → Prop} {m : zM} {w : Nat} {q : Nat} 
    (o1 : T (D + 3) 105 (34, [(0, zr 64), (2, zi (w : Int)), (3, zi (q : Int)), (4, zi 0), (5, zi ((m 64 2) - 1))], [], (zu (zu (zu m 69 0 0) 69 1 0) 69 2 0)) κ) :
    T (D + 3) 105 (0, [(0, zr 64), (1, zi (q : Int)), (2, zi (w : Int))], [], m) κ :=
  hT.1 [(34, [0, 2, 3, 4, 5])] 6 (D + 3) 105 _ κ (And.intro (And.intro (z_ixL rfl) trivial) (hT.1 [(34, [0, 2, 3, 4, 5])] 6 (D + 3) 105 (8, [(0, zr 64), (1, zi (q : Int)), (2, zi (w : Int))], [zr 64], (zu m 69 0 0)) _ (And.intro (And.intro (z_ixL rfl) trivial) (hT.1 [(34, [0, 2, 3, 4, 5])] 6 (D + 3) 105 (18, [(0, zr 64), (1, zi (q : Int)), (2, zi (w : Int))], [zr 69], (zu (zu m 69 0 0) 69 1 0)) _ (And.intro (And.intro (z_ixL rfl) trivial) (hT.1 [(34, [0, 2, 3, 4, 5])] 6 (D + 3) 105 (24, [(0, zr 64), (1, zi (q : Int)), (2, zi (w : Int)), (3, zi (q : Int))], [zi 0], (zu (zu (zu m 69 0 0) 69 1 0) 69 2 0)) _ (o1)))))))
theorem zb105_0 (hT : zRules T) {D : Nat} {κ : Option zA → zM → Prop} {m : zM} {w : Nat} {q : Nat}  (hB : zB m) (h_w : w ≤ 3) (h_q : q ≤ 6561) 
    (k1 : zB (zu (zu (zu m 69 0 0) 69 1 0) 69 2 0) → T (D + 3) 105 (34, [(0, zr 64), (2, zi (w : Int)), (3, zi (q : Int)), (4, zi 0), (5, zi ((m 64 2) - 1))], [], (zu (zu (zu m 69 0 0) 69 1 0) 69 2 0)) κ) :
    T (D + 3) 105 (0, [(0, zr 64), (1, zi (q : Int)), (2, zi (w : Int))], [], m) κ := by
  have hb2 : 0 ≤ (m 64 2) ∧ (m 64 2) ≤ 7 := hB 64 2
  exact zb105_0r hT
    (k1  (zB_u (zB_u (zB_u hB trivial) trivial) trivial))
theorem zb105_34r (hT : zRules T) {D : Nat} {κ : Option zA → zM → Prop} {m : zM} {w : Nat} {q : Nat} {b : Int} {i : Int} {lo : zL} (hlo : z_keep [0, 2, 3, 4, 5] lo = [(0, zr 64), (2, zi (w : Int)), (3, zi (q : Int)), (4, zi b), (5, zi i)]) 
    (o1 : wr i < 0 → κ (some (zi (wr b))) m)
    (o2 : ¬ wr i < 0 → ¬ wr (w : Int) < 1 → ¬ wr (w : Int) = 0)
    (o3 : ¬ wr i < 0 → ¬ wr (w : Int) < 1 → ¬ wr (w : Int) < 1 → ¬ wr (w : Int) = 0)
    (o4 : ¬ wr i < 0 → ¬ wr (w : Int) < 1 → ¬ wr (w : Int) < 1 → (0 ≤ wr i ∧ wr i < 7))
    (o5 : ¬ wr i < 0 → ¬ wr (w : Int) < 1 → ¬ wr (w : Int) < 1 → (0 ≤ wr (Int.tmod (wr (q : Int)) (wr (w : Int))) ∧ wr (Int.tmod (wr (q : Int)) (wr (w : Int))) < 3))
    (o6 : ¬ wr i < 0 → ¬ wr (w : Int) < 1 → ¬ wr (w : Int) < 1 → (0 ≤ wr i ∧ wr i < 7))
    (o7 : ¬ wr i < 0 → ¬ wr (w : Int) < 1 → ¬ wr (w : Int) < 1 → (0 ≤ wr (Int.tmod (wr (q : Int)) (wr (w : Int))) ∧ wr (Int.tmod (wr (q : Int)) (wr (w : Int))) < 3))
    (o8 : ¬ wr i < 0 → ¬ wr (w : Int) < 1 → ¬ wr (w : Int) < 1 → (0 ≤ wr (Int.tmod (wr (q : Int)) (wr (w : Int))) ∧ wr (Int.tmod (wr (q : Int)) (wr (w : Int))) < 3))
    (o9 : ¬ wr i < 0 → ¬ wr (w : Int) < 1 → ¬ wr (w : Int) < 1 → wr b < wr ((zu (zu m 68 ((wr i).toNat) (Int.tmod (wr (q : Int)) (wr (w : Int)))) 69 ((wr (Int.tmod (wr (q : Int)) (wr (w : Int)))).toNat) ((m 69 ((wr (Int.tmod (wr (q : Int)) (wr (w : Int)))).toNat)) + (m 65 ((wr i).toNat)))) 69 ((wr (Int.tmod (wr (q : Int)) (wr (w : Int)))).toNat)) → T (D + 3) 105 (34, [(0, zr 64), (2, zi (w : Int)), (3, zi (Int.tdiv (wr (q : Int)) (wr (w : Int)))), (4, zi (wr ((zu (zu m 68 ((wr i).toNat) (Int.tmod (wr (q : Int)) (wr (w : Int)))) 69 ((wr (Int.tmod (wr (q : Int)) (wr (w : Int)))).toNat) ((m 69 ((wr (Int.tmod (wr (q : Int)) (wr (w : Int)))).toNat)) + (m 65 ((wr i).toNat)))) 69 ((wr (Int.tmod (wr (q : Int)) (wr (w : Int)))).toNat)))), (5, zi (i + (-1)))], [], (zu (zu m 68 ((wr i).toNat) (Int.tmod (wr (q : Int)) (wr (w : Int)))) 69 ((wr (Int.tmod (wr (q : Int)) (wr (w : Int)))).toNat) ((m 69 ((wr (Int.tmod (wr (q : Int)) (wr (w : Int)))).toNat)) + (m 65 ((wr i).toNat))))) κ)
    (o10 : ¬ wr i < 0 → ¬ wr (w : Int) < 1 → ¬ wr (w : Int) < 1 → ¬ wr b < wr ((zu (zu m 68 ((wr i).toNat) (Int.tmod (wr (q : Int)) (wr (w : Int)))) 69 ((wr (Int.tmod (wr (q : Int)) (wr (w : Int)))).toNat) ((m 69 ((wr (Int.tmod (wr (q : Int)) (wr (w : Int)))).toNat)) + (m 65 ((wr i).toNat)))) 69 ((wr (Int.tmod (wr (q : Int)) (wr (w : Int)))).toNat)) → T (D + 3) 105 (34, [(0, zr 64), (2, zi (w : Int)), (3, zi (Int.tdiv (wr (q : Int)) (wr (w : Int)))), (4, zi (wr b)), (5, zi (i + (-1)))], [], (zu (zu m 68 ((wr i).toNat) (Int.tmod (wr (q : Int)) (wr (w : Int)))) 69 ((wr (Int.tmod (wr (q : Int)) (wr (w : Int)))).toNat) ((m 69 ((wr (Int.tmod (wr (q : Int)) (wr (w : Int)))).toNat)) + (m 65 ((wr i).toNat))))) κ)
    (o11 : ¬ wr i < 0 → ¬ wr (w : Int) < 1 → wr (w : Int) < 1 → False)
    (o12 : ¬ wr i < 0 → wr (w : Int) < 1 → ¬ wr (w : Int) < 1 → False)
    (o13 : ¬ wr i < 0 → wr (w : Int) < 1 → wr (w : Int) < 1 → (0 ≤ wr i ∧ wr i < 7))
    (o14 : ¬ wr i < 0 → wr (w : Int) < 1 → wr (w : Int) < 1 → (0 ≤ wr i ∧ wr i < 7))
    (o15 : ¬ wr i < 0 → wr (w : Int) < 1 → wr (w : Int) < 1 → wr b < wr ((m 69 0) + (m 65 ((wr i).toNat))) → T (D + 3) 105 (34, [(0, zr 64), (2, zi (w : Int)), (3, zi 0), (4, zi (wr ((m 69 0) + (m 65 ((wr i).toNat))))), (5, zi (i + (-1)))], [], (zu (zu m 68 ((wr i).toNat) 0) 69 0 ((m 69 0) + (m 65 ((wr i).toNat))))) κ)
    (o16 : ¬ wr i < 0 → wr (w : Int) < 1 → wr (w : Int) < 1 → ¬ wr b < wr ((m 69 0) + (m 65 ((wr i).toNat))) → T (D + 3) 105 (34, [(0, zr 64), (2, zi (w : Int)), (3, zi 0), (4, zi (wr b)), (5, zi (i + (-1)))], [], (zu (zu m 68 ((wr i).toNat) 0) 69 0 ((m 69 0) + (m 65 ((wr i).toNat))))) κ) :
    T (D + 3) 105 (34, lo, [], m) κ :=
  zkeep hT hlo (hT.1 [(34, [0, 2, 3, 4, 5])] 6 (D + 3) 105 _ κ (And.intro (fun a1 => (o1 a1)) (fun a2 => (And.intro (fun a3 => (hT.1 [(34, [0, 2, 3, 4, 5])] 6 (D + 3) 105 (49, [(0, zr 64), (2, zi (w : Int)), (3, zi (q : Int)), (4, zi b), (5, zi i)], [zi (q : Int)], m) _ (And.intro (o2 a2 a3) (And.intro (fun a5 => (hT.1 [(34, [0, 2, 3, 4, 5])] 6 (D + 3) 105 (62, [(0, zr 64), (2, zi (w : Int)), (3, zi (q : Int)), (4, zi b), (5, zi i), (6, zi (Int.tmod (wr (q : Int)) (wr (w : Int))))], [], m) _ (And.intro (o3 a2 a3 a5) (hT.1 [(34, [0, 2, 3, 4, 5])] 6 (D + 3) 105 (70, [(0, zr 64), (2, zi (w : Int)), (3, zi (Int.tdiv (wr (q : Int)) (wr (w : Int)))), (4, zi b), (5, zi i), (6, zi (Int.tmod (wr (q : Int)) (wr (w : Int))))], [zr 68], m) _ (And.intro (And.intro (o4 a2 a3 a5) trivial) (hT.1 [(34, [0, 2, 3, 4, 5])] 6 (D + 3) 105 (81, [(0, zr 64), (2, zi (w : Int)), (3, zi (Int.tdiv (wr (q : Int)) (wr (w : Int)))), (4, zi b), (5, zi i), (6, zi (Int.tmod (wr (q : Int)) (wr (w : Int))))], [zi (Int.tmod (wr (q : Int)) (wr (w : Int))), zr 69], (zu m 68 ((wr i).toNat) (Int.tmod (wr (q : Int)) (wr (w : Int))))) _ (And.intro (o5 a2 a3 a5) (And.intro (o6 a2 a3 a5) (hT.1 [(34, [0, 2, 3, 4, 5])] 6 (D + 3) 105 (90, [(0, zr 64), (2, zi (w : Int)), (3, zi (Int.tdiv (wr (q : Int)) (wr (w : Int)))), (4, zi b), (5, zi i), (6, zi (Int.tmod (wr (q : Int)) (wr (w : Int))))], [zi (m 65 ((wr i).toNat)), zi (m 69 ((wr (Int.tmod (wr (q : Int)) (wr (w : Int)))).toNat)), zi (Int.tmod (wr (q : Int)) (wr (w : Int))), zr 69], (zu m 68 ((wr i).toNat) (Int.tmod (wr (q : Int)) (wr (w : Int))))) _ (And.intro (And.intro (o7 a2 a3 a5) trivial) (hT.1 [(34, [0, 2, 3, 4, 5])] 6 (D + 3) 105 (100, [(0, zr 64), (2, zi (w : Int)), (3, zi (Int.tdiv (wr (q : Int)) (wr (w : Int)))), (4, zi b), (5, zi i), (6, zi (Int.tmod (wr (q : Int)) (wr (w : Int))))], [zi (Int.tmod (wr (q : Int)) (wr (w : Int))), zr 69, zi b], (zu (zu m 68 ((wr i).toNat) (Int.tmod (wr (q : Int)) (wr (w : Int)))) 69 ((wr (Int.tmod (wr (q : Int)) (wr (w : Int)))).toNat) ((m 69 ((wr (Int.tmod (wr (q : Int)) (wr (w : Int)))).toNat)) + (m 65 ((wr i).toNat))))) _ (And.intro (o8 a2 a3 a5) (hT.1 [] 6 (D + 2) 295 _ _ (And.intro (fun a7 => (hT.1 [(34, [0, 2, 3, 4, 5])] 6 (D + 3) 105 _ _ (o9 a2 a3 a5 a7))) (fun a8 => (hT.1 [(34, [0, 2, 3, 4, 5])] 6 (D + 3) 105 _ _ (o10 a2 a3 a5 a8))))))))))))))))) (fun a6 => (o11 a2 a3 (Classical.byContradiction a6)).elim))))) (fun a4 => (hT.1 [(34, [0, 2, 3, 4, 5])] 6 (D + 3) 105 (45, [(0, zr 64), (2, zi (w : Int)), (3, zi (q : Int)), (4, zi b), (5, zi i)], [zi 0], m) _ (And.intro (fun a9 => (o12 a2 (Classical.byContradiction a4) a9).elim) (fun a10 => (hT.1 [(34, [0, 2, 3, 4, 5])] 6 (D + 3) 105 (59, [(0, zr 64), (2, zi (w : Int)), (3, zi (q : Int)), (4, zi b), (5, zi i), (6, zi 0)], [zi 0], m) _ (hT.1 [(34, [0, 2, 3, 4, 5])] 6 (D + 3) 105 (74, [(0, zr 64), (2, zi (w : Int)), (3, zi 0), (4, zi b), (5, zi i), (6, zi 0)], [zi 0, zi i, zr 68], m) _ (And.intro (And.intro (o13 a2 (Classical.byContradiction a4) (Classical.byContradiction a10)) trivial) (And.intro (z_ixL rfl) (hT.1 [(34, [0, 2, 3, 4, 5])] 6 (D + 3) 105 (83, [(0, zr 64), (2, zi (w : Int)), (3, zi 0), (4, zi b), (5, zi i), (6, zi 0)], [zi (m 69 0), zi 0, zr 69], (zu m 68 ((wr i).toNat) 0)) _ (And.intro (o14 a2 (Classical.byContradiction a4) (Classical.byContradiction a10)) (And.intro (And.intro (z_ixL rfl) trivial) (hT.1 [(34, [0, 2, 3, 4, 5])] 6 (D + 3) 105 (92, [(0, zr 64), (2, zi (w : Int)), (3, zi 0), (4, zi b), (5, zi i), (6, zi 0)], [], (zu (zu m 68 ((wr i).toNat) 0) 69 0 ((m 69 0) + (m 65 ((wr i).toNat))))) _ (And.intro (z_ixL rfl) (hT.1 [] 6 (D + 2) 295 _ _ (And.intro (fun a11 => (hT.1 [(34, [0, 2, 3, 4, 5])] 6 (D + 3) 105 _ _ (o15 a2 (Classical.byContradiction a4) (Classical.byContradiction a10) a11))) (fun a12 => (hT.1 [(34, [0, 2, 3, 4, 5])] 6 (D + 3) 105 _ _ (o16 a2 (Classical.byContradiction a4) (Classical.byContradiction a10) a12))))))))))))))))))))))
theorem zb105_34 (hT : zRules T) {D : Nat} {κ : Option zA → zM → Prop} {m : zM} {w : Nat} {q : Nat} {b : Int} {i : Int} {lo : zL} (hlo : z_keep [0, 2, 3, 4, 5] lo = [(0, zr 64), (2, zi (w : Int)), (3, zi (q : Int)), (4, zi b), (5, zi i)])  (hB : zB m) (h_w : w ≤ 3) (h_q : q ≤ 6561) (h_b : (-2147483648) ≤ b ∧ b ≤ 2147483647) (h_i : (-1) ≤ i ∧ i ≤ 6) 
    (k1 : i < 0 → κ (some (zi b)) m)
    (k2 : ¬ i < 0 → ¬ (w : Int) < 1 → (0 ≤ wr (Int.tmod (q : Int) (w : Int)) ∧ wr (Int.tmod (q : Int) (w : Int)) < 3))
    (k3 : ¬ i < 0 → ¬ (w : Int) < 1 → (0 ≤ wr (Int.tmod (q : Int) (w : Int)) ∧ wr (Int.tmod (q : Int) (w : Int)) < 3))
    (k4 : ¬ i < 0 → ¬ (w : Int) < 1 → (0 ≤ wr (Int.tmod (q : Int) (w : Int)) ∧ wr (Int.tmod (q : Int) (w : Int)) < 3))
    (k5 : ¬ i < 0 → ¬ (w : Int) < 1 → b < wr ((m 69 ((wr (Int.tmod (q : Int) (w : Int))).toNat)) + (m 65 (i.toNat))) → zB (zu (zu m 68 (i.toNat) (Int.tmod (q : Int) (w : Int))) 69 ((wr (Int.tmod (q : Int) (w : Int))).toNat) ((m 69 ((wr (Int.tmod (q : Int) (w : Int))).toNat)) + (m 65 (i.toNat)))) → T (D + 3) 105 (34, [(0, zr 64), (2, zi (w : Int)), (3, zi (Int.tdiv (q : Int) (w : Int))), (4, zi (wr ((m 69 ((wr (Int.tmod (q : Int) (w : Int))).toNat)) + (m 65 (i.toNat))))), (5, zi (i + (-1)))], [], (zu (zu m 68 (i.toNat) (Int.tmod (q : Int) (w : Int))) 69 ((wr (Int.tmod (q : Int) (w : Int))).toNat) ((m 69 ((wr (Int.tmod (q : Int) (w : Int))).toNat)) + (m 65 (i.toNat))))) κ)
    (k6 : ¬ i < 0 → ¬ (w : Int) < 1 → ¬ b < wr ((m 69 ((wr (Int.tmod (q : Int) (w : Int))).toNat)) + (m 65 (i.toNat))) → zB (zu (zu m 68 (i.toNat) (Int.tmod (q : Int) (w : Int))) 69 ((wr (Int.tmod (q : Int) (w : Int))).toNat) ((m 69 ((wr (Int.tmod (q : Int) (w : Int))).toNat)) + (m 65 (i.toNat)))) → T (D + 3) 105 (34, [(0, zr 64), (2, zi (w : Int)), (3, zi (Int.tdiv (q : Int) (w : Int))), (4, zi b), (5, zi (i + (-1)))], [], (zu (zu m 68 (i.toNat) (Int.tmod (q : Int) (w : Int))) 69 ((wr (Int.tmod (q : Int) (w : Int))).toNat) ((m 69 ((wr (Int.tmod (q : Int) (w : Int))).toNat)) + (m 65 (i.toNat))))) κ)
    (k7 : ¬ i < 0 → (w : Int) < 1 → b < wr ((m 69 0) + (m 65 (i.toNat))) → zB (zu (zu m 68 (i.toNat) 0) 69 0 ((m 69 0) + (m 65 (i.toNat)))) → T (D + 3) 105 (34, [(0, zr 64), (2, zi (w : Int)), (3, zi 0), (4, zi (wr ((m 69 0) + (m 65 (i.toNat))))), (5, zi (i + (-1)))], [], (zu (zu m 68 (i.toNat) 0) 69 0 ((m 69 0) + (m 65 (i.toNat))))) κ)
    (k8 : ¬ i < 0 → (w : Int) < 1 → ¬ b < wr ((m 69 0) + (m 65 (i.toNat))) → zB (zu (zu m 68 (i.toNat) 0) 69 0 ((m 69 0) + (m 65 (i.toNat)))) → T (D + 3) 105 (34, [(0, zr 64), (2, zi (w : Int)), (3, zi 0), (4, zi b), (5, zi (i + (-1)))], [], (zu (zu m 68 (i.toNat) 0) 69 0 ((m 69 0) + (m 65 (i.toNat))))) κ) :
    T (D + 3) 105 (34, lo, [], m) κ := by
  have hb4 : 0 ≤ (m 65 (i.toNat)) ∧ (m 65 (i.toNat)) ≤ 20 := hB 65 (i.toNat)
  have hb5 : (-2147483648) ≤ wr ((m 69 0) + (m 65 (i.toNat))) ∧ wr ((m 69 0) + (m 65 (i.toNat))) ≤ 2147483647 := wrB ((m 69 0) + (m 65 (i.toNat)))
  have hb6 : (-2147483648) ≤ wr (Int.tmod (q : Int) (w : Int)) ∧ wr (Int.tmod (q : Int) (w : Int)) ≤ 2147483647 := wrB (Int.tmod (q : Int) (w : Int))
  have hb7 : (-2147483648) ≤ wr ((m 69 ((wr (Int.tmod (q : Int) (w : Int))).toNat)) + (m 65 (i.toNat))) ∧ wr ((m 69 ((wr (Int.tmod (q : Int) (w : Int))).toNat)) + (m 65 (i.toNat))) ≤ 2147483647 := wrB ((m 69 ((wr (Int.tmod (q : Int) (w : Int))).toNat)) + (m 65 (i.toNat)))
  have he0 : wr i = i := wr_id (by omega) (by omega)
  have he1 : wr b = b := wr_id (by omega) (by omega)
  have he2 : wr (w : Int) = (w : Int) := wr_id (by omega) (by omega)
  have he3 : wr (q : Int) = (q : Int) := wr_id (by omega) (by omega)
  have he4 : ((zu (zu m 68 (i.toNat) (Int.tmod (q : Int) (w : Int))) 69 ((wr (Int.tmod (q : Int) (w : Int))).toNat) ((m 69 ((wr (Int.tmod (q : Int) (w : Int))).toNat)) + (m 65 (i.toNat)))) 69 ((wr (Int.tmod (q : Int) (w : Int))).toNat)) = ((m 69 ((wr (Int.tmod (q : Int) (w : Int))).toNat)) + (m 65 (i.toNat))) := (zu_sm (by omega))
  have key := @zb105_34r T hT D κ m w q b i lo hlo
  simp only [he0, he1, he2, he3, he4, Int.toNat_natCast] at key
  exact key
    k1
    (fun x0 x1 => by omega)
    (fun x0 x1 x2 => by omega)
    (fun x0 x1 x2 => by refine ⟨?_, ?_⟩ <;> omega)
    (fun x0 x1 x2 => k2 x0 x1)
    (fun x0 x1 x2 => by refine ⟨?_, ?_⟩ <;> omega)
    (fun x0 x1 x2 => k3 x0 x1)
    (fun x0 x1 x2 => k4 x0 x1)
    (fun x0 x1 x2 x3 => k5 x0 x1 x3 (zB_u (zB_u hB trivial) trivial))
    (fun x0 x1 x2 x3 => k6 x0 x1 x3 (zB_u (zB_u hB trivial) trivial))
    (fun x0 x1 x2 => by omega)
    (fun x0 x1 x2 => by omega)
    (fun x0 x1 x2 => by refine ⟨?_, ?_⟩ <;> omega)
    (fun x0 x1 x2 => by refine ⟨?_, ?_⟩ <;> omega)
    (fun x0 x1 x2 x3 => k7 x0 x1 x3 (zB_u (zB_u hB trivial) trivial))
    (fun x0 x1 x2 x3 => k8 x0 x1 x3 (zB_u (zB_u hB trivial) trivial))
theorem zb285_0r (hT : zRules T) {D : Nat} {κ : Option zA → zM → Prop} {m : zM} {w : Int} 
    (o1 : wr w < 1 → κ (some (zi (-1))) (zu m 74 12 0))
    (o2 : ¬ wr w < 1 → 3 < wr w → κ (some (zi (-1))) (zu m 74 12 0))
    (o3 : ¬ wr w < 1 → ¬ 3 < wr w → T (D + 1) 284 (0, [(0, zr 74), (1, zi 0), (2, zi w), (3, zi 0)], [], (zu (zu m 74 12 0) 74 61 100000000)) (fun r m1 => T (D + 2) 285 (30, [(0, zr 74), (1, zi w)], r.toList ++ [], m1) κ)) :
    T (D + 2) 285 (0, [(0, zr 74), (1, zi w)], [], m) κ :=
  hT.1 [(37, [0, 2])] 6 (D + 2) 285 _ κ (And.intro trivial (hT.1 [(37, [0, 2])] 6 (D + 2) 285 (8, [(0, zr 74), (1, zi w)], [zi 3, zi 1, zi w], (zu m 74 12 0)) _ (hT.1 [] 6 (D + 1) 186 _ _ (And.intro (fun a1 => (And.intro (z_b01L rfl) (hT.1 [(37, [0, 2])] 6 (D + 2) 285 _ _ (And.intro (fun a3 => (z_litF a3 rfl).elim) (fun _ => (o1 a1)))))) (fun a2 => (And.intro (fun a4 => (hT.1 [] 6 (D + 1) 186 (14, [(0, zi w), (1, zi 1), (2, zi 3)], [], (zu m 74 12 0)) _ (And.intro (z_b01L rfl) (hT.1 [(37, [0, 2])] 6 (D + 2) 285 _ _ (And.intro (fun a6 => (z_litF a6 rfl).elim) (fun _ => (o2 a2 a4))))))) (fun a5 => (hT.1 [] 6 (D + 1) 186 (10, [(0, zi w), (1, zi 1), (2, zi 3)], [], (zu m 74 12 0)) _ (And.intro (z_b01L rfl) (hT.1 [(37, [0, 2])] 6 (D + 2) 285 _ _ (And.intro (fun _ => (And.intro trivial (hT.1 [(37, [0, 2])] 6 (D + 2) 285 (25, [(0, zr 74), (1, zi w)], [zi 0, zr 74], (zu (zu m 74 12 0) 74 61 100000000)) _ (o3 a2 a5)))) (fun a7 => (a7 (z_litT rfl)).elim))))))))))))
theorem zb285_0 (hT : zRules T) {D : Nat} {κ : Option zA → zM → Prop} {m : zM} {w : Int}  (hB : zB m) (h_w : (-2147483648) ≤ w ∧ w ≤ 2147483647) 
    (k1 : w < 1 → zB (zu m 74 12 0) → κ (some (zi (-1))) (zu m 74 12 0))
    (k2 : ¬ w < 1 → 3 < w → zB (zu m 74 12 0) → κ (some (zi (-1))) (zu m 74 12 0))
    (k3 : ¬ w < 1 → ¬ 3 < w → zB (zu (zu m 74 12 0) 74 61 100000000) → T (D + 1) 284 (0, [(0, zr 74), (1, zi 0), (2, zi w), (3, zi 0)], [], (zu (zu m 74 12 0) 74 61 100000000)) (fun r m1 => T (D + 2) 285 (30, [(0, zr 74), (1, zi w)], r.toList ++ [], m1) κ)) :
    T (D + 2) 285 (0, [(0, zr 74), (1, zi w)], [], m) κ := by
  have he0 : wr w = w := wr_id (by omega) (by omega)
  have key := @zb285_0r T hT D κ m w
  simp only [he0, Int.toNat_natCast] at key
  exact key
    (fun x0 => k1 x0 (zB_u hB trivial))
    (fun x0 x1 => k2 x0 x1 (zB_u hB trivial))
    (fun x0 x1 => k3 x0 x1 (zB_u (zB_u hB trivial) trivial))
theorem zb285_30r (hT : zRules T) {D : Nat} {κ : Option zA → zM → Prop} {m : zM} {lo : zL} (hlo : z_keep [0] lo = [(0, zr 74)]) 
    (o1 : T (D + 2) 285 (37, [(0, zr 74), (2, zi 0)], [], (zu m 74 11 0)) κ) :
    T (D + 2) 285 (30, lo, [], m) κ :=
  zkeep hT hlo (hT.1 [(37, [0, 2])] 6 (D + 2) 285 _ κ (And.intro trivial (o1)))
theorem zb285_30 (hT : zRules T) {D : Nat} {κ : Option zA → zM → Prop} {m : zM} {lo : zL} (hlo : z_keep [0] lo = [(0, zr 74)])  (hB : zB m) 
    (k1 : zB (zu m 74 11 0) → T (D + 2) 285 (37, [(0, zr 74), (2, zi 0)], [], (zu m 74 11 0)) κ) :
    T (D + 2) 285 (30, lo, [], m) κ := by
  exact zb285_30r hT hlo
    (k1  (zB_u hB (show 0 ≤ 0 ∧ 0 ≤ 32 from ⟨by omega, by omega⟩)))
theorem zb285_37r (hT : zRules T) {D : Nat} {κ : Option zA → zM → Prop} {m : zM} {i : Nat} {lo : zL} (hlo : z_keep [0, 2] lo = [(0, zr 74), (2, zi (i : Int))]) 
    (o1 : ¬ wr (i : Int) < wr (m 74 54) → κ (some (zi (wr (m 74 61)))) m)
    (o2 : wr (i : Int) < wr (m 74 54) → (0 ≤ wr (i : Int) ∧ wr (i : Int) < 7))
    (o3 : wr (i : Int) < wr (m 74 54) → (0 ≤ wr (m 74 11) ∧ wr (m 74 11) < 32))
    (o4 : wr (i : Int) < wr (m 74 54) → T (D + 2) 285 (37, [(0, zr 74), (2, zi ((i : Int) + 1))], [], (zu (zu m 81 ((wr (m 74 11)).toNat) (m 105 ((wr (i : Int)).toNat))) 74 11 ((m 74 11) + 1))) κ) :
    T (D + 2) 285 (37, lo, [], m) κ :=
  zkeep hT hlo (hT.1 [(37, [0, 2])] 6 (D + 2) 285 _ κ (And.intro (fun a1 => (hT.1 [(37, [0, 2])] 6 (D + 2) 285 (65, [(0, zr 74), (2, zi (i : Int))], [zi (m 74 61)], m) _ (o1 a1))) (fun a2 => (hT.1 [(37, [0, 2])] 6 (D + 2) 285 (47, [(0, zr 74), (2, zi (i : Int))], [zr 74, zr 74], m) _ (And.intro (o2 (Classical.byContradiction a2)) (hT.1 [] 6 (D + 1) 189 _ _ (And.intro (And.intro (o3 (Classical.byContradiction a2)) trivial) (hT.1 [] 6 (D + 1) 189 (10, [(0, zr 74), (1, zi (m 105 ((wr (i : Int)).toNat)))], [], (zu m 81 ((wr (m 74 11)).toNat) (m 105 ((wr (i : Int)).toNat)))) _ (And.intro trivial (hT.1 [] 6 (D + 1) 189 (20, [(0, zr 74), (1, zi (m 105 ((wr (i : Int)).toNat)))], [], (zu (zu m 81 ((wr (m 74 11)).toNat) (m 105 ((wr (i : Int)).toNat))) 74 11 ((m 74 11) + 1))) _ (hT.1 [(37, [0, 2])] 6 (D + 2) 285 _ _ (o4 (Classical.byContradiction a2)))))))))))))
theorem zb285_37 (hT : zRules T) {D : Nat} {κ : Option zA → zM → Prop} {m : zM} {i : Nat} {lo : zL} (hlo : z_keep [0, 2] lo = [(0, zr 74), (2, zi (i : Int))])  (hB : zB m) (h_i : i ≤ 7) 
    (k1 : ¬ (i : Int) < (m 74 54) → κ (some (zi (wr (m 74 61)))) m)
    (k2 : (i : Int) < (m 74 54) → (0 ≤ (m 74 11) ∧ (m 74 11) < 32))
    (k3 : (i : Int) < (m 74 54) → T (D + 2) 285 (37, [(0, zr 74), (2, zi ((i : Int) + 1))], [], (zu (zu m 81 ((m 74 11).toNat) (m 105 i)) 74 11 ((m 74 11) + 1))) κ) :
    T (D + 2) 285 (37, lo, [], m) κ := by
  have hb1 : 0 ≤ (m 74 54) ∧ (m 74 54) ≤ 7 := hB 74 54
  have hb2 : 0 ≤ (m 74 11) ∧ (m 74 11) ≤ 32 := hB 74 11
  have hb3 : (-2147483648) ≤ wr (m 74 61) ∧ wr (m 74 61) ≤ 2147483647 := wrB (m 74 61)
  have he0 : wr (i : Int) = (i : Int) := wr_id (by omega) (by omega)
  have he1 : wr (m 74 54) = (m 74 54) := wr_id (by omega) (by omega)
  have he2 : (i : Int).toNat = i := by omega
  have he3 : wr (m 74 11) = (m 74 11) := wr_id (by omega) (by omega)
  have key := @zb285_37r T hT D κ m i lo hlo
  simp only [he0, he1, he2, he3, Int.toNat_natCast] at key
  exact key
    k1
    (fun x0 => by refine ⟨?_, ?_⟩ <;> omega)
    k2
    k3
theorem zb284_0r (hT : zRules T) {D : Nat} {κ : Option zA → zM → Prop} {m : zM} {k : Nat} {w : Nat} {t : Int} 
    (o1 : wr t < wr (m 74 61) → ¬ wr (k : Int) = wr (m 74 54) → T (D + 1) 284 (58, [(0, zr 74), (1, zi (k : Int)), (2, zi (w : Int)), (3, zi t), (4, zi 0)], [], m) κ)
    (o2 : wr t < wr (m 74 61) → wr (k : Int) = wr (m 74 54) → T (D + 1) 284 (25, [(0, zr 74), (4, zi 0)], [], (zu m 74 61 t)) κ)
    (o3 : ¬ wr t < wr (m 74 61) → κ (none) m) :
    T (D + 1) 284 (0, [(0, zr 74), (1, zi (k : Int)), (2, zi (w : Int)), (3, zi t)], [], m) κ :=
  hT.1 [(25, [0, 4]), (58, [0, 1, 2, 3, 4])] 6 (D + 1) 284 _ κ (And.intro (fun a1 => (hT.1 [(25, [0, 4]), (58, [0, 1, 2, 3, 4])] 6 (D + 1) 284 (11, [(0, zr 74), (1, zi (k : Int)), (2, zi (w : Int)), (3, zi t)], [zr 74, zi (k : Int)], m) _ (And.intro (fun a3 => (o1 a1 a3)) (fun a4 => (And.intro trivial (hT.1 [(25, [0, 4]), (58, [0, 1, 2, 3, 4])] 6 (D + 1) 284 (23, [(0, zr 74), (1, zi (k : Int)), (2, zi (w : Int)), (3, zi t)], [zi 0], (zu m 74 61 t)) _ (o2 a1 (Classical.byContradiction a4)))))))) (fun a2 => (o3 a2)))
theorem zb284_0 (hT : zRules T) {D : Nat} {κ : Option zA → zM → Prop} {m : zM} {k : Nat} {w : Nat} {t : Int}  (hB : zB m) (h_k : k ≤ 7) (h_w : w ≤ 3) (h_t : (-2147483648) ≤ t ∧ t ≤ 2147483647) 
    (k1 : t < wr (m 74 61) → ¬ (k : Int) = (m 74 54) → T (D + 1) 284 (58, [(0, zr 74), (1, zi (k : Int)), (2, zi (w : Int)), (3, zi t), (4, zi 0)], [], m) κ)
    (k2 : t < wr (m 74 61) → (k : Int) = (m 74 54) → zB (zu m 74 61 t) → T (D + 1) 284 (25, [(0, zr 74), (4, zi 0)], [], (zu m 74 61 t)) κ)
    (k3 : ¬ t < wr (m 74 61) → κ (none) m) :
    T (D + 1) 284 (0, [(0, zr 74), (1, zi (k : Int)), (2, zi (w : Int)), (3, zi t)], [], m) κ := by
  have hb3 : (-2147483648) ≤ wr (m 74 61) ∧ wr (m 74 61) ≤ 2147483647 := wrB (m 74 61)
  have hb4 : 0 ≤ (m 74 54) ∧ (m 74 54) ≤ 7 := hB 74 54
  have he0 : wr t = t := wr_id (by omega) (by omega)
  have he1 : wr (k : Int) = (k : Int) := wr_id (by omega) (by omega)
  have he2 : wr (m 74 54) = (m 74 54) := wr_id (by omega) (by omega)
  have key := @zb284_0r T hT D κ m k w t
  simp only [he0, he1, he2, Int.toNat_natCast] at key
  exact key
    k1
    (fun x0 x1 => k2 x0 x1 (zB_u hB trivial))
    k3
theorem zb284_25r (hT : zRules T) {D : Nat} {κ : Option zA → zM → Prop} {m : zM} {i : Nat} {lo : zL} (hlo : z_keep [0, 4] lo = [(0, zr 74), (4, zi (i : Int))]) 
    (o1 : ¬ wr (i : Int) < wr (m 74 54) → κ (none) m)
    (o2 : wr (i : Int) < wr (m 74 54) → (0 ≤ wr (i : Int) ∧ wr (i : Int) < 7))
    (o3 : wr (i : Int) < wr (m 74 54) → (0 ≤ wr (i : Int) ∧ wr (i : Int) < 7))
    (o4 : wr (i : Int) < wr (m 74 54) → T (D + 1) 284 (25, [(0, zr 74), (4, zi ((i : Int) + 1))], [], (zu m 105 ((wr (i : Int)).toNat) (m 104 ((wr (i : Int)).toNat)))) κ) :
    T (D + 1) 284 (25, lo, [], m) κ :=
  zkeep hT hlo (hT.1 [(25, [0, 4]), (58, [0, 1, 2, 3, 4])] 6 (D + 1) 284 _ κ (And.intro (fun a1 => (o1 a1)) (fun a2 => (hT.1 [(25, [0, 4]), (58, [0, 1, 2, 3, 4])] 6 (D + 1) 284 (38, [(0, zr 74), (4, zi (i : Int))], [zr 105], m) _ (And.intro (o2 (Classical.byContradiction a2)) (And.intro (And.intro (o3 (Classical.byContradiction a2)) trivial) (hT.1 [(25, [0, 4]), (58, [0, 1, 2, 3, 4])] 6 (D + 1) 284 (48, [(0, zr 74), (4, zi (i : Int))], [], (zu m 105 ((wr (i : Int)).toNat) (m 104 ((wr (i : Int)).toNat)))) _ (o4 (Classical.byContradiction a2)))))))))
theorem zb284_25 (hT : zRules T) {D : Nat} {κ : Option zA → zM → Prop} {m : zM} {i : Nat} {lo : zL} (hlo : z_keep [0, 4] lo = [(0, zr 74), (4, zi (i : Int))])  (hB : zB m) (h_i : i ≤ 7) 
    (k1 : ¬ (i : Int) < (m 74 54) → κ (none) m)
    (k2 : (i : Int) < (m 74 54) → zB (zu m 105 i (m 104 i)) → T (D + 1) 284 (25, [(0, zr 74), (4, zi ((i : Int) + 1))], [], (zu m 105 i (m 104 i))) κ) :
    T (D + 1) 284 (25, lo, [], m) κ := by
  have hb1 : 0 ≤ (m 74 54) ∧ (m 74 54) ≤ 7 := hB 74 54
  have he0 : wr (i : Int) = (i : Int) := wr_id (by omega) (by omega)
  have he1 : wr (m 74 54) = (m 74 54) := wr_id (by omega) (by omega)
  have he2 : (i : Int).toNat = i := by omega
  have key := @zb284_25r T hT D κ m i lo hlo
  simp only [he0, he1, he2, Int.toNat_natCast] at key
  exact key
    k1
    (fun x0 => by refine ⟨?_, ?_⟩ <;> omega)
    (fun x0 => by refine ⟨?_, ?_⟩ <;> omega)
    (fun x0 => k2 x0 (zB_u hB trivial))
theorem zb284_58r (hT : zRules T) {D : Nat} {κ : Option zA → zM → Prop} {m : zM} {k : Nat} {w : Nat} {t : Int} {i : Nat} {lo : zL} (hlo : z_keep [0, 1, 2, 3, 4] lo = [(0, zr 74), (1, zi (k : Int)), (2, zi (w : Int)), (3, zi t), (4, zi (i : Int))]) 
    (o1 : ¬ wr (i : Int) < wr (w : Int) → κ (none) m)
    (o2 : wr (i : Int) < wr (w : Int) → (0 ≤ wr (k : Int) ∧ wr (k : Int) < 7))
    (o3 : wr (i : Int) < wr (w : Int) → (0 ≤ wr (i : Int) ∧ wr (i : Int) < 3))
    (o4 : wr (i : Int) < wr (w : Int) → (0 ≤ wr (2 * (k : Int)) ∧ wr (2 * (k : Int)) < 14))
    (o5 : wr (i : Int) < wr (w : Int) → (0 ≤ wr (i : Int) ∧ wr (i : Int) < 3))
    (o6 : wr (i : Int) < wr (w : Int) → (0 ≤ wr (i : Int) ∧ wr (i : Int) < 3))
    (o7 : wr (i : Int) < wr (w : Int) → wr t < wr ((zu (zu m 104 ((wr (k : Int)).toNat) (i : Int)) 103 ((wr (i : Int)).toNat) ((m 103 ((wr (i : Int)).toNat)) + (m 100 ((wr (2 * (k : Int))).toNat)))) 103 ((wr (i : Int)).toNat)) → T D 284 (0, [(0, zr 74), (1, zi ((k : Int) + 1)), (2, zi (w : Int)), (3, zi (wr ((zu (zu m 104 ((wr (k : Int)).toNat) (i : Int)) 103 ((wr (i : Int)).toNat) ((m 103 ((wr (i : Int)).toNat)) + (m 100 ((wr (2 * (k : Int))).toNat)))) 103 ((wr (i : Int)).toNat))))], [], (zu (zu m 104 ((wr (k : Int)).toNat) (i : Int)) 103 ((wr (i : Int)).toNat) ((m 103 ((wr (i : Int)).toNat)) + (m 100 ((wr (2 * (k : Int))).toNat))))) (fun r m1 => T (D + 1) 284 (109, [(0, zr 74), (1, zi (k : Int)), (2, zi (w : Int)), (3, zi t), (4, zi (i : Int))], r.toList ++ [], m1) κ))
    (o8 : wr (i : Int) < wr (w : Int) → ¬ wr t < wr ((zu (zu m 104 ((wr (k : Int)).toNat) (i : Int)) 103 ((wr (i : Int)).toNat) ((m 103 ((wr (i : Int)).toNat)) + (m 100 ((wr (2 * (k : Int))).toNat)))) 103 ((wr (i : Int)).toNat)) → T D 284 (0, [(0, zr 74), (1, zi ((k : Int) + 1)), (2, zi (w : Int)), (3, zi (wr t))], [], (zu (zu m 104 ((wr (k : Int)).toNat) (i : Int)) 103 ((wr (i : Int)).toNat) ((m 103 ((wr (i : Int)).toNat)) + (m 100 ((wr (2 * (k : Int))).toNat))))) (fun r m1 => T (D + 1) 284 (109, [(0, zr 74), (1, zi (k : Int)), (2, zi (w : Int)), (3, zi t), (4, zi (i : Int))], r.toList ++ [], m1) κ)) :
    T (D + 1) 284 (58, lo, [], m) κ :=
  zkeep hT hlo (hT.1 [(25, [0, 4]), (58, [0, 1, 2, 3, 4])] 6 (D + 1) 284 _ κ (And.intro (fun a1 => (o1 a1)) (fun a2 => (hT.1 [(25, [0, 4]), (58, [0, 1, 2, 3, 4])] 6 (D + 1) 284 (69, [(0, zr 74), (1, zi (k : Int)), (2, zi (w : Int)), (3, zi t), (4, zi (i : Int))], [zi (k : Int), zr 104], m) _ (And.intro (And.intro (o2 (Classical.byContradiction a2)) trivial) (hT.1 [(25, [0, 4]), (58, [0, 1, 2, 3, 4])] 6 (D + 1) 284 (79, [(0, zr 74), (1, zi (k : Int)), (2, zi (w : Int)), (3, zi t), (4, zi (i : Int))], [zi (i : Int), zr 103, zi (i : Int), zr 103], (zu m 104 ((wr (k : Int)).toNat) (i : Int))) _ (And.intro (o3 (Classical.byContradiction a2)) (hT.1 [(25, [0, 4]), (58, [0, 1, 2, 3, 4])] 6 (D + 1) 284 (87, [(0, zr 74), (1, zi (k : Int)), (2, zi (w : Int)), (3, zi t), (4, zi (i : Int))], [zi (2 * (k : Int)), zr 100, zi (m 103 ((wr (i : Int)).toNat)), zi (i : Int), zr 103], (zu m 104 ((wr (k : Int)).toNat) (i : Int))) _ (And.intro (o4 (Classical.byContradiction a2)) (And.intro (And.intro (o5 (Classical.byContradiction a2)) trivial) (hT.1 [(25, [0, 4]), (58, [0, 1, 2, 3, 4])] 6 (D + 1) 284 (93, [(0, zr 74), (1, zi (k : Int)), (2, zi (w : Int)), (3, zi t), (4, zi (i : Int))], [zi 1, zi (k : Int), zr 74], (zu (zu m 104 ((wr (k : Int)).toNat) (i : Int)) 103 ((wr (i : Int)).toNat) ((m 103 ((wr (i : Int)).toNat)) + (m 100 ((wr (2 * (k : Int))).toNat))))) _ (hT.1 [(25, [0, 4]), (58, [0, 1, 2, 3, 4])] 6 (D + 1) 284 (102, [(0, zr 74), (1, zi (k : Int)), (2, zi (w : Int)), (3, zi t), (4, zi (i : Int))], [zi (i : Int), zr 103, zi t, zi (w : Int), zi ((k : Int) + 1), zr 74], (zu (zu m 104 ((wr (k : Int)).toNat) (i : Int)) 103 ((wr (i : Int)).toNat) ((m 103 ((wr (i : Int)).toNat)) + (m 100 ((wr (2 * (k : Int))).toNat))))) _ (And.intro (o6 (Classical.byContradiction a2)) (hT.1 [] 6 D 295 _ _ (And.intro (fun a3 => (hT.1 [(25, [0, 4]), (58, [0, 1, 2, 3, 4])] 6 (D + 1) 284 _ _ (o7 (Classical.byContradiction a2) a3))) (fun a4 => (hT.1 [(25, [0, 4]), (58, [0, 1, 2, 3, 4])] 6 (D + 1) 284 _ _ (o8 (Classical.byContradiction a2) a4))))))))))))))))))
theorem zb284_58 (hT : zRules T) {D : Nat} {κ : Option zA → zM → Prop} {m : zM} {k : Nat} {w : Nat} {t : Int} {i : Nat} {lo : zL} (hlo : z_keep [0, 1, 2, 3, 4] lo = [(0, zr 74), (1, zi (k : Int)), (2, zi (w : Int)), (3, zi t), (4, zi (i : Int))])  (hB : zB m) (h_k : k ≤ 6) (h_w : w ≤ 3) (h_t : (-2147483648) ≤ t ∧ t ≤ 2147483647) (h_i : i ≤ 3) 
    (k1 : ¬ (i : Int) < (w : Int) → κ (none) m)
    (k2 : (i : Int) < (w : Int) → t < wr ((m 103 i) + (m 100 (2 * k))) → zB (zu (zu m 104 k (i : Int)) 103 i ((m 103 i) + (m 100 (2 * k)))) → T D 284 (0, [(0, zr 74), (1, zi ((k : Int) + 1)), (2, zi (w : Int)), (3, zi (wr ((m 103 i) + (m 100 (2 * k)))))], [], (zu (zu m 104 k (i : Int)) 103 i ((m 103 i) + (m 100 (2 * k))))) (fun r m1 => T (D + 1) 284 (109, [(0, zr 74), (1, zi (k : Int)), (2, zi (w : Int)), (3, zi t), (4, zi (i : Int))], r.toList ++ [], m1) κ))
    (k3 : (i : Int) < (w : Int) → ¬ t < wr ((m 103 i) + (m 100 (2 * k))) → zB (zu (zu m 104 k (i : Int)) 103 i ((m 103 i) + (m 100 (2 * k)))) → T D 284 (0, [(0, zr 74), (1, zi ((k : Int) + 1)), (2, zi (w : Int)), (3, zi t)], [], (zu (zu m 104 k (i : Int)) 103 i ((m 103 i) + (m 100 (2 * k))))) (fun r m1 => T (D + 1) 284 (109, [(0, zr 74), (1, zi (k : Int)), (2, zi (w : Int)), (3, zi t), (4, zi (i : Int))], r.toList ++ [], m1) κ)) :
    T (D + 1) 284 (58, lo, [], m) κ := by
  have hb4 : 0 ≤ (m 100 (2 * k)) ∧ (m 100 (2 * k)) ≤ 99 := hB 100 (2 * k)
  have hb5 : (-2147483648) ≤ wr ((m 103 i) + (m 100 (2 * k))) ∧ wr ((m 103 i) + (m 100 (2 * k))) ≤ 2147483647 := wrB ((m 103 i) + (m 100 (2 * k)))
  have he0 : wr (i : Int) = (i : Int) := wr_id (by omega) (by omega)
  have he1 : wr (w : Int) = (w : Int) := wr_id (by omega) (by omega)
  have he2 : wr (k : Int) = (k : Int) := wr_id (by omega) (by omega)
  have he3 : (k : Int).toNat = k := by omega
  have he4 : (i : Int).toNat = i := by omega
  have he5 : wr (2 * (k : Int)) = (2 * (k : Int)) := wr_id (by omega) (by omega)
  have he6 : (2 * (k : Int)).toNat = 2 * k := by omega
  have he7 : ((zu (zu m 104 k (i : Int)) 103 i ((m 103 i) + (m 100 (2 * k)))) 103 i) = ((m 103 i) + (m 100 (2 * k))) := (zu_sm (by omega))
  have he8 : wr t = t := wr_id (by omega) (by omega)
  have key := @zb284_58r T hT D κ m k w t i lo hlo
  simp only [he0, he1, he2, he3, he4, he5, he6, he7, he8, Int.toNat_natCast] at key
  exact key
    k1
    (fun x0 => by refine ⟨?_, ?_⟩ <;> omega)
    (fun x0 => by refine ⟨?_, ?_⟩ <;> omega)
    (fun x0 => by refine ⟨?_, ?_⟩ <;> omega)
    (fun x0 => by refine ⟨?_, ?_⟩ <;> omega)
    (fun x0 => by refine ⟨?_, ?_⟩ <;> omega)
    (fun x0 x1 => k2 x0 x1 (zB_u (zB_u hB trivial) trivial))
    (fun x0 x1 => k3 x0 x1 (zB_u (zB_u hB trivial) trivial))
theorem zb284_109r (hT : zRules T) {D : Nat} {κ : Option zA → zM → Prop} {m : zM} {k : Nat} {w : Nat} {t : Int} {i : Nat} {lo : zL} (hlo : z_keep [0, 1, 2, 3, 4] lo = [(0, zr 74), (1, zi (k : Int)), (2, zi (w : Int)), (3, zi t), (4, zi (i : Int))]) 
    (o1 : (0 ≤ wr (i : Int) ∧ wr (i : Int) < 3))
    (o2 : (0 ≤ wr (2 * (k : Int)) ∧ wr (2 * (k : Int)) < 14))
    (o3 : (0 ≤ wr (i : Int) ∧ wr (i : Int) < 3))
    (o4 : T (D + 1) 284 (58, [(0, zr 74), (1, zi (k : Int)), (2, zi (w : Int)), (3, zi t), (4, zi ((i : Int) + 1))], [], (zu m 103 ((wr (i : Int)).toNat) ((m 103 ((wr (i : Int)).toNat)) - (m 100 ((wr (2 * (k : Int))).toNat))))) κ) :
    T (D + 1) 284 (109, lo, [], m) κ :=
  zkeep hT hlo (hT.1 [(25, [0, 4]), (58, [0, 1, 2, 3, 4])] 6 (D + 1) 284 _ κ (And.intro (o1) (hT.1 [(25, [0, 4]), (58, [0, 1, 2, 3, 4])] 6 (D + 1) 284 (118, [(0, zr 74), (1, zi (k : Int)), (2, zi (w : Int)), (3, zi t), (4, zi (i : Int))], [zr 74, zi (m 103 ((wr (i : Int)).toNat)), zi (i : Int), zr 103], m) _ (And.intro (o2) (hT.1 [(25, [0, 4]), (58, [0, 1, 2, 3, 4])] 6 (D + 1) 284 (126, [(0, zr 74), (1, zi (k : Int)), (2, zi (w : Int)), (3, zi t), (4, zi (i : Int))], [zi ((m 103 ((wr (i : Int)).toNat)) - (m 100 ((wr (2 * (k : Int))).toNat))), zi (i : Int), zr 103], m) _ (And.intro (And.intro (o3) trivial) (o4)))))))
theorem zb284_109 (hT : zRules T) {D : Nat} {κ : Option zA → zM → Prop} {m : zM} {k : Nat} {w : Nat} {t : Int} {i : Nat} {lo : zL} (hlo : z_keep [0, 1, 2, 3, 4] lo = [(0, zr 74), (1, zi (k : Int)), (2, zi (w : Int)), (3, zi t), (4, zi (i : Int))])  (hB : zB m) (h_k : k ≤ 6) (h_w : w ≤ 3) (h_t : (-2147483648) ≤ t ∧ t ≤ 2147483647) (h_i : i ≤ 2) 
    (k1 : zB (zu m 103 i ((m 103 i) - (m 100 (2 * k)))) → T (D + 1) 284 (58, [(0, zr 74), (1, zi (k : Int)), (2, zi (w : Int)), (3, zi t), (4, zi ((i : Int) + 1))], [], (zu m 103 i ((m 103 i) - (m 100 (2 * k))))) κ) :
    T (D + 1) 284 (109, lo, [], m) κ := by
  have hb4 : 0 ≤ (m 100 (2 * k)) ∧ (m 100 (2 * k)) ≤ 99 := hB 100 (2 * k)
  have he0 : wr (i : Int) = (i : Int) := wr_id (by omega) (by omega)
  have he1 : (i : Int).toNat = i := by omega
  have he2 : wr (2 * (k : Int)) = (2 * (k : Int)) := wr_id (by omega) (by omega)
  have he3 : (2 * (k : Int)).toNat = 2 * k := by omega
  have key := @zb284_109r T hT D κ m k w t i lo hlo
  simp only [he0, he1, he2, he3, Int.toNat_natCast] at key
  exact key
    (by refine ⟨?_, ?_⟩ <;> omega)
    (by refine ⟨?_, ?_⟩ <;> omega)
    (by refine ⟨?_, ?_⟩ <;> omega)
    (k1  (zB_u hB trivial))
end ZBlocks
end
-- 99.hired.lean.txt
section
/-! hired(): the least, by both. -/
/-- what tailor c sews of the first k -/
noncomputable def hL (H : Nat → Int) (f : Nat → Nat) (c : Nat) : Nat → Int
  | 0 => 0
  | k + 1 => hL H f c k + (if f k = c then H k else 0)
noncomputable def hmx (a b : Int) : Int := if a < b then b else a
theorem hmx_or (a b : Int) : (hmx a b = a ∧ b ≤ a) ∨ (hmx a b = b ∧ a < b) := by
  unfold hmx
  split <;> omega
/-- when the last of them is done -/
noncomputable def hV (H : Nat → Int) (f : Nat → Nat) (k : Nat) : Int := hmx (hL H f 0 k) (hmx (hL H f 1 k) (hL H f 2 k))
theorem hV_or (H : Nat → Int) (f : Nat → Nat) (k : Nat) : (hV H f k = hL H f 0 k ∨ hV H f k = hL H f 1 k ∨ hV H f k = hL H f 2 k) ∧ hL H f 0 k ≤ hV H f k ∧ hL H f 1 k ≤ hV H f k ∧ hL H f 2 k ≤ hV H f k := by
  have h1 := hmx_or (hL H f 1 k) (hL H f 2 k)
  have h2 := hmx_or (hL H f 0 k) (hmx (hL H f 1 k) (hL H f 2 k))
  unfold hV
  omega
theorem hL_yes {H : Nat → Int} {f : Nat → Nat} {c k : Nat} (h : f k = c) : hL H f c (k + 1) = hL H f c k + H k := by rw [hL, if_pos h]
theorem hL_no {H : Nat → Int} {f : Nat → Nat} {c k : Nat} (h : ¬ f k = c) : hL H f c (k + 1) = hL H f c k := by rw [hL, if_neg h, Int.add_zero]
theorem hL_rng {H : Nat → Int} {f : Nat → Nat} {c : Nat} (hH : ∀ j, 0 ≤ H j ∧ H j ≤ 20) : ∀ k : Nat, 0 ≤ hL H f c k ∧ hL H f c k ≤ 20 * k
  | 0 => ⟨Int.le_refl 0, by rw [hL]; omega⟩
  | k + 1 => by
    have ih := hL_rng (f := f) (c := c) hH k
    have h := hH k
    by_cases e : f k = c
    · rw [hL_yes e]; omega
    · rw [hL_no e]; omega
theorem hL_congr {H : Nat → Int} {f g : Nat → Nat} {c : Nat} : ∀ k : Nat, (∀ j, j < k → g j = f j) → hL H g c k = hL H f c k
  | 0, _ => rfl
  | k + 1, h => by rw [hL, hL, hL_congr k (fun j hj => h j (by omega)), h k (by omega)]
theorem hV_congr {H : Nat → Int} {f g : Nat → Nat} {k : Nat} (h : ∀ j, j < k → g j = f j) : hV H g k = hV H f k := by
  unfold hV
  rw [hL_congr k h, hL_congr k h, hL_congr k h]
theorem hV_rng {H : Nat → Int} {f : Nat → Nat} {k : Nat} (hH : ∀ j, 0 ≤ H j ∧ H j ≤ 20) : 0 ≤ hV H f k ∧ hV H f k ≤ 20 * k := by
  have u := hV_or H f k
  have h0 := hL_rng (f := f) (c := 0) hH k
  have h1 := hL_rng (f := f) (c := 1) hH k
  have h2 := hL_rng (f := f) (c := 2) hH k
  omega
theorem hV_step {H : Nat → Int} {f : Nat → Nat} {k c : Nat} (hH : ∀ j, 0 ≤ H j ∧ H j ≤ 20) (hc : f k = c) (h3 : c < 3) : hV H f (k + 1) = if hV H f k < hL H f c k + H k then hL H f c k + H k else hV H f k := by
  have u := hV_or H f k
  have v := hV_or H f (k + 1)
  have h := hH k
  have q : c = 0 ∨ c = 1 ∨ c = 2 := by omega
  rcases q with rfl | rfl | rfl
  · rw [hL_yes hc, hL_no (show ¬ f k = 1 by omega), hL_no (show ¬ f k = 2 by omega)] at v
    split <;> omega
  · rw [hL_yes hc, hL_no (show ¬ f k = 0 by omega), hL_no (show ¬ f k = 2 by omega)] at v
    split <;> omega
  · rw [hL_yes hc, hL_no (show ¬ f k = 0 by omega), hL_no (show ¬ f k = 1 by omega)] at v
    split <;> omega
theorem hV_le {H : Nat → Int} {f : Nat → Nat} (hH : ∀ j, 0 ≤ H j ∧ H j ≤ 20) (k : Nat) : ∀ d : Nat, hV H f k ≤ hV H f (k + d)
  | 0 => Int.le_refl _
  | d + 1 => by
    have ih := hV_le (f := f) hH k d
    have u := hV_or H f (k + d)
    have v := hV_or H f (k + d + 1)
    have mm : ∀ c, hL H f c (k + d) ≤ hL H f c (k + d + 1) := fun c => by
      have := hH (k + d)
      by_cases e : f (k + d) = c
      · rw [hL_yes e]; omega
      · rw [hL_no e]; exact Int.le_refl _
    have m0 := mm 0
    have m1 := mm 1
    have m2 := mm 2
    show hV H f k ≤ hV H f (k + d + 1)
    omega
theorem hL_map {H : Nat → Int} {f g : Nat → Nat} {c d : Nat} (h : ∀ i, g i = c ↔ f i = d) : ∀ k : Nat, hL H g c k = hL H f d k
  | 0 => rfl
  | k + 1 => by
    by_cases e : f k = d
    · rw [hL_yes ((h k).2 e), hL_yes e, hL_map h k]
    · rw [hL_no (fun q => e ((h k).1 q)), hL_no e, hL_map h k]
/-- the first job may be given to the first tailor -/
theorem hV_swap {H : Nat → Int} {f : Nat → Nat} {w : Nat} (N : Nat) (hw : w ≤ 3) (hf : ∀ i, f i < w) : ∃ g : Nat → Nat, (∀ i, g i < w) ∧ g 0 = 0 ∧ hV H g N = hV H f N := by
  obtain ⟨s, hs⟩ : ∃ s, f 0 = s := ⟨_, rfl⟩
  have hs3 : s < w := by rw [← hs]; exact hf 0
  refine ⟨fun i => if f i = s then 0 else if f i = 0 then s else f i, fun i => ?_, ?_, ?_⟩
  · have := hf i
    dsimp only
    split
    · omega
    · split <;> omega
  · dsimp only
    rw [if_pos hs]
  · have u := hV_or H f N
    have v := hV_or H (fun i => if f i = s then 0 else if f i = 0 then s else f i) N
    have q : s = 0 ∨ s = 1 ∨ s = 2 := by omega
    have key : ∀ c d : Nat, (∀ x : Nat, (if x = s then 0 else if x = 0 then s else x) = c ↔ x = d) → hL H (fun i => if f i = s then 0 else if f i = 0 then s else f i) c N = hL H f d N := fun c d hh => hL_map (fun i => hh (f i)) N
    clear hs
    rcases q with rfl | rfl | rfl
    · rw [key 0 0 (fun x => by split <;> (try split) <;> omega), key 1 1 (fun x => by split <;> (try split) <;> omega), key 2 2 (fun x => by split <;> (try split) <;> omega)] at v
      omega
    · rw [key 0 1 (fun x => by split <;> (try split) <;> omega), key 1 0 (fun x => by split <;> (try split) <;> omega), key 2 2 (fun x => by split <;> (try split) <;> omega)] at v
      omega
    · rw [key 0 2 (fun x => by split <;> (try split) <;> omega), key 1 1 (fun x => by split <;> (try split) <;> omega), key 2 0 (fun x => by split <;> (try split) <;> omega)] at v
      omega
/-- a number's digits, the last job's the last -/
noncomputable def fW (w : Nat) : Nat → Nat → Nat → Nat
  | 0, _, _ => 0
  | j + 1, q, i => if i = j then q % w else fW w j (q / w) i
theorem fW_on {w j q : Nat} : fW w (j + 1) q j = q % w := by rw [fW, if_pos rfl]
theorem fW_off {w j q i : Nat} (h : i < j) : fW w (j + 1) q i = fW w j (q / w) i := by rw [fW, if_neg (by omega)]
theorem fW_lt {w : Nat} (hw : 1 ≤ w) : ∀ j q i : Nat, fW w j q i < w
  | 0, _, _ => by rw [fW]; omega
  | j + 1, q, i => by
    rw [fW]
    split
    · exact Nat.mod_lt _ (by omega)
    · exact fW_lt hw j _ i
theorem fW_all {w : Nat} {f : Nat → Nat} (hf : ∀ i, f i < w) (h0 : f 0 = 0) : ∀ j : Nat, ∃ q : Nat, q < w ^ j ∧ ∀ i, i < j + 1 → fW w (j + 1) q i = f i
  | 0 => ⟨0, by rw [Nat.pow_zero]; omega, fun i hi => by
      have : i = 0 := by omega
      subst this
      rw [fW_on, h0, Nat.zero_mod]⟩
  | j + 1 => by
    obtain ⟨q, h1, h2⟩ := fW_all hf h0 j
    have hj := hf (j + 1)
    refine ⟨w * q + f (j + 1), ?_, fun i hi => ?_⟩
    · rw [Nat.pow_succ, Nat.mul_comm (w ^ j) w]
      have h3 : w * (q + 1) ≤ w * w ^ j := Nat.mul_le_mul_left w h1
      rw [Nat.mul_add, Nat.mul_one] at h3
      omega
    · by_cases e : i = j + 1
      · subst e
        rw [fW_on, Nat.mul_add_mod, Nat.mod_eq_of_lt hj]
      · rw [fW_off (by omega), Nat.mul_add_div (by omega), Nat.div_eq_of_lt hj, Nat.add_zero]
        exact h2 i (by omega)
theorem hmx3 {x : Int} {c0 : Nat} {G G2 : Nat → Int} (h3 : c0 < 3) (hG : ∀ c, G2 c = if c = c0 then x else G c) (hx : G c0 ≤ x) : hmx (G2 0) (hmx (G2 1) (G2 2)) = if hmx (G 0) (hmx (G 1) (G 2)) < x then x else hmx (G 0) (hmx (G 1) (G 2)) := by
  have u1 := hmx_or (G 1) (G 2)
  have u2 := hmx_or (G 0) (hmx (G 1) (G 2))
  have u3 := hmx_or (G2 1) (G2 2)
  have u4 := hmx_or (G2 0) (hmx (G2 1) (G2 2))
  have e0 := hG 0
  have e1 := hG 1
  have e2 := hG 2
  have q : c0 = 0 ∨ c0 = 1 ∨ c0 = 2 := by omega
  rcases q with rfl | rfl | rfl
  · rw [if_pos rfl] at e0
    rw [if_neg (by decide)] at e1 e2
    split <;> omega
  · rw [if_pos rfl] at e1
    rw [if_neg (by decide)] at e0 e2
    split <;> omega
  · rw [if_pos rfl] at e2
    rw [if_neg (by decide)] at e0 e1
    split <;> omega
section ZHiredX
variable {T : Nat → Nat → zG → (Option zA → zM → Prop) → Prop} {B : Int}
theorem z_endOfX (hT : zRules T) {D : Nat} {κ : Option zA → zM → Prop} {m : zM} {w q N : Nat} (hB : zB m) (hN : m 64 2 = (N : Int)) (hw : 1 ≤ w ∧ w ≤ 3) (hq : q ≤ 6561) (hk : ∀ M, zB M → zFr (inL [(68, none), (69, none)]) m M → κ (some (zi (hV (m 65) (fW w N q) N))) M) : T (D + 3) 105 (0, [(0, zr 64), (1, zi (q : Int)), (2, zi (w : Int))], [], m) κ := by
  have b64 : 0 ≤ m 64 2 ∧ m 64 2 ≤ 7 := hB 64 2
  have key : ∀ (j q : Nat) (b : Int) (M : zM), j ≤ 7 → q ≤ 6561 → zB M → zFr (inL [(68, none), (69, none)]) m M → (∀ c, c < 3 → 0 ≤ M 69 c ∧ M 69 c ≤ 20 * (7 - (j : Int))) → b = hmx (M 69 0) (hmx (M 69 1) (M 69 2)) → (∀ M2, zB M2 → zFr (inL [(68, none), (69, none)]) m M2 → κ (some (zi (hmx (M 69 0 + hL (m 65) (fW w j q) 0 j) (hmx (M 69 1 + hL (m 65) (fW w j q) 1 j) (M 69 2 + hL (m 65) (fW w j q) 2 j))))) M2) → T (D + 3) 105 (34, [(0, zr 64), (2, zi (w : Int)), (3, zi (q : Int)), (4, zi b), (5, zi ((j : Int) - 1))], [], M) κ := by
    intro j
    induction j with
    | zero =>
      intro q b M hj hq hBM hF hr hb hk2
      have r0 := hr 0 (by decide)
      have r1 := hr 1 (by decide)
      have r2 := hr 2 (by decide)
      have u1 := hmx_or (M 69 1) (M 69 2)
      have u2 := hmx_or (M 69 0) (hmx (M 69 1) (M 69 2))
      have hbI : isI b := by unfold isI; omega
      refine zb105_34 hT rfl hBM (by omega) hq hbI (by omega) (fun _ => ?_) (fun q => by omega) (fun q => by omega) (fun q => by omega) (fun q => by omega) (fun q => by omega) (fun q => by omega) (fun q => by omega)
      have h1 := hk2 M hBM hF
      simp only [hL, Int.add_zero] at h1
      rw [hb]
      exact h1
    | succ j ih =>
      intro q b M hj hq hBM hF hr hb hk2
      have r0 := hr 0 (by decide)
      have r1 := hr 1 (by decide)
      have r2 := hr 2 (by decide)
      have u1 := hmx_or (M 69 1) (M 69 2)
      have u2 := hmx_or (M 69 0) (hmx (M 69 1) (M 69 2))
      have hbI : isI b := by unfold isI; omega
      have em : Int.tmod (q : Int) (w : Int) = ((q % w : Nat) : Int) := rfl
      have ed : Int.tdiv (q : Int) (w : Int) = ((q / w : Nat) : Int) := rfl
      have hm : q % w < w := Nat.mod_lt _ (by omega)
      have hd : q / w ≤ q := Nat.div_le_self q w
      have e1 : wr (Int.tmod (q : Int) (w : Int)) = ((q % w : Nat) : Int) := by rw [em, wr_id (by omega) (by omega)]
      have ix : 0 ≤ wr (Int.tmod (q : Int) (w : Int)) ∧ wr (Int.tmod (q : Int) (w : Int)) < 3 := by
        rw [e1]
        omega
      have b65 : 0 ≤ m 65 j ∧ m 65 j ≤ 20 := hB 65 j
      have e65 : M 65 j = m 65 j := hF 65 j rfl
      have rc := hr (q % w) (by omega)
      have hxw : wr (M 69 (q % w) + M 65 j) = M 69 (q % w) + M 65 j := by rw [e65]; exact wr_id (by omega) (by omega)
      have e69 : ∀ (v : Int) (c : Nat), (zu (zu M 68 j v) 69 (q % w) (M 69 (q % w) + M 65 j)) 69 c = if c = q % w then M 69 (q % w) + M 65 j else M 69 c := fun v c => by
        rw [zu_at, zu_dn (by decide)]
      have go : ∀ (v b2 : Int), b2 = (if b < M 69 (q % w) + M 65 j then M 69 (q % w) + M 65 j else b) → zB (zu (zu M 68 j v) 69 (q % w) (M 69 (q % w) + M 65 j)) → T (D + 3) 105 (34, [(0, zr 64), (2, zi (w : Int)), (3, zi ((q / w : Nat) : Int)), (4, zi b2), (5, zi ((j : Int) - 1))], [], zu (zu M 68 j v) 69 (q % w) (M 69 (q % w) + M 65 j)) κ := by
        intro v b2 hb2 hz
        have h3 := hmx3 (G := M 69) (G2 := (zu (zu M 68 j v) 69 (q % w) (M 69 (q % w) + M 65 j)) 69) (by omega) (e69 v) (by omega)
        have ee : ∀ c, (zu (zu M 68 j v) 69 (q % w) (M 69 (q % w) + M 65 j)) 69 c + hL (m 65) (fW w j (q / w)) c j = M 69 c + hL (m 65) (fW w (j + 1) q) c (j + 1) := fun c => by
          have hc : hL (m 65) (fW w (j + 1) q) c j = hL (m 65) (fW w j (q / w)) c j := hL_congr j (fun i hi => fW_off hi)
          rw [e69]
          by_cases e : c = q % w
          · rw [if_pos e, hL_yes (fW_on.trans e.symm), hc, e, e65]
            omega
          · rw [if_neg e, hL_no (fun x => e (x.symm.trans fW_on)), hc]
        refine ih (q / w) b2 _ (by omega) (by omega) hz ((hF.set rfl).set rfl) (fun c hc => ?_) (by rw [hb2, hb]; exact h3.symm) (fun M2 hB2 hF2 => ?_)
        · rw [e69]
          have := hr c hc
          split <;> omega
        · have h1 := hk2 M2 hB2 hF2
          rw [← ee 0, ← ee 1, ← ee 2] at h1
          exact h1
      rw [show ((j + 1 : Nat) : Int) - 1 = (j : Int) by omega]
      refine zb105_34 hT rfl hBM (by omega) hq hbI (by omega) (fun q => by omega) (fun _ _ => ix) (fun _ _ => ix) (fun _ _ => ix) (fun _ _ q2 hz => ?_) (fun _ _ q2 hz => ?_) (fun _ q => by omega) (fun _ q => by omega)
      · rw [e1, Int.toNat_natCast, Int.toNat_natCast] at q2 hz ⊢
        rw [hxw] at q2 ⊢
        rw [ed]
        exact go _ _ (by rw [if_pos q2]) hz
      · rw [e1, Int.toNat_natCast, Int.toNat_natCast] at q2 hz ⊢
        rw [hxw] at q2
        rw [ed]
        exact go _ _ (by rw [if_neg q2]) hz
  refine zb105_0 hT hB (by omega) hq (fun hz => ?_)
  have x0 : (zu (zu (zu m 69 0 0) 69 1 0) 69 2 0) 69 0 = 0 := by rw [zu_off (by decide), zu_off (by decide), zu_sm rfl]
  have x1 : (zu (zu (zu m 69 0 0) 69 1 0) 69 2 0) 69 1 = 0 := by rw [zu_off (by decide), zu_sm rfl]
  have x2 : (zu (zu (zu m 69 0 0) 69 1 0) 69 2 0) 69 2 = 0 := zu_sm rfl
  rw [hN]
  refine key N q 0 _ (by omega) hq hz (((zFr.refl.set rfl).set rfl).set rfl) (fun c hc => ?_) (by rw [x0, x1, x2]; decide) (fun M2 hB2 hF2 => ?_)
  · have : c = 0 ∨ c = 1 ∨ c = 2 := by omega
    rcases this with rfl | rfl | rfl
    · rw [x0]; omega
    · rw [x1]; omega
    · rw [x2]; omega
  · rw [x0, x1, x2, Int.zero_add, Int.zero_add, Int.zero_add]
    exact hk M2 hB2 hF2
theorem z_shareX (hT : zRules T) {D : Nat} {κ : Option zA → zM → Prop} {m : zM} {w N : Nat} (hB : zB m) (hN : m 64 2 = (N : Int)) (hw : 1 ≤ w ∧ w ≤ 3) (hk : ∀ b M, zB M → zFr (inL [(67, none), (68, none), (69, none)]) m M → (0 ≤ b ∧ b ≤ 140) → (∃ f : Nat → Nat, (∀ i, f i < w) ∧ b = hV (m 65) f N) → (∀ f : Nat → Nat, (∀ i, f i < w) → f 0 = 0 → b ≤ hV (m 65) f N) → κ (some (zi b)) M) : T (D + 4) 104 (0, [(0, zr 64), (1, zi (w : Int))], [], m) κ := by
  have b64 : 0 ≤ m 64 2 ∧ m 64 2 ≤ 7 := hB 64 2
  have hH : ∀ j, 0 ≤ m 65 j ∧ m 65 j ≤ 20 := fun j => hB 65 j
  have hrV : ∀ f : Nat → Nat, 0 ≤ hV (m 65) f N ∧ hV (m 65) f N ≤ 140 := fun f => by
    have := hV_rng (f := f) (k := N) hH
    omega
  have w1 : 1 ≤ w ^ (N - 1) := Nat.one_le_pow _ _ (by omega)
  have all : ∀ (j q a : Nat) (b : Int) (M : zM), a = w ^ (N - 1) → q + j = a → a ≤ 6561 → ((b = -1 ∧ q = 0) ∨ ((∃ q0, b = hV (m 65) (fW w N q0) N) ∧ ∀ q1, q1 < q → b ≤ hV (m 65) (fW w N q1) N)) → zB M → zFr (inL [(67, none), (68, none), (69, none)]) m M → T (D + 4) 104 (27, [(0, zr 64), (1, zi (w : Int)), (2, zi (a : Int)), (3, zi b), (4, zi (q : Int))], [], M) κ := by
    intro j
    induction j with
    | zero =>
      intro q a b M ha hqa ha2 hb hBM hF
      have hb2 : (∃ q0, b = hV (m 65) (fW w N q0) N) ∧ ∀ q1, q1 < q → b ≤ hV (m 65) (fW w N q1) N := by
        rcases hb with h | h
        · omega
        · exact h
      obtain ⟨⟨q0, h0⟩, h1⟩ := hb2
      have hr := hrV (fW w N q0)
      rw [← h0] at hr
      refine zb104_27 hT rfl hBM (by omega) ha2 (by omega) (by omega) (fun _ => hk b M hBM hF hr ⟨fW w N q0, fW_lt hw.1 N q0, h0⟩ (fun f hf hf0 => ?_)) (fun x => by omega)
      rcases Nat.eq_zero_or_pos N with e | e
      · have h2 := h1 0 (by omega)
        rw [hV_congr (f := f) (fun j hj => by omega)] at h2
        exact h2
      · obtain ⟨N1, rfl⟩ : ∃ N1, N = N1 + 1 := ⟨N - 1, by omega⟩
        obtain ⟨q2, h3, h4⟩ := fW_all hf hf0 N1
        rw [Nat.add_sub_cancel] at ha
        have h2 := h1 q2 (by omega)
        rw [hV_congr h4] at h2
        exact h2
    | succ j ih =>
      intro q a b M ha hqa ha2 hb hBM hF
      have hbI : isI b := by
        rcases hb with h | ⟨⟨q0, h⟩, _⟩
        · unfold isI; omega
        · have := hrV (fW w N q0)
          unfold isI; omega
      have e65 : M 65 = m 65 := funext fun j => hF 65 j rfl
      refine zb104_27 hT rfl hBM (by omega) ha2 hbI (by omega) (fun x => by omega) (fun _ => ?_)
      refine z_endOfX (N := N) hT hBM ((hF 64 2 rfl).trans hN) hw (by omega) (fun M1 hB1 hF1 => ?_)
      rw [e65]
      have hr := hrV (fW w N q)
      have hFa : zFr (inL [(67, none), (68, none), (69, none)]) m M1 := hF.trans (hF1.sub (inL_sub (by decide)))
      have nw : (b = -1 ∨ hV (m 65) (fW w N q) N < b) → (hV (m 65) (fW w N q) N = -1 ∧ q + 1 = 0) ∨ ((∃ q0, hV (m 65) (fW w N q) N = hV (m 65) (fW w N q0) N) ∧ ∀ q1, q1 < q + 1 → hV (m 65) (fW w N q) N ≤ hV (m 65) (fW w N q1) N) := fun hx => Or.inr ⟨⟨q, rfl⟩, fun q1 hq1 => by
        by_cases e : q1 = q
        · rw [e]; exact Int.le_refl _
        · rcases hb with h | ⟨⟨q0, h0⟩, h⟩
          · omega
          · have h2 := h q1 (by omega)
            have h3 := hrV (fW w N q0)
            omega⟩
      refine zb104_40 hT rfl hB1 (by omega) ha2 hbI (by omega) (by omega) (fun hx hz => ?_) (fun hx hy => ?_) (fun hx hy hz => ?_)
      · exact ih (q + 1) a _ _ ha (by omega) ha2 (nw (Or.inl hx)) hz (hFa.cp (fun _ => rfl))
      · refine ih (q + 1) a b M1 ha (by omega) ha2 ?_ hB1 hFa
        rcases hb with h | ⟨h0, h⟩
        · exact absurd h.1 hx
        · refine Or.inr ⟨h0, fun q1 hq1 => ?_⟩
          by_cases e : q1 = q
          · rw [e]; omega
          · exact h q1 (by omega)
      · exact ih (q + 1) a _ _ ha (by omega) ha2 (nw (Or.inr hy)) hz (hFa.cp (fun _ => rfl))
  have pw : ∀ (j t a : Nat), t + j = 7 → 1 ≤ t → (t ≤ N ∨ t = 1) → a = w ^ (t - 1) → T (D + 4) 104 (4, [(0, zr 64), (1, zi (w : Int)), (2, zi (a : Int)), (3, zi (t : Int))], [], m) κ := by
    intro j
    induction j with
    | zero =>
      intro t a ht h1 hN1 ha
      have et : t = 7 := by omega
      subst et
      have ha2 : a ≤ 729 := by rw [ha]; exact Nat.le_trans (Nat.pow_le_pow_left hw.2 6) (by decide)
      have e7 : 7 - 1 = N - 1 := by omega
      exact zb104_4 hT rfl hB (by omega) (by omega) (by omega) (fun _ => all a 0 a (-1) m (by rw [ha, e7]) (by omega) (by omega) (Or.inl ⟨rfl, rfl⟩) hB zFr.refl) (fun q => by omega)
    | succ j ih =>
      intro t a ht h1 hN1 ha
      have ha2 : a ≤ 729 := by rw [ha]; exact Nat.le_trans (Nat.pow_le_pow_left hw.2 (t - 1)) (Nat.le_trans (Nat.pow_le_pow_right (by omega) (show t - 1 ≤ 6 by omega)) (by decide))
      refine zb104_4 hT rfl hB (by omega) (by omega) (by omega) (fun q => ?_) (fun q => ?_)
      · have e7 : t - 1 = N - 1 := by omega
        exact all a 0 a (-1) m (by rw [ha, e7]) (by omega) (by omega) (Or.inl ⟨rfl, rfl⟩) hB zFr.refl
      · rw [show (a : Int) * (w : Int) = ((a * w : Nat) : Int) from (Int.natCast_mul a w).symm]
        refine ih (t + 1) (a * w) (by omega) (by omega) (Or.inl (by omega)) ?_
        rw [show t + 1 - 1 = (t - 1) + 1 by omega, Nat.pow_succ, ha]
  exact zb104_0 hT hB (by omega) (pw 6 1 1 (by omega) (by omega) (Or.inr rfl) (by rw [Nat.sub_self, Nat.pow_zero]))
noncomputable def gxL : zLs := [(74, some 61), (104, none), (105, none)]
theorem z_goHiredX (hT : zRules T) {N w : Nat} {H : Nat → Int} (hN7 : N ≤ 7) (hw : 1 ≤ w ∧ w ≤ 3) (hH : ∀ j, 0 ≤ H j ∧ H j ≤ 20) : ∀ (j : Nat) (D : Nat) (κ : Option zA → zM → Prop) (m : zM) (k : Nat) (f : Nat → Nat) (t : Int), t = hV H f k → zB m → m 74 54 = (N : Int) → (∀ i, i < N → m 100 (2 * i) = H i) → k + j = N → (∀ i, f i < w) → (∀ c, c < 3 → m 103 c = hL H f c k) → (0 ≤ m 74 61 ∧ m 74 61 ≤ 100000000) →
    (∀ M, zB M → zFr (inL gxL) m M → M 74 61 ≤ m 74 61 → (M 74 61 = m 74 61 ∨ ∃ g : Nat → Nat, (∀ i, g i < w) ∧ M 74 61 = hV H g N) → (∀ g : Nat → Nat, (∀ i, g i < w) → (∀ i, i < k → g i = f i) → M 74 61 ≤ hV H g N) → κ none M) →
    T (D + j + 1) 284 (0, [(0, zr 74), (1, zi (k : Int)), (2, zi (w : Int)), (3, zi t)], [], m) κ := by
  intro j
  induction j with
  | zero =>
    intro D κ m k f t ht hB hN h100 hkj hf h103 hr hk
    have hkN : k = N := by omega
    subst hkN
    have rV := hV_rng (f := f) (k := k) hH
    have ew : wr (m 74 61) = m 74 61 := wr_id (by omega) (by omega)
    refine zb284_0 (D := D) hT hB (by omega) (by omega) (by omega) (fun _ q => by omega) (fun hlt _ hz => ?_) (fun hge => ?_)
    · rw [ew] at hlt
      have key : ∀ (i c : Nat) (M : zM), c + i = k → zB M → zFr (inL gxL) m M → M 74 61 = t → T (D + 1) 284 (25, [(0, zr 74), (4, zi (c : Int))], [], M) κ := by
        intro i
        induction i with
        | zero =>
          intro c M hc hBM hF h61
          have e54 : M 74 54 = (k : Int) := (hF 74 54 rfl).trans hN
          refine zb284_25 (D := D) hT rfl hBM (by omega) (fun _ => hk M hBM hF (by omega) (Or.inr ⟨f, hf, by omega⟩) (fun g hg hgf => ?_)) (fun q => by omega)
          rw [hV_congr hgf]
          omega
        | succ i ih =>
          intro c M hc hBM hF h61
          have e54 : M 74 54 = (k : Int) := (hF 74 54 rfl).trans hN
          exact zb284_25 (D := D) hT rfl hBM (by omega) (fun q => by omega) (fun _ hz2 => ih (c + 1) _ (by omega) hz2 (hF.set rfl) (by rw [zu_dn (by decide)]; exact h61))
      exact key k 0 _ (by omega) hz (zFr.refl.set rfl) (zu_sm rfl)
    · rw [ew] at hge
      refine hk m hB zFr.refl (Int.le_refl _) (Or.inl rfl) (fun g hg hgf => ?_)
      rw [hV_congr hgf]
      omega
  | succ j ih =>
    intro D κ m k f t ht hB hN h100 hkj hf h103 hr hk
    have rV := hV_rng (f := f) (k := k) hH
    have ew : wr (m 74 61) = m 74 61 := wr_id (by omega) (by omega)
    have loop : ∀ (i c : Nat) (M : zM), c + i = w → zB M → zFr (inL gxL) m M → M 74 61 ≤ m 74 61 → (M 74 61 = m 74 61 ∨ ∃ g : Nat → Nat, (∀ i, g i < w) ∧ M 74 61 = hV H g N) → (∀ g : Nat → Nat, (∀ i, g i < w) → (∀ i, i < k → g i = f i) → g k < c → M 74 61 ≤ hV H g N) → T (D + (j + 1) + 1) 284 (58, [(0, zr 74), (1, zi (k : Int)), (2, zi (w : Int)), (3, zi t), (4, zi (c : Int))], [], M) κ := by
      intro i
      induction i with
      | zero =>
        intro c M hc hBM hF h1 h2 h3
        exact zb284_58 (D := D + j + 1) hT rfl hBM (by omega) (by omega) (by omega) (by omega) (fun _ => hk M hBM hF h1 h2 (fun g hg hgf => h3 g hg hgf (by have := hg k; omega))) (fun q => by omega) (fun q => by omega)
      | succ i ih2 =>
        intro c M hc hBM hF h1 h2 h3
        have e54 : M 74 54 = (N : Int) := (hF 74 54 rfl).trans hN
        have eH : M 100 (2 * k) = H k := (hF 100 (2 * k) rfl).trans (h100 k (by omega))
        have eB : M 103 c = hL H f c k := (hF 103 c rfl).trans (h103 c (by omega))
        have r103 := hL_rng (f := f) (c := c) hH k
        have rH := hH k
        have exw : wr (M 103 c + M 100 (2 * k)) = M 103 c + M 100 (2 * k) := wr_id (by omega) (by omega)
        have r61 : 0 ≤ M 74 61 ∧ M 74 61 ≤ 100000000 := by
          refine ⟨?_, by omega⟩
          rcases h2 with h2 | ⟨g, _, h2⟩
          · omega
          · have := hV_rng (f := g) (k := N) hH
            omega
        obtain ⟨F, eF⟩ : ∃ F : Nat → Nat, ∀ i, F i = if i = k then c else f i := ⟨fun i => if i = k then c else f i, fun _ => rfl⟩
        have hf2 : ∀ i, F i < w := fun i => by
          rw [eF]
          have := hf i
          split <;> omega
        have cg : ∀ i, i < k → F i = f i := fun i hi => by rw [eF, if_neg (by omega)]
        have on : F k = c := by rw [eF, if_pos rfl]
        have st := hV_step (f := F) (k := k) hH on (by omega)
        rw [hV_congr cg, hL_congr k cg, ← eB, ← eH, ← ht] at st
        have go : ∀ t2 : Int, t2 = hV H F (k + 1) → zB (zu (zu M 104 k (c : Int)) 103 c ((M 103 c) + (M 100 (2 * k)))) → T (D + j + 1) 284 (0, [(0, zr 74), (1, zi ((k : Int) + 1)), (2, zi (w : Int)), (3, zi t2)], [], (zu (zu M 104 k (c : Int)) 103 c ((M 103 c) + (M 100 (2 * k))))) (fun r m1 => T (D + (j + 1) + 1) 284 (109, [(0, zr 74), (1, zi (k : Int)), (2, zi (w : Int)), (3, zi t), (4, zi (c : Int))], r.toList ++ [], m1) κ) := by
          intro t2 ht2 hz
          refine ih D _ _ (k + 1) F t2 ht2 hz (by rw [zu_dn (by decide), zu_dn (by decide), e54]) (fun i hi => ?_) (by omega) hf2 (fun c2 hc2 => ?_) (by rw [zu_dn (by decide), zu_dn (by decide)]; exact r61) (fun M2 hB2 hF2 g1 g2 g3 => ?_)
          · rw [zu_dn (by decide), zu_dn (by decide), hF 100 (2 * i) rfl]
            exact h100 i hi
          · rw [zu_at, zu_dn (by decide)]
            by_cases e : c2 = c
            · rw [if_pos e, e, hL_yes on, hL_congr k cg, eB, eH]
            · rw [if_neg e, hL_no (fun x => e (x.symm.trans on)), hL_congr k cg, hF 103 c2 rfl]
              exact h103 c2 hc2
          · rw [zu_dn (by decide), zu_dn (by decide)] at g1 g2
            refine zb284_109 (D := D + j + 1) hT rfl hB2 (by omega) (by omega) (by omega) (by omega) (fun hz2 => ?_)
            refine ih2 (c + 1) _ (by omega) hz2 (fun c' j' hcj => ?_) (by rw [zu_dn (by decide)]; omega) ?_ (fun g hg hgf hgk => ?_)
            · have hM2 : ∀ c' j', inL gxL c' j' = false → ¬ (c' = 103 ∧ j' = c) → M2 c' j' = m c' j' := fun c' j' x y => by
                rw [hF2 c' j' x]
                by_cases e : c' = 103
                · subst e
                  rw [zu_off (fun z => y ⟨rfl, z⟩), zu_dn (by decide)]
                  exact hF 103 j' x
                · rw [zu_dn e]
                  by_cases e4 : c' = 104
                  · subst e4
                    cases x
                  · rw [zu_dn e4]
                    exact hF c' j' x
              by_cases e : c' = 103
              · subst e
                by_cases ej : j' = c
                · subst ej
                  rw [zu_sm rfl, hF2 103 j' rfl, zu_sm rfl, hF2 100 (2 * k) rfl, zu_dn (by decide), zu_dn (by decide), hF 103 j' rfl]
                  omega
                · rw [zu_off ej]
                  exact hM2 103 j' hcj (fun z => ej z.2)
              · rw [zu_dn e]
                exact hM2 c' j' hcj (fun z => e z.1)
            · rw [zu_dn (by decide)]
              rcases g2 with g2 | g2
              · rcases h2 with h2 | ⟨g, hg, h2⟩
                · exact Or.inl (g2.trans h2)
                · exact Or.inr ⟨g, hg, g2.trans h2⟩
              · exact Or.inr g2
            · rw [zu_dn (by decide)]
              by_cases e : g k = c
              · refine g3 g hg (fun i hi => ?_)
                by_cases ei : i = k
                · rw [ei, on, e]
                · rw [cg i (by omega)]
                  exact hgf i (by omega)
              · have := h3 g hg hgf (by omega)
                omega
        exact zb284_58 (D := D + j + 1) hT rfl hBM (by omega) (by omega) (by omega) (by omega) (fun q => by omega) (fun _ q2 hz => go _ (by rw [exw] at q2 ⊢; rw [st, if_pos q2]) hz) (fun _ q2 hz => go t (by rw [exw] at q2; rw [st, if_neg q2]) hz)
    refine zb284_0 (D := D + j + 1) hT hB (by omega) (by omega) (by omega) (fun hlt _ => ?_) (fun _ q => by omega) (fun hge => ?_)
    · exact loop w 0 m (by omega) hB zFr.refl (Int.le_refl _) (Or.inl rfl) (fun g hg hgf hgk => absurd hgk (Nat.not_lt_zero _))
    · rw [ew] at hge
      refine hk m hB zFr.refl (Int.le_refl _) (Or.inl rfl) (fun g hg hgf => ?_)
      have h4 := hV_le (f := g) hH k (j + 1)
      rw [hV_congr hgf, show k + (j + 1) = N by omega] at h4
      omega
theorem w_hired (hT : zRules T) {v : Int} (hv : isI v) : Way T 157 285 [(0, zr 1), (1, zi v)] [(0, zr 74), (1, zi v)] 5 9 B B True := by
  rintro D m sc ⟨n, k, hI⟩ κ hκ
  have hI0 := hI
  obtain ⟨i1, i2, i3, i4, i5, i6, i7, i8, i9, i10, i11⟩ := hI
  have b64 : 0 ≤ m 64 2 ∧ m 64 2 ≤ 7 := i1 64 2
  have hH : ∀ j, 0 ≤ m 65 j ∧ m 65 j ≤ 20 := fun j => i1 65 j
  obtain ⟨N, hN⟩ : ∃ N : Nat, m 64 2 = (N : Int) := ⟨(m 64 2).toNat, by omega⟩
  have t12 : ∀ M0 : zM, Agree coreK m M0 → Agree coreK m (zu M0 74 12 0) := fun M0 hA0 => hA0.trans (.of (L := [(74, some 12)]) (zFr.refl.set rfl) rfl)
  have no : (v < 1 ∨ 3 < v) → ∀ (M0 : zM), zB M0 → Agree coreK m M0 → κ (some (zi (-1))) M0 := by
    intro hb M0 hB0 hA0
    refine hκ _ _ (fun D2 κ2 h2 => ?_)
    refine zb285_0 (D := D2 + 7) hT hB0 hv (fun _ hz => h2 _ _ (fun _ => rfl) ⟨n, k, Inv_fr (t12 M0 hA0) hz hI0⟩) (fun _ _ hz => h2 _ _ (fun _ => rfl) ⟨n, k, Inv_fr (t12 M0 hA0) hz hI0⟩) (fun q1 q2 hz => by omega)
  refine zb157_0 hT i1 hv (fun q => no (Or.inl q) _ i1 (fun _ _ _ => rfl)) (fun q1 q2 => ?_) (fun _ q => no (Or.inr q) _ i1 (fun _ _ _ => rfl))
  obtain ⟨w, rfl⟩ : ∃ w : Nat, v = (w : Int) := ⟨v.toNat, by omega⟩
  refine z_shareX (N := N) hT i1 hN (by omega) (fun r M hBM hF hr hex hall => ?_)
  have ref : ∀ (M0 : zM), zB M0 → Agree coreK m M0 → κ (some (zi r)) M0 := by
    intro M0 hB0 hA0
    refine hκ _ _ (fun D2 κ2 h2 => ?_)
    refine zb285_0 (D := D2 + 7) hT hB0 hv (fun _ hz => by omega) (fun _ _ hz => by omega) (fun _ _ hz => ?_)
    have hA1 : Agree coreK m (zu (zu M0 74 12 0) 74 61 100000000) := (t12 M0 hA0).trans (.of (L := [(74, some 61)]) (zFr.refl.set rfl) rfl)
    have e54 : (zu (zu M0 74 12 0) 74 61 100000000) 74 54 = (N : Int) := by rw [hA1 74 54 rfl, i9.1, hN]
    have e61 : (zu (zu M0 74 12 0) 74 61 100000000) 74 61 = 100000000 := zu_sm rfl
    have hgo := z_goHiredX (N := N) (w := w) (H := m 65) hT (by omega) (by omega) hH N (D2 + (7 - N)) (fun r m1 => T (D2 + 7 + 2) 285 (30, [(0, zr 74), (1, zi (w : Int))], r.toList ++ [], m1) κ2) _ 0 (fun _ => 0) 0 (show (0 : Int) = hmx 0 (hmx 0 0) by decide) hz e54 (fun i hi => by
      rw [hA1 100 _ rfl]
      exact (i9.2 i (by omega)).1) (by omega) (fun _ => by show 0 < w; omega) (fun c hc => by
      rw [hA1 103 c rfl, i11.2.2 c hc]
      rfl) (by omega)
    rw [show D2 + (7 - N) + N + 1 = D2 + 7 + 1 by omega] at hgo
    refine hgo (fun M hBM hF h1 h2' h3 => ?_)
    have eq : M 74 61 = r := by
      rw [e61] at h2'
      obtain ⟨f, hf, hfr⟩ := hex
      have a1 := h3 f hf (fun i hi => absurd hi (Nat.not_lt_zero _))
      rcases h2' with x | ⟨g, hg, x⟩
      · omega
      · obtain ⟨g2, y1, y2, y3⟩ := hV_swap (H := m 65) N (by omega) hg
        have a2 := hall g2 y1 y2
        omega
    have hA2 : Agree coreK m M := hA1.trans (.of hF rfl)
    refine zb285_30 (D := D2 + 7) hT rfl hBM (fun hz2 => ?_)
    have loop : ∀ (i c : Nat) (M2 : zM), c + i = N → zB M2 → M2 74 11 = (c : Int) → M2 74 61 = r → Agree coreK m M2 → T (D2 + 7 + 2) 285 (37, [(0, zr 74), (2, zi (c : Int))], [], M2) κ2 := by
      intro i
      induction i with
      | zero =>
        intro c M2 hc hB2 h11 h61 hA3
        have e54 : M2 74 54 = (N : Int) := by rw [hA3 74 54 rfl, i9.1, hN]
        refine zb285_37 (D := D2 + 7) hT rfl hB2 (by omega) (fun _ => ?_) (fun q => by omega) (fun q => by omega)
        rw [h61, wr_id (by omega) (by omega)]
        exact h2 _ _ (fun _ => rfl) ⟨n, k, Inv_fr hA3 hB2 hI0⟩
      | succ i ih =>
        intro c M2 hc hB2 h11 h61 hA3
        have e54 : M2 74 54 = (N : Int) := by rw [hA3 74 54 rfl, i9.1, hN]
        refine zb285_37 (D := D2 + 7) hT rfl hB2 (by omega) (fun q => by omega) (fun _ => by omega) (fun _ => ?_)
        refine ih (c + 1) _ (by omega) (zB_u (zB_u hB2 trivial) ?_) (by rw [zu_sm rfl, h11]; omega) (by rw [zu_off (by decide), zu_dn (by decide)]; exact h61) (hA3.trans (.of (L := [(74, some 11), (81, none)]) ((zFr.refl.set rfl).set rfl) rfl))
        show 0 ≤ M2 74 11 + 1 ∧ M2 74 11 + 1 ≤ 32
        omega
    exact loop N 0 _ (by omega) hz2 (by rw [zu_sm rfl]; rfl) (by rw [zu_off (by decide)]; exact eq) (hA2.trans (.of (L := [(74, some 11)]) (zFr.refl.set rfl) rfl))
  have hri : isI r := by unfold isI; omega
  refine zb157_20 hT rfl hBM hri ?_
  rw [hF 64 2 rfl, hN]
  have hA : Agree coreK m M := .of hF rfl
  refine zb48_0_67 (D := D + 2) hT hBM (by omega) (fun _ hz => ?_) (fun _ hz => ?_)
  · exact zb157_42 hT rfl hri (ref _ hz (hA.trans (.of (L := [(72, some 1), (73, none)]) ((zFr.refl.set rfl).cp (fun _ => rfl)) rfl)))
  · exact zb157_42 hT rfl hri (ref _ hz (hA.trans (.of (L := [(72, some 1), (73, none)]) ((zFr.refl.set rfl).cp (fun _ => rfl)) rfl)))
end ZHiredX
end
