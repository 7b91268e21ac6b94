/-! lengths(), serves(), best(), ahead(). -/
theorem cpos_ext {g : Nat → Int} {b : Nat} (h : ∀ x, b ≤ x → g x = 0) : ∀ j, cpos g (b + j) = cpos g b
  | 0 => rfl
  | j + 1 => by
    rw [show b + (j + 1) = (b + j) + 1 by omega, cpos, cpos_ext h j, h (b + j) (by omega), if_neg (by omega)]
    omega
theorem cpos_congr {f g : Nat → Int} : ∀ k, (∀ i, i < k → f i = g i) → cpos f k = cpos g k
  | 0, _ => rfl
  | k + 1, e => by rw [cpos, cpos, cpos_congr k (fun i hi => e i (by omega)), e k (by omega)]
noncomputable def svc (f : Nat → Int) (l h : Int) : Nat → Int
  | 0 => 0
  | k + 1 => svc f l h k + (if l < f k ∨ f k + h < l then 0 else 1)
theorem svcB {f : Nat → Int} {l h : Int} : ∀ k, 0 ≤ svc f l h k ∧ svc f l h k ≤ k
  | 0 => ⟨Int.le_refl 0, Int.le_refl 0⟩
  | k + 1 => by
    have := svcB (f := f) (l := l) (h := h) k
    rw [svc]
    split <;> omega
theorem svc_congr {f g : Nat → Int} {l h : Int} : ∀ k, (∀ i, i < k → f i = g i) → svc f l h k = svc g l h k
  | 0, _ => rfl
  | k + 1, e => by rw [svc, svc, svc_congr k (fun i hi => e i (by omega)), e k (by omega)]
theorem svc_tly {f : Nat → Int} {l h : Int} : ∀ k, svc f l h k = tly f h l k
  | 0 => rfl
  | k + 1 => by
    rw [svc, tly, svc_tly k]
    by_cases q : f k ≤ l ∧ l ≤ f k + h
    · rw [if_neg (by omega), if_pos q]
    · rw [if_pos (by omega), if_neg q]
section ZTally
variable {T : Nat → Nat → zG → (Option zA → zM → Prop) → Prop} {B : Int}
theorem z_tally (hT : zRules T) {D : Nat} {κ : Option zA → zM → Prop} {m : zM} {n : Nat} {h : Int} (hB : zB m) (hh : 0 ≤ h ∧ h ≤ 9) (hn : m 52 1 = (n : Int)) (hk : ∀ m1, zB m1 → zFr (inL [(54, none)]) m m1 → (∀ a : Nat, a ≤ 108 → m1 54 a = tly (m 53) h a n) → κ none m1) : T (D + 1) 78 (0, [(0, zr 52), (1, zi h)], [], m) κ := by
  have b52 : 0 ≤ m 52 1 ∧ m 52 1 ≤ 60 := hB 52 1
  have b53 : ∀ k, 0 ≤ m 53 k ∧ m 53 k ≤ 99 := fun k => hB 53 k
  have key2 : ∀ (j k : Nat) (M : zM), k + j = n → zB M → zFr (inL [(54, none)]) m M → (∀ a : Nat, a ≤ 108 → M 54 a = tly (m 53) h a k) → T (D + 1) 78 (23, [(0, zr 52), (1, zi h), (2, zi (k : Int))], [], M) κ := by
    intro j
    induction j with
    | zero =>
      intro k M hk2 hBM hF g
      have e52 : M 52 1 = (n : Int) := (hF 52 1 rfl).trans hn
      have ek : k = n := by omega
      subst ek
      exact zb78_23 hT rfl hBM hh (by omega) (fun _ => hk M hBM hF g) (fun q => by omega)
    | succ j ih =>
      intro k M hk2 hBM hF g
      have e52 : M 52 1 = (n : Int) := (hF 52 1 rfl).trans hn
      obtain ⟨v, hv⟩ : ∃ v : Nat, m 53 k = (v : Int) := ⟨(m 53 k).toNat, by have := b53 k; omega⟩
      obtain ⟨hn2, hhn⟩ : ∃ x : Nat, h = (x : Int) := ⟨h.toNat, by omega⟩
      have bv := b53 k
      refine zb78_23 hT rfl hBM hh (by omega) (fun q => by omega) (fun _ => ?_)
      rw [hF 53 k rfl, hv]
      have key3 : ∀ (i a : Nat) (N : zM), a + i = v + hn2 + 1 → v ≤ a → zB N → zFr (inL [(54, none)]) m N → (∀ x : Nat, x ≤ 108 → N 54 x = tly (m 53) h x k + (if v ≤ x ∧ x < a then 1 else 0)) → T (D + 1) 78 (38, [(0, zr 52), (1, zi h), (2, zi (k : Int)), (3, zi (a : Int))], [], N) κ := by
        intro i
        induction i with
        | zero =>
          intro a N ha hva hBN hFN g2
          have e53 : N 53 k = (v : Int) := (hFN 53 k rfl).trans hv
          refine zb78_38 hT rfl hBN hh (by omega) (by omega) (fun _ => ?_) (fun q => by omega)
          refine ih (k + 1) N (by omega) hBN hFN (fun x hx => ?_)
          rw [g2 x hx, tly, hv, hhn]
          by_cases q : v ≤ x ∧ x < a
          · rw [if_pos q, if_pos (by omega)]
          · rw [if_neg q, if_neg (by omega)]
        | succ i ih3 =>
          intro a N ha hva hBN hFN g2
          have e53 : N 53 k = (v : Int) := (hFN 53 k rfl).trans hv
          refine zb78_38 hT rfl hBN hh (by omega) (by omega) (fun q => by omega) (fun _ hz => ?_)
          refine ih3 (a + 1) _ (by omega) (by omega) hz (hFN.set rfl) (fun x hx => ?_)
          by_cases e : x = a
          · subst e
            rw [zu_sm rfl, g2 x hx, if_neg (by omega), if_pos (by omega)]
            omega
          · rw [zu_off e, g2 x hx]
            by_cases q : v ≤ x ∧ x < a
            · rw [if_pos q, if_pos (by omega)]
            · rw [if_neg q, if_neg (by omega)]
      refine key3 (hn2 + 1) v M (by omega) (Nat.le_refl v) hBM hF (fun x hx => ?_)
      rw [g x hx, if_neg (by omega)]
      omega
  have key1 : ∀ (j a : Nat) (M : zM), a + j = 109 → zB M → zFr (inL [(54, none)]) m M → (∀ x : Nat, x < a → M 54 x = 0) → T (D + 1) 78 (2, [(0, zr 52), (1, zi h), (2, zi (a : Int))], [], M) κ := by
    intro j
    induction j with
    | zero =>
      intro a M ha hBM hF g
      exact zb78_2 hT rfl hBM hh (by omega) (fun _ => key2 n 0 M (by omega) hBM hF (fun x hx => g x (by omega))) (fun q => by omega)
    | succ j ih =>
      intro a M ha hBM hF g
      refine zb78_2 hT rfl hBM hh (by omega) (fun q => by omega) (fun _ hz => ?_)
      refine ih (a + 1) _ (by omega) hz (hF.set rfl) (fun x hx => ?_)
      by_cases e : x = a
      · subst e
        rw [zu_sm rfl]
      · rw [zu_off e]
        exact g x (by omega)
  exact zb78_0 hT hB hh (key1 109 0 m (by omega) hB zFr.refl (fun x hx => by omega))
theorem z_mostT (hT : zRules T) {D : Nat} {κ : Option zA → zM → Prop} {m : zM} {g : Nat → Int} (hB : zB m) (hg : ∀ a : Nat, a ≤ 108 → m 54 a = g a ∧ 0 ≤ g a ∧ g a ≤ 60) (h : κ (some (zi (mxI g 109 : Int))) m) : T (D + 1) 79 (0, [(0, zr 52)], [], m) κ := by
  have key : ∀ (j t : Nat), (t + 1) + j = 109 → T (D + 1) 79 (4, [(0, zr 52), (1, zi (mxI g (t + 1) : Int)), (2, zi ((t + 1 : Nat) : Int))], [], m) κ := by
    intro j
    induction j with
    | zero =>
      intro t ht
      have := mxI_le (f := g) t
      have et : t + 1 = 109 := by omega
      refine zb79_4 hT rfl hB (by omega) (by omega) (fun _ => ?_) (fun q => by omega) (fun q => by omega)
      rw [et]
      exact h
    | succ j ih =>
      intro t ht
      have := mxI_le (f := g) t
      have ih2 := ih (t + 1) (by omega)
      obtain ⟨a1, a2, a3⟩ := hg (mxI g (t + 1)) (by omega)
      obtain ⟨c1, c2, c3⟩ := hg (t + 1) (by omega)
      have w1 : wr (m 54 (mxI g (t + 1))) = g (mxI g (t + 1)) := by rw [a1]; exact wr_id (by omega) (by omega)
      have w2 : wr (m 54 (t + 1)) = g (t + 1) := by rw [c1]; exact wr_id (by omega) (by omega)
      refine zb79_4 hT rfl hB (by omega) (by omega) (fun q => by omega) (fun _ q => ?_) (fun _ q => ?_)
      · rw [w1, w2] at q
        rw [mxI, if_neg q] at ih2
        exact ih2
      · rw [w1, w2] at q
        rw [mxI, if_pos q] at ih2
        exact ih2
  refine zb79_0 hT hB ?_
  have e0 : mxI g (0 + 1) = 0 := by
    have := mxI_le (f := g) 0
    omega
  have := key 108 0 (by omega)
  rw [e0] at this
  exact this
theorem z_countT (hT : zRules T) {D : Nat} {κ : Option zA → zM → Prop} {m : zM} {g : Nat → Int} (hB : zB m) (hg : ∀ a : Nat, a ≤ 108 → m 54 a = g a ∧ 0 ≤ g a ∧ g a ≤ 60) (h : κ (some (zi (cpos g 109))) m) : T (D + 1) 80 (0, [(0, zr 52)], [], m) κ := by
  have key : ∀ (j t c : Nat), t + j = 109 → cpos g t = (c : Int) → T (D + 1) 80 (4, [(0, zr 52), (1, zi (c : Int)), (2, zi (t : Int))], [], m) κ := by
    intro j
    induction j with
    | zero =>
      intro t c ht hc
      have := cposB (g := g) t
      have et : t = 109 := by omega
      subst et
      refine zb80_4 hT rfl hB (by omega) (by omega) (fun _ => ?_) (fun q => by omega) (fun q => by omega)
      rw [← hc]
      exact h
    | succ j ih =>
      intro t c ht hc
      have := cposB (g := g) t
      obtain ⟨c1, c2, c3⟩ := hg t (by omega)
      have w2 : wr (m 54 t) = g t := by rw [c1]; exact wr_id (by omega) (by omega)
      refine zb80_4 hT rfl hB (by omega) (by omega) (fun q => by omega) (fun _ q => ?_) (fun _ q => ?_)
      · rw [w2] at q
        refine ih (t + 1) c (by omega) ?_
        rw [cpos, if_neg q, hc]
        omega
      · rw [w2] at q
        refine ih (t + 1) (c + 1) (by omega) ?_
        rw [cpos, if_pos q, hc]
        omega
  exact zb80_0 hT hB (key 109 0 0 (by omega) rfl)
theorem z_lenR (hT : zRules T) {D : Nat} {κ : Option zA → zM → Prop} {m M0 : zM} {sc : zSc} {n k p pl nn : Nat} (hI : Inv B sc n k m) (hA : Agree coreK0 m M0) (h72 : M0 72 1 = 2) (hp : p < n) (hpl : pl ≤ 3) (hnn : nn ≤ 60) (hB0 : zB M0)
    (hk : ∀ M1, zB M1 → Agree coreK0 m M1 → RowP M1 → κ (some (zi (cpos (fun x => tly (laF m p pl) 0 x nn) 100))) M1) : T (D + 171) 251 (32, [(0, zr 74), (1, zi (p : Int)), (2, zi (pl : Int)), (3, zi (nn : Int)), (4, zi 0)], [], M0) κ := by
  have b17 : 0 ≤ m 17 0 ∧ m 17 0 ≤ 6 := hI.1 17 0
  have n1 := hI.2.2.2.1.1.1
  have key3 : ∀ (j v c : Nat) (M : zM), v + j = 100 → zB M → zFr (inL ((92, none) :: lbL)) M0 M → (∀ x : Nat, x ≤ 99 → M 92 x = tly (laF m p pl) 0 x nn) → cpos (fun x => tly (laF m p pl) 0 x nn) v = (c : Int) → T (D + 171) 251 (102, [(0, zr 74), (4, zi (c : Int)), (5, zi (mxI (fun x => tly (laF m p pl) 0 x nn) v : Int)), (6, zi (v : Int))], [], M) κ := by
    intro j
    induction j with
    | zero =>
      intro v c M hv hBM hF g hc
      have ev : v = 100 := by omega
      subst ev
      have := mxI_le (f := fun x : Nat => tly (laF m p pl) 0 x nn) 99
      have := cposB (g := fun x : Nat => tly (laF m p pl) 0 x nn) 100
      refine zb251_102 (D := D + 167) hT rfl hBM (by omega) (by omega) (by omega) (fun _ hz => ?_) (fun q => by omega) (fun q => by omega) (fun q => by omega) (fun q => by omega)
      rw [← hc]
      exact hk _ hz (hA.trans ((Agree.of hF rfl).trans (.of (L := [(74, some 11), (81, none)]) (((((zFr.refl.set rfl).set rfl).set rfl).set rfl).set rfl) rfl))) (RowP.len (by simp (disch := decide) only [zu_sm, zu_off, zu_dn, (hF 72 1 rfl).trans h72] <;> rfl))
    | succ j ih =>
      intro v c M hv hBM hF g hc
      have hmx : mxI (fun x : Nat => tly (laF m p pl) 0 x nn) v ≤ 99 := by
        rcases v with _ | v
        · exact Nat.zero_le _
        · have := mxI_le (f := fun x : Nat => tly (laF m p pl) 0 x nn) v
          omega
      have := cposB (g := fun x : Nat => tly (laF m p pl) 0 x nn) v
      have t1 := tlyB (f := laF m p pl) (h := 0) (a := (v : Int)) nn
      have t2 := tlyB (f := laF m p pl) (h := 0) (a := ((mxI (fun x : Nat => tly (laF m p pl) 0 x nn) v : Nat) : Int)) nn
      have w1 : wr (M 92 v) = tly (laF m p pl) 0 v nn := by rw [g v (by omega)]; exact wr_id (by omega) (by omega)
      have w2 : wr (M 92 (mxI (fun x : Nat => tly (laF m p pl) 0 x nn) v)) = tly (laF m p pl) 0 ((mxI (fun x : Nat => tly (laF m p pl) 0 x nn) v : Nat) : Int) nn := by rw [g _ hmx]; exact wr_id (by omega) (by omega)
      have ihn : ∀ c2 : Nat, cpos (fun x => tly (laF m p pl) 0 x nn) (v + 1) = (c2 : Int) → T (D + 171) 251 (102, [(0, zr 74), (4, zi (c2 : Int)), (5, zi (mxI (fun x => tly (laF m p pl) 0 x nn) (v + 1) : Int)), (6, zi ((v + 1 : Nat) : Int))], [], M) κ := fun c2 h2 => ih (v + 1) c2 M (by omega) hBM hF g h2
      have ec : cpos (fun x => tly (laF m p pl) 0 x nn) (v + 1) = (c : Int) + (if 0 < tly (laF m p pl) 0 v nn then 1 else 0) := by rw [cpos, hc]
      have em : mxI (fun x : Nat => tly (laF m p pl) 0 x nn) (v + 1) = if tly (laF m p pl) 0 ((mxI (fun x : Nat => tly (laF m p pl) 0 x nn) v : Nat) : Int) nn < tly (laF m p pl) 0 v nn then v else mxI (fun x : Nat => tly (laF m p pl) 0 x nn) v := rfl
      rw [em] at ihn
      refine zb251_102 (D := D + 167) hT rfl hBM (by omega) (by omega) (by omega) (fun q => by omega) (fun _ q1 q2 => ?_) (fun _ q1 q2 => ?_) (fun _ q1 q2 => ?_) (fun _ q1 q2 => ?_)
      all_goals rw [w1] at q1 q2
      all_goals rw [w2] at q2
      · rw [if_neg q2] at ihn
        rw [show (c : Int) + 0 = (c : Int) by omega]
        exact ihn c (by rw [ec, if_neg q1]; omega)
      · rw [if_pos q2] at ihn
        rw [show (c : Int) + 0 = (c : Int) by omega]
        exact ihn c (by rw [ec, if_neg q1]; omega)
      · rw [if_neg q2] at ihn
        exact ihn (c + 1) (by rw [ec, if_pos q1]; omega)
      · rw [if_pos q2] at ihn
        exact ihn (c + 1) (by rw [ec, if_pos q1]; omega)
  have key2 : ∀ (j t : Nat) (M : zM), t + j = nn → zB M → zFr (inL ((92, none) :: lbL)) M0 M → (∀ x : Nat, x ≤ 99 → M 92 x = tly (laF m p pl) 0 x t) → T (D + 171) 251 (56, [(0, zr 74), (1, zi (p : Int)), (2, zi (pl : Int)), (3, zi (nn : Int)), (4, zi (t : Int))], [], M) κ := by
    intro j
    induction j with
    | zero =>
      intro t M ht hBM hF g
      have et : t = nn := by omega
      subst et
      exact zb251_56 (D := D + 167) hT rfl hBM (by omega) hpl hnn (by omega) (fun _ => key3 100 0 0 M (by omega) hBM hF g rfl) (fun q => by omega)
    | succ j ih =>
      intro t M ht hBM hF g
      have hAM : Agree coreK0 m M := hA.trans (.of hF rfl)
      refine zb251_56 (D := D + 167) hT rfl hBM (by omega) hpl hnn (by omega) (fun q => by omega) (fun _ => ?_)
      refine z_lawOfF hT hI hBM (hAM.sub (fun q hq => List.mem_append.mpr (Or.inr (List.mem_append.mpr (Or.inl hq))))) (funext fun j => hAM 78 j rfl) (hAM 75 57 rfl) hp hpl (by omega) (fun M1 hB1 hF1 => ?_)
      have lv := laFB (m := m) (p := p) (pl := pl) (k := t)
      obtain ⟨v, hv⟩ : ∃ v : Nat, laF m p pl t = (v : Int) := ⟨(laF m p pl t).toNat, by omega⟩
      rw [hv]
      refine zb251_82 (v := v) (D := D + 167) hT rfl hB1 (by omega) hpl hnn (by omega) (by omega) (fun hz => ?_)
      refine ih (t + 1) _ (by omega) hz ((hF.trans (hF1.sub (inL_sub (by decide)))).set rfl) (fun x hx => ?_)
      rw [tly, hv]
      by_cases e : x = v
      · subst e
        rw [zu_sm rfl, hF1 92 x rfl, g x hx, if_pos (by omega)]
      · rw [zu_off e, hF1 92 x rfl, g x hx, if_neg (by omega)]
        omega
  have key1 : ∀ (j v : Nat) (M : zM), v + j = 100 → zB M → zFr (inL ((92, none) :: lbL)) M0 M → (∀ x : Nat, x < v → M 92 x = 0) → T (D + 171) 251 (32, [(0, zr 74), (1, zi (p : Int)), (2, zi (pl : Int)), (3, zi (nn : Int)), (4, zi (v : Int))], [], M) κ := by
    intro j
    induction j with
    | zero =>
      intro v M hv hBM hF g
      exact zb251_32 (D := D + 167) hT rfl hBM (by omega) hpl hnn (by omega) (fun _ => key2 nn 0 M (by omega) hBM hF (fun x hx => g x (by omega))) (fun q => by omega)
    | succ j ih =>
      intro v M hv hBM hF g
      refine zb251_32 (D := D + 167) hT rfl hBM (by omega) hpl hnn (by omega) (fun q => by omega) (fun _ hz => ?_)
      refine ih (v + 1) _ (by omega) hz (hF.set rfl) (fun x hx => ?_)
      by_cases e : x = v
      · subst e
        rw [zu_sm rfl]
      · rw [zu_off e]
        exact g x (by omega)
  exact key1 100 0 M0 (by omega) hB0 zFr.refl (fun x hx => by omega)
theorem w_lengths (hT : zRules T) {p q v : Int} (hp : isI p) (hq : isI q) (hv : isI v) : Way T 136 251 [(0, zr 1), (1, zi p), (2, zi q), (3, zi v)] [(0, zr 74), (1, zi p), (2, zi q), (3, zi v)] 6 171 B B True := by
  rintro D m sc ⟨n, k, hI⟩ κ hκ
  have hI0 := hI
  obtain ⟨i1, i2, i3, i4, i5, i6, i7, i8, i9, i10, i11⟩ := hI
  have hB1 : zB (zu m 74 12 0) := zB_u i1 trivial
  have hA12 : Agree coreK m (zu m 74 12 0) := .of (L := [(74, some 12)]) (zFr.refl.set rfl) rfl
  obtain ⟨n1, n2⟩ := i4.1
  have b17 : 0 ≤ m 17 0 ∧ m 17 0 ≤ 6 := i1 17 0
  have no : ¬ (0 ≤ p ∧ p < n ∧ 0 ≤ q ∧ q ≤ 3 ∧ 1 ≤ v ∧ v ≤ 60) → κ (some (zi (-1))) m := by
    intro hno
    refine hκ _ _ (fun D2 κ2 h2 => ?_)
    have fin : κ2 (some (zi (-1))) (zu m 74 12 0) := h2 _ _ (fun _ => rfl) ⟨n, k, Inv_fr hA12 hB1 hI0⟩
    exact zb251_0 (D := D2 + 167) hT i1 hp hq hv (fun _ _ => fin) (fun _ _ _ => fin) (fun _ _ _ _ => fin) (fun _ _ _ _ _ => fin) (fun _ _ _ _ _ _ => fin) (fun _ _ _ _ _ _ _ => fin) (fun q1 q2 q3 q4 q5 q6 => absurd ⟨by omega, by omega, by omega, by omega, by omega, by omega⟩ hno)
  refine zb136_0 hT i1 hp hq hv (fun _ => no (by omega)) (fun _ _ => no (by omega)) (fun _ _ _ => no (by omega)) (fun _ _ _ _ => no (by omega)) (fun _ _ _ _ _ => no (by omega)) (fun _ _ _ _ _ _ => no (by omega)) (fun q1 q2 q3 q4 q5 q6 => ?_)
  obtain ⟨a, rfl⟩ : ∃ a : Nat, p = (a : Int) := ⟨p.toNat, by omega⟩
  obtain ⟨pl, rfl⟩ : ∃ a : Nat, q = (a : Int) := ⟨q.toNat, by omega⟩
  obtain ⟨nn, rfl⟩ : ∃ a : Nat, v = (a : Int) := ⟨v.toNat, by omega⟩
  obtain ⟨h78, h18⟩ := i4.2.2.1 a (by omega)
  refine z_lookAhead hT i1 (by omega) (by omega) (by omega) (by omega) i3 (fun m1 hB2 hF1 g1 g2 => ?_)
  refine zb136_19 hT rfl hB2 ?_
  refine z_tally (n := nn) hT hB2 (by omega) g1 (fun m2 hB3 hF2 g3 => ?_)
  have hg : ∀ x : Nat, x ≤ 108 → m2 54 x = tly (laF m a pl) 0 x nn ∧ 0 ≤ tly (laF m a pl) 0 x nn ∧ tly (laF m a pl) 0 x nn ≤ 60 := fun x hx => by
    have := tlyB (f := laF m a pl) (h := 0) (a := (x : Int)) nn
    exact ⟨by rw [g3 x hx, tly_congr nn g2], by omega, by omega⟩
  refine zb136_27 hT rfl hB3 ?_
  refine z_mostT (g := fun x => tly (laF m a pl) 0 x nn) hT hB3 hg ?_
  have hmx := mxI_le (f := fun x : Nat => tly (laF m a pl) 0 x nn) 108
  refine zb136_34 hT rfl hB3 (by omega) (fun hz => ?_)
  generalize hM : (zu (zu (zu m2 72 1 2) 73 0 (mxI (fun x : Nat => tly (laF m a pl) 0 x nn) 109 : Int)) 73 1 (m2 54 (mxI (fun x : Nat => tly (laF m a pl) 0 x nn) 109))) = M at hz ⊢
  have hFM : zFr (inL [(72, some 1), (73, none)]) m2 M := by
    rw [← hM]
    exact ((zFr.refl.set rfl).set rfl).set rfl
  have x72 : M 72 1 = 2 := by
    rw [← hM]
    simp (disch := decide) only [zu_sm, zu_off, zu_dn]
  have hAM : Agree coreK0 m M := (Agree.of hF1 rfl).trans ((Agree.of hF2 rfl).trans (.of hFM rfl))
  refine z_countT (g := fun x => tly (laF m a pl) 0 x nn) hT hz (fun x hx => by rw [hFM 54 x rfl]; exact hg x hx) ?_
  have e109 : cpos (fun x : Nat => tly (laF m a pl) 0 x nn) 109 = cpos (fun x : Nat => tly (laF m a pl) 0 x nn) 100 := cpos_ext (b := 100) (fun x hx => tly_0 (fun i => by have := laFB (m := m) (p := a) (pl := pl) (k := i); omega) nn) 9
  have bc := cposB (g := fun x : Nat => tly (laF m a pl) 0 x nn) 109
  refine zb136_62 hT rfl (by omega) (hκ _ _ (fun D2 κ2 h2 => ?_))
  have e4 : M 74 4 = (n : Int) := (hAM 74 4 rfl).trans n2
  refine zb251_0 (D := D2 + 167) hT hz hp hq hv (fun x => by omega) (fun _ x => by omega) (fun _ _ x => by omega) (fun _ _ _ x => by omega) (fun _ _ _ _ x => by omega) (fun _ _ _ _ _ x => by omega) (fun _ _ _ _ _ _ hz2 => ?_)
  exact z_lenR hT hI0 (hAM.trans (.of (L := [(74, some 12)]) (zFr.refl.set rfl) rfl)) ((zu_dn (by decide)).trans x72) (by omega) (by omega) (by omega) hz2 (fun M1 hB3 hA3 hr => h2 _ _ (fun _ => by rw [e109]) ⟨n, k, Inv_row hA3 hB3 hr hI0⟩)
theorem z_countServed (hT : zRules T) {D : Nat} {κ : Option zA → zM → Prop} {m : zM} {n : Nat} {l h : Int} (hB : zB m) (hl : -2 ≤ l ∧ l ≤ 108) (hh : 0 ≤ h ∧ h ≤ 9) (hn : m 52 1 = (n : Int)) (hk : κ (some (zi (svc (m 53) l h n))) m) : T (D + 2) 82 (0, [(0, zr 52), (1, zi l), (2, zi h)], [], m) κ := by
  have b52 : 0 ≤ m 52 1 ∧ m 52 1 ≤ 60 := hB 52 1
  have key : ∀ (j t c : Nat), t + j = n → svc (m 53) l h t = (c : Int) → T (D + 2) 82 (5, [(0, zr 52), (1, zi l), (2, zi h), (3, zi (c : Int)), (4, zi (t : Int))], [], m) κ := by
    intro j
    induction j with
    | zero =>
      intro t c ht hc
      have := svcB (f := m 53) (l := l) (h := h) t
      have et : t = n := by omega
      subst et
      refine zb82_5 hT rfl hB hl hh (by omega) (by omega) (fun _ => ?_) (fun q => by omega) (fun q => by omega) (fun q => by omega)
      rw [← hc]
      exact hk
    | succ j ih =>
      intro t c ht hc
      have := svcB (f := m 53) (l := l) (h := h) t
      refine zb82_5 hT rfl hB hl hh (by omega) (by omega) (fun q => by omega) (fun _ q => ?_) (fun _ q1 q2 => ?_) (fun _ q1 q2 => ?_)
      · exact ih (t + 1) c (by omega) (by rw [svc, if_pos (Or.inl q), hc]; omega)
      · exact ih (t + 1) c (by omega) (by rw [svc, if_pos (Or.inr q2), hc]; omega)
      · exact ih (t + 1) (c + 1) (by omega) (by rw [svc, if_neg (by omega), hc]; omega)
  exact zb82_0 hT hB hl hh (key n 0 0 (by omega) rfl)
theorem z_firstUnserved (hT : zRules T) {D : Nat} {κ : Option zA → zM → Prop} {m : zM} {l h : Int} (hB : zB m) (hl : -2 ≤ l ∧ l ≤ 108) (hh : 0 ≤ h ∧ h ≤ 9) (hk : ∀ v : Int, -1 ≤ v ∧ v ≤ 60 → κ (some (zi v)) m) : T (D + 2) 83 (0, [(0, zr 52), (1, zi l), (2, zi h)], [], m) κ := by
  have b52 : 0 ≤ m 52 1 ∧ m 52 1 ≤ 60 := hB 52 1
  have key : ∀ (j t : Nat), t + j = 60 → T (D + 2) 83 (2, [(0, zr 52), (1, zi l), (2, zi h), (3, zi (t : Int))], [], m) κ := by
    intro j
    induction j with
    | zero =>
      intro t ht
      exact zb83_2 hT rfl hB hl hh (by omega) (fun _ => hk _ (by omega)) (fun q => by omega) (fun q => by omega) (fun q => by omega)
    | succ j ih =>
      intro t ht
      exact zb83_2 hT rfl hB hl hh (by omega) (fun _ => hk _ (by omega)) (fun _ _ => hk _ (by omega)) (fun _ _ _ => hk _ (by omega)) (fun _ _ _ => ih (t + 1) (by omega))
  exact zb83_0 hT hB hl hh (key 60 0 (by omega))
end ZTally
