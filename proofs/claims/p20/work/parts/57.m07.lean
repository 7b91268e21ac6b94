-- 57.cr.lean.txt
section
/-! THE RULE read by the class into parts. -/
/-- the worth of part k -/
noncomputable def pv (kd lf rg : Nat → Int) (e : zEnv) (k : Nat) : Int := valsN kd lf rg (fun _ => 0) e (k + 1) k
theorem valsN_top {kd lf rg g : Nat → Int} {e : zEnv} {k : Nat} : ∀ t, k < t → valsN kd lf rg g e t k = valsN kd lf rg g e (k + 1) k := by
  intro t
  induction t with
  | zero => intro h; omega
  | succ t ih =>
    intro h
    by_cases ek : k = t
    · subst ek
      rfl
    · rw [valsN, fu_ne ek]
      exact ih (by omega)
theorem valsN_congr {kd lf rg kd2 lf2 rg2 g : Nat → Int} {e : zEnv} : ∀ t, (∀ j, j < t → kd j = kd2 j ∧ lf j = lf2 j ∧ rg j = rg2 j) → valsN kd lf rg g e t = valsN kd2 lf2 rg2 g e t := by
  intro t
  induction t with
  | zero => intro _; rfl
  | succ t ih =>
    intro h
    obtain ⟨h1, h2, h3⟩ := h t (by omega)
    rw [valsN, valsN, ih (fun j hj => h j (by omega)), h1, h2, h3]
theorem pv_congr {kd lf rg kd2 lf2 rg2 : Nat → Int} {e : zEnv} {k : Nat} (h : ∀ j, j < k + 1 → kd j = kd2 j ∧ lf j = lf2 j ∧ rg j = rg2 j) : pv kd lf rg e k = pv kd2 lf2 rg2 e k := by
  unfold pv
  rw [valsN_congr (k + 1) h]
theorem pv_op {kd lf rg : Nat → Int} {e : zEnv} {k i j : Nat} (ho : isOp (kd k)) (hi : lf k = (i : Int)) (hj : rg k = (j : Int)) (hik : i < k) (hjk : j < k) : pv kd lf rg e k = wr (joinV (kd k) (pv kd lf rg e i) (pv kd lf rg e j)) := by
  obtain ⟨h1, h2, h3, h4, h5, h6⟩ := ho
  unfold pv
  rw [valsN, fu_eq rfl]
  unfold nodeV
  rw [if_neg h1, if_neg h2, if_neg h3, if_neg h4, if_neg h5, if_neg h6, hi, hj, Int.toNat_natCast, Int.toNat_natCast, valsN_top k hik, valsN_top k hjk]
theorem pv_thing {kd lf rg : Nat → Int} {e : zEnv} {k : Nat} : pv kd lf rg e k = nodeV (kd k) (lf k) (rg k) (valsN kd lf rg (fun _ => 0) e k) e := by
  unfold pv
  rw [valsN, fu_eq rfl]
/-- the signs that the class reads -/
noncomputable def sgC (m : zM) (a : Nat) : Int := if (a : Int) < m 2 2 then m 3 a else -1
noncomputable def cW (c j : Nat) : Bool := (Nat.beq c 2 && Nat.beq j 3) || (Nat.beq c 14 || (Nat.beq c 15 || (Nat.beq c 16 || (Nat.beq c 9 && Nat.beq j 8))))
noncomputable def DS (M : zM) (n : Nat) : Prop := M 9 8 = (n : Int) ∧ WFp (M 14) (M 15) (M 16) n
noncomputable def sameD (n : Nat) (M M1 : zM) : Prop := ∀ j, j < n → M1 14 j = M 14 j ∧ M1 15 j = M 15 j ∧ M1 16 j = M 16 j
theorem sameD.trans {n n1 : Nat} {M M1 M2 : zM} (h1 : sameD n M M1) (h2 : sameD n1 M1 M2) (h : n ≤ n1) : sameD n M M2 := fun j hj => by
  obtain ⟨a1, a2, a3⟩ := h1 j hj
  obtain ⟨b1, b2, b3⟩ := h2 j (by omega)
  exact ⟨b1.trans a1, b2.trans a2, b3.trans a3⟩
noncomputable def CK (κ : Option zA → zM → Prop) (m M : zM) (n a : Nat) (r : rP) : Prop := match r with
  | .inl x => ∀ (M1 : zM), zB M1 → zFr cW m M1 → M1 2 3 = (x : Int) → κ (some (zi (-1))) M1
  | .inr q => ∀ (k n1 : Nat) (M1 : zM), zB M1 → zFr cW m M1 → M1 2 3 = (q.1 : Int) → DS M1 n1 → n ≤ n1 → sameD n M M1 → n1 = k + 1 → n1 + a ≤ n + q.1 → (∀ e, okE e → pv (M1 14) (M1 15) (M1 16) e k = q.2 e) → κ (some (zi (k : Int))) M1
theorem nx_s {m M : zM} {a : Nat} (hF : zFr cW m M) (h : M 2 3 = (a : Int)) : nxC M = sgC m a := by
  have e1 : M 2 2 = m 2 2 := hF 2 2 rfl
  have e2 : M 3 a = m 3 a := hF 3 a rfl
  unfold nxC sgC
  rw [h, e1, Int.toNat_natCast, e2]
noncomputable def addP (M : zM) (sg v w : Int) : zM := zu (zu (zu (zu M 14 (M 9 8).toNat sg) 15 (M 9 8).toNat v) 16 (M 9 8).toNat w) 9 8 (M 9 8 + 1)
/-- one part more -/
theorem DS.add {M : zM} {n : Nat} {sg v w : Int} (hD : DS M n) (hw : isOp sg → (0 ≤ v ∧ v < n) ∧ (0 ≤ w ∧ w < n)) : DS (addP M sg v w) (n + 1) ∧ sameD n M (addP M sg v w) ∧ (addP M sg v w 14 n = sg ∧ addP M sg v w 15 n = v ∧ addP M sg v w 16 n = w) := by
  obtain ⟨d1, d2⟩ := hD
  have en : (M 9 8).toNat = n := by omega
  unfold addP
  rw [en]
  have hs : ∀ j, j < n → (zu (zu (zu (zu M 14 n sg) 15 n v) 16 n w) 9 8 (M 9 8 + 1)) 14 j = M 14 j ∧ (zu (zu (zu (zu M 14 n sg) 15 n v) 16 n w) 9 8 (M 9 8 + 1)) 15 j = M 15 j ∧ (zu (zu (zu (zu M 14 n sg) 15 n v) 16 n w) 9 8 (M 9 8 + 1)) 16 j = M 16 j := fun j hj => by
    refine ⟨?_, ?_, ?_⟩ <;> simp (disch := omega) only [zu_dn, zu_off]
  have hn : (zu (zu (zu (zu M 14 n sg) 15 n v) 16 n w) 9 8 (M 9 8 + 1)) 14 n = sg ∧ (zu (zu (zu (zu M 14 n sg) 15 n v) 16 n w) 9 8 (M 9 8 + 1)) 15 n = v ∧ (zu (zu (zu (zu M 14 n sg) 15 n v) 16 n w) 9 8 (M 9 8 + 1)) 16 n = w := by
    refine ⟨?_, ?_, ?_⟩ <;> simp (disch := omega) only [zu_dn, zu_sm]
  refine ⟨⟨?_, ?_⟩, hs, hn⟩
  · rw [zu_sm rfl, d1]
    omega
  · intro k hk ho
    by_cases e : k = n
    · subst e
      rw [hn.1] at ho
      rw [hn.2.1, hn.2.2]
      exact hw ho
    · obtain ⟨a1, a2, a3⟩ := hs k (by omega)
      rw [a1] at ho
      rw [a2, a3]
      exact d2 k (by omega) ho
theorem addP_fr {m M : zM} {sg v w : Int} (h : zFr cW m M) : zFr cW m (addP M sg v w) := (((h.set rfl).set rfl).set rfl).set rfl
theorem addP_23 {M : zM} {sg v w : Int} : addP M sg v w 2 3 = M 2 3 := by
  unfold addP
  simp (disch := omega) only [zu_dn]
theorem sameD.refl {n : Nat} {M : zM} : sameD n M M := fun _ _ => ⟨rfl, rfl, rfl⟩
theorem sameD.pv {n k : Nat} {M M1 : zM} {e : zEnv} (h : sameD n M M1) (hk : k < n) : pv (M1 14) (M1 15) (M1 16) e k = pv (M 14) (M 15) (M 16) e k := pv_congr (fun j hj => h j (by omega))
/-- an operation of two parts -/
theorem addOp {M1 : zM} {n1 i j : Nat} {sg : Int} (hD : DS M1 n1) (hi : i < n1) (hj : j < n1) (ho : isOp sg) (e : zEnv) : pv (addP M1 sg (i : Int) (j : Int) 14) (addP M1 sg (i : Int) (j : Int) 15) (addP M1 sg (i : Int) (j : Int) 16) e n1 = wr (joinV sg (pv (M1 14) (M1 15) (M1 16) e i) (pv (M1 14) (M1 15) (M1 16) e j)) := by
  obtain ⟨p1, p2, p3, p4, p5⟩ := hD.add (sg := sg) (v := (i : Int)) (w := (j : Int)) (fun _ => by omega)
  rw [pv_op (by rw [p3]; exact ho) p4 p5 hi hj, p3, p2.pv hi, p2.pv hj]
theorem joinV_42 {x y : Int} : joinV 42 x y = x * y := by
  unfold joinV
  simp
theorem joinV_43 {x y : Int} : joinV 43 x y = x + y := by
  unfold joinV
  simp
theorem joinV_45 {x y : Int} : joinV 45 x y = x - y := by
  unfold joinV
  simp
theorem joinV_47 {x y : Int} : joinV 47 x y = if wr y = 0 then 0 else Int.tdiv (wr x) (wr y) := by
  unfold joinV
  simp
theorem joinV_60 {x y : Int} : joinV 60 x y = if wr x < wr y then 1 else 0 := by
  unfold joinV
  simp
theorem joinV_61 {x y : Int} : joinV 61 x y = if wr x = wr y then 1 else 0 := by
  unfold joinV
  simp
theorem joinV_62 {x y : Int} : joinV 62 x y = if wr y < wr x then 1 else 0 := by
  unfold joinV
  simp
theorem joinV_126 {x y : Int} : joinV 126 x y = -x := by
  unfold joinV
  simp
theorem wr_ite {P : Prop} [Decidable P] : wr (if P then (1 : Int) else 0) = if P then 1 else 0 := by
  by_cases q : P
  · rw [if_pos q]
    rfl
  · rw [if_neg q]
    rfl
noncomputable def Cs (T : Nat → Nat → zG → (Option zA → zM → Prop) → Prop) (m : zM) (s : Nat → Int) (L k kd c x f : Nat) : Prop := ∀ (D dp g a n : Nat) (M : zM) (κ : Option zA → zM → Prop), dp + g = 4 → zB M → zFr cW m M → M 2 3 = (a : Int) → DS M n → n ≤ a → a ≤ L → 4 * (L - a) + c ≤ f → CK κ m M n a (rp s f kd dp a e0f) → T (D + 6 * g + x) k (0, [(0, zr 9), (1, zr 2), (2, zi (dp : Int))], [], M) κ
/-- a rest of a sum or a product: what stood ahead of it is part i, worth acc -/
noncomputable def Cl (T : Nat → Nat → zG → (Option zA → zM → Prop) → Prop) (m : zM) (s : Nat → Int) (L k kd x f : Nat) : Prop := ∀ (D dp g a a0 n n0 i t : Nat) (M M0 : zM) (κ : Option zA → zM → Prop) (acc : zEnv → Int), dp + g = 4 → zB M → zFr cW m M → M 2 3 = (a : Int) → DS M n → n0 ≤ n → sameD n0 M0 M → n = i + 1 → n + a0 ≤ n0 + a → n0 ≤ a0 → a0 ≤ a → a ≤ L → t ≤ a → 4 * (L - a) + 1 ≤ f → (∀ e, wr (acc e) = acc e) → (∀ e, okE e → pv (M 14) (M 15) (M 16) e i = acc e) → CK κ m M0 n0 a0 (rp s f kd dp a acc) → T (D + 6 * g + x) k (10, [(0, zr 9), (1, zr 2), (2, zi (dp : Int)), (3, zi (i : Int)), (4, zi (t : Int))], [], M) κ
section ZRead
variable {T : Nat → Nat → zG → (Option zA → zM → Prop) → Prop} {m : zM} {s : Nat → Int} {L f : Nat}
theorem cr_53 (hT : zRules T) (hL : L ≤ 40) (hs : ∀ a, L ≤ a → s a = -1) (h3 : Cs T m s L 54 3 2 10 f) (h2 : Cl T m s L 53 2 11 f) : Cs T m s L 53 1 3 11 (f + 1) := by
  intro D dp g a n M κ hdp hBM hF h23 hD hna ha hf hκ
  refine zb53_0 (D := D + 6 * g + 8) hT hBM (by omega) (by omega) ?_
  refine h3 D dp g a n M _ hdp hBM hF h23 hD hna ha (by omega) ?_
  rw [rp, if_neg (by omega), if_pos rfl] at hκ
  have hok := rp_ok hs f 3 dp a e0f ha (fun _ => rfl)
  revert hκ hok
  cases rp s f 3 dp a e0f with
  | inl x =>
    intro hκ hok M1 hB1 hF1 hx
    have := hok.2
    refine zb53_6 (D := D + 6 * g + 8) hT rfl hB1 (by omega) (by omega) (by omega) ?_
    exact zb53_10 (k := 0) (D := D + 6 * g + 8) hT rfl hB1 (by omega) (by omega) (by omega) (by omega) (fun q => by omega) (fun _ _ => hκ M1 hB1 hF1 hx) (fun _ q => absurd rfl q) (fun _ q => absurd rfl q) (fun _ q => absurd rfl q)
  | inr y =>
    obtain ⟨b, v⟩ := y
    intro hκ hok i n1 M1 hB1 hF1 g23 hD1 hn1 hs1 hi hnb hv
    obtain ⟨⟨o1, o2, o3⟩, o4⟩ := hok
    have o3 := o3 (by omega) (by omega)
    dsimp only at o1 o2 o3 o4 g23 hnb hv
    refine zb53_6 (D := D + 6 * g + 8) hT rfl hB1 (by omega) (by omega) (by omega) ?_
    exact h2 D dp g b a n1 n i 0 M1 M κ v hdp hB1 hF1 g23 hD1 hn1 hs1 hi hnb hna (by omega) o2 (by omega) (by omega) o4 hv hκ
theorem cr_53L (hT : zRules T) (hsd : s = sgC m) (hL : L ≤ 40) (hs : ∀ a, L ≤ a → s a = -1) (h3 : Cs T m s L 54 3 2 10 f) (h2 : Cl T m s L 53 2 11 f) : Cl T m s L 53 2 11 (f + 1) := by
  intro D dp g a a0 n n0 i t M M0 κ acc hdp hBM hF h23 hD hn0 hs0 hi hna hn00 haa ha ht hf hacc hv hκ
  have hlt : ∀ a, ¬ s a = -1 → a < L := fun a h => by
    rcases Nat.lt_or_ge a L with q | q
    · exact q
    · exact absurd (hs a q) h
  have hr : nxC M = s a := by rw [hsd]; exact nx_s hF h23
  have n23 : (zu M 2 3 (M 2 3 + 1)) 2 3 = ((a + 1 : Nat) : Int) := by rw [zu_sm rfl]; omega
  have hz : zB (zu M 2 3 (M 2 3 + 1)) := zB_u hBM (show -1 ≤ M 2 3 + 1 ∧ M 2 3 + 1 ≤ 100 by omega)
  have hD2 : DS (zu M 2 3 (M 2 3 + 1)) n := hD
  have fin : ¬ s a = 43 → ¬ s a = 45 → κ (some (zi (i : Int))) M := by
    intro c1 c2
    rw [rp, if_neg (by omega), if_neg (by omega), if_pos rfl, if_neg c1, if_neg c2] at hκ
    exact hκ i n M hBM hF h23 hD hn0 hs0 hi hna hv
  have step : ∀ (sg : Int) (op : Int → Int → Int), (sg = 43 ∨ sg = 45) → s a = sg → (∀ x y, wr x = x → wr y = y → wr (joinV sg x y) = op x y) → rp s (f + 1) 2 dp a acc = rb (rp s f 3 dp (a + 1) e0f) (fun b w => rp s f 2 dp b (fun e => op (acc e) (w e))) → T (D + 6 * g + 10) 54 (0, [(0, zr 9), (1, zr 2), (2, zi (dp : Int))], [], zu M 2 3 (M 2 3 + 1)) (fun r m1 => T (D + 6 * g + 11) 53 (60, [(0, zr 9), (1, zr 2), (2, zi (dp : Int)), (3, zi (i : Int)), (4, zi (t : Int)), (5, zi sg)], r.toList ++ [], m1) κ) := by
    intro sg op hsg hsa hop hrp
    rw [hrp] at hκ
    have haL := hlt a (by omega)
    have hok := rp_ok hs f 3 dp (a + 1) e0f haL (fun _ => rfl)
    refine h3 D dp g (a + 1) n _ _ hdp hz (hF.set rfl) n23 hD2 (by omega) haL (by omega) ?_
    revert hκ hok
    cases rp s f 3 dp (a + 1) e0f with
    | inl x =>
      intro hκ hok M1 hB1 hF1 hx
      have := hok.2
      refine zb53_60b (D := D + 6 * g + 8) hT rfl (by omega) (by omega) (by omega) (by omega) ?_
      exact zb53_10 (k := t + 1) (D := D + 6 * g + 8) hT rfl hB1 (by omega) (by omega) (by omega) (by omega) (fun _ => hκ M1 hB1 hF1 hx) (fun _ _ => hκ M1 hB1 hF1 hx) (fun _ q => absurd rfl q) (fun _ q => absurd rfl q) (fun _ q => absurd rfl q)
    | inr y =>
      obtain ⟨b, w⟩ := y
      intro hκ hok j n1 M1 hB1 hF1 g23 hD1 hn1 hs1 hj hnb hw
      obtain ⟨⟨o1, o2, o3⟩, o4⟩ := hok
      have o3 := o3 (by omega) (by omega)
      dsimp only [rb] at hκ
      dsimp only at o1 o2 o3 o4 g23 hnb hw
      have e98 := hD1.1
      have hop2 : isOp sg := by
        rcases hsg with q | q <;> (subst q; exact ⟨by omega, by omega, by omega, by omega, by omega, by omega⟩)
      refine zb53_60 (D := D + 6 * g + 8) hT rfl hB1 (by omega) (by omega) (by omega) (by omega) (by omega) (by omega) (fun _ hz1 => ?_) (fun q => by omega)
      obtain ⟨p1, p2, p3⟩ := hD1.add (sg := sg) (v := (i : Int)) (w := (j : Int)) (fun _ => by omega)
      have p23 : addP M1 sg (i : Int) (j : Int) 2 3 = (b : Int) := by rw [addP_23]; exact g23
      rw [show M1 9 8 + 1 - 1 = (n1 : Int) by omega]
      have hs9 : sameD n M M1 := hs1
      refine h2 D dp g b a0 (n1 + 1) n0 n1 (t + 1) (addP M1 sg (i : Int) (j : Int)) M0 κ _ hdp hz1 (addP_fr hF1) p23 p1 (by omega) ((hs0.trans hs9 hn0).trans p2 (by omega)) (by omega) (by omega) hn00 (by omega) o2 (by omega) (by omega) (fun e => ?_) (fun e he => ?_) hκ
      · rw [← hop _ _ (hacc e) (o4 e)]
        exact wr_wr _
      · rw [addOp hD1 (by omega) (by omega) hop2, hw e he, hs9.pv (by omega), hv e he]
        exact hop _ _ (hacc e) (o4 e)
  by_cases ht40 : t < 40
  · refine zb53_10 (D := D + 6 * g + 8) hT rfl hBM (by omega) (by omega) (by omega) (by omega) (fun q => by omega) (fun _ q => by omega) (fun _ _ c1 => ?_) (fun _ _ c1 c2 => ?_) (fun _ _ c1 c2 => ?_)
    · rw [hr] at c1 ⊢
      rw [c1]
      intro _
      refine step 43 (fun x y => wr (x + y)) (Or.inl rfl) c1 (fun x y hx hy => by rw [joinV_43]) ?_
      rw [rp, if_neg (by omega), if_neg (by omega), if_pos rfl, if_pos c1]
    · rw [hr] at c1 c2 ⊢
      rw [c2]
      intro _
      refine step 45 (fun x y => wr (x - y)) (Or.inr rfl) c2 (fun x y hx hy => by rw [joinV_45]) ?_
      rw [rp, if_neg (by omega), if_neg (by omega), if_pos rfl, if_neg c1, if_pos c2]
    · rw [hr] at c1 c2
      exact fin c1 c2
  · have hsa := hs a (by omega)
    exact zb53_10 (D := D + 6 * g + 8) hT rfl hBM (by omega) (by omega) (by omega) (by omega) (fun _ => fin (by omega) (by omega)) (fun q => absurd q (by omega)) (fun q => absurd q (by omega)) (fun q => absurd q (by omega)) (fun q => absurd q (by omega))
theorem cr_54 (hT : zRules T) (hL : L ≤ 40) (hs : ∀ a, L ≤ a → s a = -1) (h3 : Cs T m s L 55 5 1 9 f) (h2 : Cl T m s L 54 4 10 f) : Cs T m s L 54 3 2 10 (f + 1) := by
  intro D dp g a n M κ hdp hBM hF h23 hD hna ha hf hκ
  refine zb54_0 (D := D + 6 * g + 7) hT hBM (by omega) (by omega) ?_
  refine h3 D dp g a n M _ hdp hBM hF h23 hD hna ha (by omega) ?_
  rw [rp, if_neg (by omega), if_neg (by omega), if_neg (by omega), if_pos rfl] at hκ
  have hok := rp_ok hs f 5 dp a e0f ha (fun _ => rfl)
  revert hκ hok
  cases rp s f 5 dp a e0f with
  | inl x =>
    intro hκ hok M1 hB1 hF1 hx
    have := hok.2
    refine zb54_6 (D := D + 6 * g + 7) hT rfl hB1 (by omega) (by omega) (by omega) ?_
    exact zb54_10 (k := 0) (D := D + 6 * g + 7) hT rfl hB1 (by omega) (by omega) (by omega) (by omega) (fun q => by omega) (fun _ _ => hκ M1 hB1 hF1 hx) (fun _ q => absurd rfl q) (fun _ q => absurd rfl q) (fun _ q => absurd rfl q)
  | inr y =>
    obtain ⟨b, v⟩ := y
    intro hκ hok i n1 M1 hB1 hF1 g23 hD1 hn1 hs1 hi hnb hv
    obtain ⟨⟨o1, o2, o3⟩, o4⟩ := hok
    have o3 := o3 (by omega) (by omega)
    dsimp only at o1 o2 o3 o4 g23 hnb hv
    refine zb54_6 (D := D + 6 * g + 7) hT rfl hB1 (by omega) (by omega) (by omega) ?_
    exact h2 D dp g b a n1 n i 0 M1 M κ v hdp hB1 hF1 g23 hD1 hn1 hs1 hi hnb hna (by omega) o2 (by omega) (by omega) o4 hv hκ
theorem cr_54L (hT : zRules T) (hsd : s = sgC m) (hL : L ≤ 40) (hs : ∀ a, L ≤ a → s a = -1) (h3 : Cs T m s L 55 5 1 9 f) (h2 : Cl T m s L 54 4 10 f) : Cl T m s L 54 4 10 (f + 1) := by
  intro D dp g a a0 n n0 i t M M0 κ acc hdp hBM hF h23 hD hn0 hs0 hi hna hn00 haa ha ht hf hacc hv hκ
  have hlt : ∀ a, ¬ s a = -1 → a < L := fun a h => by
    rcases Nat.lt_or_ge a L with q | q
    · exact q
    · exact absurd (hs a q) h
  have hr : nxC M = s a := by rw [hsd]; exact nx_s hF h23
  have n23 : (zu M 2 3 (M 2 3 + 1)) 2 3 = ((a + 1 : Nat) : Int) := by rw [zu_sm rfl]; omega
  have hz : zB (zu M 2 3 (M 2 3 + 1)) := zB_u hBM (show -1 ≤ M 2 3 + 1 ∧ M 2 3 + 1 ≤ 100 by omega)
  have hD2 : DS (zu M 2 3 (M 2 3 + 1)) n := hD
  have fin : ¬ s a = 42 → ¬ s a = 47 → κ (some (zi (i : Int))) M := by
    intro c1 c2
    rw [rp, if_neg (by omega), if_neg (by omega), if_neg (by omega), if_neg (by omega), if_pos rfl, if_neg c1, if_neg c2] at hκ
    exact hκ i n M hBM hF h23 hD hn0 hs0 hi hna hv
  have step : ∀ (sg : Int) (op : Int → Int → Int), (sg = 42 ∨ sg = 47) → s a = sg → (∀ x y, wr x = x → wr y = y → wr (joinV sg x y) = op x y) → rp s (f + 1) 4 dp a acc = rb (rp s f 5 dp (a + 1) e0f) (fun b w => rp s f 4 dp b (fun e => op (acc e) (w e))) → T (D + 6 * g + 9) 55 (0, [(0, zr 9), (1, zr 2), (2, zi (dp : Int))], [], zu M 2 3 (M 2 3 + 1)) (fun r m1 => T (D + 6 * g + 10) 54 (60, [(0, zr 9), (1, zr 2), (2, zi (dp : Int)), (3, zi (i : Int)), (4, zi (t : Int)), (5, zi sg)], r.toList ++ [], m1) κ) := by
    intro sg op hsg hsa hop hrp
    rw [hrp] at hκ
    have haL := hlt a (by omega)
    have hok := rp_ok hs f 5 dp (a + 1) e0f haL (fun _ => rfl)
    refine h3 D dp g (a + 1) n _ _ hdp hz (hF.set rfl) n23 hD2 (by omega) haL (by omega) ?_
    revert hκ hok
    cases rp s f 5 dp (a + 1) e0f with
    | inl x =>
      intro hκ hok M1 hB1 hF1 hx
      have := hok.2
      refine zb54_60b (D := D + 6 * g + 7) hT rfl (by omega) (by omega) (by omega) (by omega) ?_
      exact zb54_10 (k := t + 1) (D := D + 6 * g + 7) hT rfl hB1 (by omega) (by omega) (by omega) (by omega) (fun _ => hκ M1 hB1 hF1 hx) (fun _ _ => hκ M1 hB1 hF1 hx) (fun _ q => absurd rfl q) (fun _ q => absurd rfl q) (fun _ q => absurd rfl q)
    | inr y =>
      obtain ⟨b, w⟩ := y
      intro hκ hok j n1 M1 hB1 hF1 g23 hD1 hn1 hs1 hj hnb hw
      obtain ⟨⟨o1, o2, o3⟩, o4⟩ := hok
      have o3 := o3 (by omega) (by omega)
      dsimp only [rb] at hκ
      dsimp only at o1 o2 o3 o4 g23 hnb hw
      have e98 := hD1.1
      have hop2 : isOp sg := by
        rcases hsg with q | q <;> (subst q; exact ⟨by omega, by omega, by omega, by omega, by omega, by omega⟩)
      refine zb54_60 (D := D + 6 * g + 7) hT rfl hB1 (by omega) (by omega) (by omega) (by omega) (by omega) (by omega) (fun _ hz1 => ?_) (fun q => by omega)
      obtain ⟨p1, p2, p3⟩ := hD1.add (sg := sg) (v := (i : Int)) (w := (j : Int)) (fun _ => by omega)
      have p23 : addP M1 sg (i : Int) (j : Int) 2 3 = (b : Int) := by rw [addP_23]; exact g23
      rw [show M1 9 8 + 1 - 1 = (n1 : Int) by omega]
      have hs9 : sameD n M M1 := hs1
      refine h2 D dp g b a0 (n1 + 1) n0 n1 (t + 1) (addP M1 sg (i : Int) (j : Int)) M0 κ _ hdp hz1 (addP_fr hF1) p23 p1 (by omega) ((hs0.trans hs9 hn0).trans p2 (by omega)) (by omega) (by omega) hn00 (by omega) o2 (by omega) (by omega) (fun e => ?_) (fun e he => ?_) hκ
      · rw [← hop _ _ (hacc e) (o4 e)]
        exact wr_wr _
      · rw [addOp hD1 (by omega) (by omega) hop2, hw e he, hs9.pv (by omega), hv e he]
        exact hop _ _ (hacc e) (o4 e)
  by_cases ht40 : t < 40
  · refine zb54_10 (D := D + 6 * g + 7) hT rfl hBM (by omega) (by omega) (by omega) (by omega) (fun q => by omega) (fun _ q => by omega) (fun _ _ c1 => ?_) (fun _ _ c1 c2 => ?_) (fun _ _ c1 c2 => ?_)
    · rw [hr] at c1 ⊢
      rw [c1]
      intro _
      refine step 42 (fun x y => wr (x * y)) (Or.inl rfl) c1 (fun x y hx hy => by rw [joinV_42]) ?_
      rw [rp, if_neg (by omega), if_neg (by omega), if_neg (by omega), if_neg (by omega), if_pos rfl, if_pos c1]
    · rw [hr] at c1 c2 ⊢
      rw [c2]
      intro _
      refine step 47 (fun x y => if y = 0 then 0 else wr (Int.tdiv x y)) (Or.inr rfl) c2 (fun x y hx hy => by
        rw [joinV_47, hx, hy]
        by_cases q : y = 0
        · rw [if_pos q, if_pos q]
          rfl
        · rw [if_neg q, if_neg q]) ?_
      rw [rp, if_neg (by omega), if_neg (by omega), if_neg (by omega), if_neg (by omega), if_pos rfl, if_neg c1, if_pos c2]
    · rw [hr] at c1 c2
      exact fin c1 c2
  · have hsa := hs a (by omega)
    exact zb54_10 (D := D + 6 * g + 7) hT rfl hBM (by omega) (by omega) (by omega) (by omega) (fun _ => fin (by omega) (by omega)) (fun q => absurd q (by omega)) (fun q => absurd q (by omega)) (fun q => absurd q (by omega)) (fun q => absurd q (by omega))
theorem cr_52 (hT : zRules T) (hsd : s = sgC m) (hL : L ≤ 40) (hs : ∀ a, L ≤ a → s a = -1) (h1 : Cs T m s L 53 1 3 11 f) : Cs T m s L 52 0 4 12 (f + 1) := by
  intro D dp g a n M κ hdp hBM hF h23 hD hna ha hf hκ
  have hlt : ∀ a, ¬ s a = -1 → a < L := fun a h => by
    rcases Nat.lt_or_ge a L with q | q
    · exact q
    · exact absurd (hs a q) h
  refine zb52_0 (D := D + 6 * g + 9) hT hBM (by omega) (by omega) ?_
  refine h1 D dp g a n M _ hdp hBM hF h23 hD hna ha (by omega) ?_
  rw [rp, if_pos rfl] at hκ
  have hok := rp_ok hs f 1 dp a e0f ha (fun _ => rfl)
  revert hκ hok
  cases rp s f 1 dp a e0f with
  | inl x =>
    intro hκ hok M1 hB1 hF1 hx
    have := hok.2
    exact zb52_6 (D := D + 6 * g + 9) hT rfl hB1 (by omega) (by omega) (by omega) (fun _ => hκ M1 hB1 hF1 hx) (fun q => absurd rfl q) (fun q => absurd rfl q) (fun q => absurd rfl q) (fun q => absurd rfl q)
  | inr y =>
    obtain ⟨b, v⟩ := y
    intro hκ hok i n1 M1 hB1 hF1 g23 hD1 hn1 hs1 hi hnb hv
    dsimp only [rb] at hκ
    obtain ⟨⟨o1, o2, o3⟩, o4⟩ := hok
    have o3 := o3 (by omega) (by omega)
    dsimp only at o1 o2 o3 o4 g23 hnb hv
    have hr : nxC M1 = s b := by rw [hsd]; exact nx_s hF1 g23
    have n23 : (zu M1 2 3 (M1 2 3 + 1)) 2 3 = ((b + 1 : Nat) : Int) := by rw [zu_sm rfl]; omega
    have hz : zB (zu M1 2 3 (M1 2 3 + 1)) := zB_u hB1 (show -1 ≤ M1 2 3 + 1 ∧ M1 2 3 + 1 ≤ 100 by omega)
    have hD2 : DS (zu M1 2 3 (M1 2 3 + 1)) n1 := hD1
    have step : ∀ (sg : Int) (op : Int → Int → Int), (sg = 60 ∨ sg = 62 ∨ sg = 61) → s b = sg → (∀ x y, wr x = x → wr y = y → wr (joinV sg x y) = op x y) → CK κ m M n a (rb (rp s f 1 dp (b + 1) e0f) (fun c w => .inr (c, fun e => op (v e) (w e)))) → T (D + 6 * g + 11) 53 (0, [(0, zr 9), (1, zr 2), (2, zi (dp : Int))], [], zu M1 2 3 (M1 2 3 + 1)) (fun r m1 => T (D + 6 * g + 12) 52 (57, [(0, zr 9), (1, zr 2), (2, zi (dp : Int)), (3, zi (i : Int)), (4, zi sg)], r.toList ++ [], m1) κ) := by
      intro sg op hsg hsb hop hκ
      have hbL := hlt b (by omega)
      have hok2 := rp_ok hs f 1 dp (b + 1) e0f hbL (fun _ => rfl)
      refine h1 D dp g (b + 1) n1 _ _ hdp hz (hF1.set rfl) n23 hD2 (by omega) hbL (by omega) ?_
      revert hκ hok2
      cases rp s f 1 dp (b + 1) e0f with
      | inl x =>
        intro hκ hok2 M2 hB2 hF2 hx
        exact zb52_57b (D := D + 6 * g + 9) hT rfl (by omega) (by omega) (hκ M2 hB2 hF2 hx)
      | inr y =>
        obtain ⟨c, w⟩ := y
        intro hκ hok2 j n2 M2 hB2 hF2 i23 hD3 hn2 hs2 hj hnc hw
        obtain ⟨⟨r1, r2, r3⟩, r4⟩ := hok2
        have r3 := r3 (by omega) (by omega)
        dsimp only [rb] at hκ
        dsimp only at r1 r2 r3 r4 i23 hnc hw
        have e98 := hD3.1
        have hop2 : isOp sg := by
          rcases hsg with q | q | q <;> (subst q; exact ⟨by omega, by omega, by omega, by omega, by omega, by omega⟩)
        refine zb52_57 (D := D + 6 * g + 9) hT rfl hB2 (by omega) (by omega) (by omega) (by omega) (fun _ hz1 => ?_) (fun q => by omega)
        obtain ⟨p1, p2, p3⟩ := hD3.add (sg := sg) (v := (i : Int)) (w := (j : Int)) (fun _ => by omega)
        have p23 : addP M2 sg (i : Int) (j : Int) 2 3 = (c : Int) := by rw [addP_23]; exact i23
        rw [show M2 9 8 + 1 - 1 = (n2 : Int) by omega]
        have hs9 : sameD n1 M1 M2 := hs2
        refine hκ n2 (n2 + 1) (addP M2 sg (i : Int) (j : Int)) hz1 (addP_fr hF2) p23 p1 (by omega) ((hs1.trans hs9 hn1).trans p2 (by omega)) (by omega) (by dsimp only; omega) (fun e he => ?_)
        rw [addOp hD3 (by omega) (by omega) hop2, hw e he, hs9.pv (by omega), hv e he]
        exact hop _ _ (o4 e) (r4 e)
    refine zb52_6 (D := D + 6 * g + 9) hT rfl hB1 (by omega) (by omega) (by omega) (fun q => by omega) (fun _ c1 => ?_) (fun _ c1 c2 => ?_) (fun _ c1 c2 c3 => ?_) (fun _ c1 c2 c3 => ?_)
    · rw [hr] at c1 ⊢
      rw [if_pos c1] at hκ
      rw [c1]
      intro _
      exact step 60 (fun x y => if x < y then 1 else 0) (Or.inl rfl) c1 (fun x y hx hy => by rw [joinV_60, hx, hy]; exact wr_ite) hκ
    · rw [hr] at c1 c2 ⊢
      rw [if_neg c1, if_pos c2] at hκ
      rw [c2]
      intro _
      exact step 62 (fun x y => if y < x then 1 else 0) (Or.inr (Or.inl rfl)) c2 (fun x y hx hy => by rw [joinV_62, hx, hy]; exact wr_ite) hκ
    · rw [hr] at c1 c2 c3 ⊢
      rw [if_neg c1, if_neg c2, if_pos c3] at hκ
      rw [c3]
      intro _
      exact step 61 (fun x y => if x = y then 1 else 0) (Or.inr (Or.inr rfl)) c3 (fun x y hx hy => by rw [joinV_61, hx, hy]; exact wr_ite) hκ
    · rw [hr] at c1 c2 c3
      rw [if_neg c1, if_neg c2, if_neg c3] at hκ
      exact hκ i n1 M1 hB1 hF1 g23 hD1 hn1 hs1 hi hnb hv
end ZRead
end
-- 58.num.lean.txt
section
/-! Numbers read by the class; a thing, signs ahead of it, an EXPRESSION within. -/
theorem zu_zu {m : zM} {q i : Nat} {v w : Int} : zu (zu m q i v) q i w = zu m q i w := by
  funext c j
  by_cases e : c = q
  · subst e
    by_cases e2 : j = i
    · rw [zu_sm e2, zu_sm e2]
    · rw [zu_off e2, zu_off e2, zu_off e2]
  · rw [zu_dn e, zu_dn e, zu_dn e]
theorem zu_id {m : zM} {q i : Nat} {v : Int} (h : m q i = v) : zu m q i v = m := by
  funext c j
  by_cases e : c = q
  · subst e
    by_cases e2 : j = i
    · rw [zu_sm e2, e2, h]
    · rw [zu_off e2]
  · rw [zu_dn e]
section ZNum
variable {T : Nat → Nat → zG → (Option zA → zM → Prop) → Prop} {D : Nat} {κ : Option zA → zM → Prop}
theorem nx_at {M : zM} {a : Nat} : nxC (zu M 2 3 (a : Int)) = sgC M a := by
  unfold nxC sgC
  rw [zu_sm rfl, zu_off (by omega), zu_dn (by omega), Int.toNat_natCast]
theorem sC_lt {M : zM} (hB : zB M) {a : Nat} (h : ¬ sgC M a = -1) : (a : Int) < M 2 2 ∧ M 2 2 ≤ 80 := by
  have h2 : 0 ≤ M 2 2 ∧ M 2 2 ≤ 80 := hB 2 2
  unfold sgC at h
  split at h
  · exact ⟨by assumption, h2.2⟩
  · exact absurd rfl h
theorem z_num_2 (hT : zRules T) {M : zM} {a : Nat} (hB : zB M) (h23 : M 2 3 = (a : Int)) (ha : a ≤ 80)
    (h1 : 48 ≤ sgC M a → sgC M a ≤ 57 → zB (zu M 2 3 ((rNum (sgC M) 2 a 0).1 : Int)) → κ (some (zi (rNum (sgC M) 2 a 0).2)) (zu M 2 3 ((rNum (sgC M) 2 a 0).1 : Int))) (h2 : ¬ (48 ≤ sgC M a ∧ sgC M a ≤ 57) → κ (some (zi (-1))) M) : T (D + 3) 72 (0, [(0, zr 2), (1, zi 2)], [], M) κ := by
  have hBa : ∀ b : Nat, b ≤ 90 → zB (zu M 2 3 (b : Int)) := fun b hb => zB_u hB (show -1 ≤ (b : Int) ∧ (b : Int) ≤ 100 by omega)
  have key : ∀ (j k b : Nat) (v : Int), k + j = 2 → 1 ≤ k → b ≤ 81 → (0 ≤ v ∧ (k = 1 → v ≤ 9) ∧ (k = 2 → v ≤ 99) ∧ v ≤ 999) → κ (some (zi (rNum (sgC M) j b v).2)) (zu M 2 3 ((rNum (sgC M) j b v).1 : Int)) → T (D + 3) 72 (10, [(0, zr 2), (1, zi 2), (2, zi v), (3, zi (k : Int))], [], zu M 2 3 (b : Int)) κ := by
    intro j
    induction j with
    | zero =>
      intro k b v hk h1k hb hv hκ
      exact zb72_10_2 hT rfl (hBa b (by omega)) (by omega) (by omega) (by rw [zu_sm rfl]; omega) (fun _ => hκ) (fun q => by omega) (fun q => by omega) (fun q => by omega) (fun q => by omega)
    | succ j ih =>
      intro k b v hk h1k hb hv hκ
      rw [rNum] at hκ
      refine zb72_10_2 hT rfl (hBa b (by omega)) (by omega) (by omega) (by rw [zu_sm rfl]; omega) (fun q => by omega) (fun _ q => by omega) (fun _ _ q => ?_) (fun _ _ q1 q2 => ?_) (fun _ _ q1 q2 => ?_)
      · rw [nx_at] at q
        rw [if_neg (by omega)] at hκ
        exact hκ
      · rw [nx_at] at q1 q2 ⊢
        rw [if_pos (by omega)] at hκ
        have hlt := sC_lt hB (a := b) (by omega)
        intro _
        rw [zu_sm rfl, zu_zu, show v * 10 + (sgC M b - 48) = 10 * v + (sgC M b - 48) by omega]
        exact ih (k + 1) (b + 1) _ (by omega) (by omega) (by omega) (by omega) hκ
      · rw [nx_at] at q1 q2
        rw [if_neg (by omega)] at hκ
        exact hκ
  have e0 : zu M 2 3 (a : Int) = M := zu_id h23
  have hn : nxC M = sgC M a := by rw [← nx_at, e0]
  refine zb72_0_2 hT hB (by omega) (fun q => ?_) (fun q1 q2 => ?_) (fun q1 q2 => ?_)
  · rw [hn] at q
    exact zb72_10_2 (k := 1) hT rfl hB (by omega) (by omega) (by omega) (fun q => by omega) (fun _ _ => h2 (by omega)) (fun _ q => absurd rfl q) (fun _ q => absurd rfl q) (fun _ q => absurd rfl q)
  · rw [hn] at q1 q2 ⊢
    intro _
    have hlt := sC_lt hB (a := a) (by omega)
    have e1 : rNum (sgC M) 2 a 0 = rNum (sgC M) 1 (a + 1) (sgC M a - 48) := by
      rw [rNum, if_pos (by omega), show (10 * 0 + (sgC M a - 48) : Int) = sgC M a - 48 by omega]
    have hs : ∀ b, (M 2 2).toNat ≤ b → sgC M b = -1 := fun b hb => by
      unfold sgC
      rw [if_neg (by omega)]
    have hP := rNumP hs 1 (a + 1) (sgC M a - 48) (by omega)
    have hk := h1 (by omega) (by omega) (hBa _ (by rw [e1]; omega))
    rw [e1] at hk
    have := key 1 1 (a + 1) (sgC M a - 48) (by omega) (by omega) (by omega) (by omega) hk
    rw [h23]
    exact this
  · rw [hn] at q1 q2
    exact zb72_10_2 (k := 1) hT rfl hB (by omega) (by omega) (by omega) (fun q => by omega) (fun _ _ => h2 (by omega)) (fun _ q => absurd rfl q) (fun _ q => absurd rfl q) (fun _ q => absurd rfl q)
theorem z_num_3 (hT : zRules T) {M : zM} {a : Nat} (hB : zB M) (h23 : M 2 3 = (a : Int)) (ha : a ≤ 80)
    (h1 : 48 ≤ sgC M a → sgC M a ≤ 57 → zB (zu M 2 3 ((rNum (sgC M) 3 a 0).1 : Int)) → κ (some (zi (rNum (sgC M) 3 a 0).2)) (zu M 2 3 ((rNum (sgC M) 3 a 0).1 : Int))) (h2 : ¬ (48 ≤ sgC M a ∧ sgC M a ≤ 57) → κ (some (zi (-1))) M) : T (D + 3) 72 (0, [(0, zr 2), (1, zi 3)], [], M) κ := by
  have hBa : ∀ b : Nat, b ≤ 90 → zB (zu M 2 3 (b : Int)) := fun b hb => zB_u hB (show -1 ≤ (b : Int) ∧ (b : Int) ≤ 100 by omega)
  have key : ∀ (j k b : Nat) (v : Int), k + j = 3 → 1 ≤ k → b ≤ 81 → (0 ≤ v ∧ (k = 1 → v ≤ 9) ∧ (k = 2 → v ≤ 99) ∧ v ≤ 999) → κ (some (zi (rNum (sgC M) j b v).2)) (zu M 2 3 ((rNum (sgC M) j b v).1 : Int)) → T (D + 3) 72 (10, [(0, zr 2), (1, zi 3), (2, zi v), (3, zi (k : Int))], [], zu M 2 3 (b : Int)) κ := by
    intro j
    induction j with
    | zero =>
      intro k b v hk h1k hb hv hκ
      exact zb72_10_3 hT rfl (hBa b (by omega)) (by omega) (by omega) (by rw [zu_sm rfl]; omega) (fun _ => hκ) (fun q => by omega) (fun q => by omega) (fun q => by omega) (fun q => by omega)
    | succ j ih =>
      intro k b v hk h1k hb hv hκ
      rw [rNum] at hκ
      refine zb72_10_3 hT rfl (hBa b (by omega)) (by omega) (by omega) (by rw [zu_sm rfl]; omega) (fun q => by omega) (fun _ q => by omega) (fun _ _ q => ?_) (fun _ _ q1 q2 => ?_) (fun _ _ q1 q2 => ?_)
      · rw [nx_at] at q
        rw [if_neg (by omega)] at hκ
        exact hκ
      · rw [nx_at] at q1 q2 ⊢
        rw [if_pos (by omega)] at hκ
        have hlt := sC_lt hB (a := b) (by omega)
        intro _
        rw [zu_sm rfl, zu_zu, show v * 10 + (sgC M b - 48) = 10 * v + (sgC M b - 48) by omega]
        exact ih (k + 1) (b + 1) _ (by omega) (by omega) (by omega) (by omega) hκ
      · rw [nx_at] at q1 q2
        rw [if_neg (by omega)] at hκ
        exact hκ
  have e0 : zu M 2 3 (a : Int) = M := zu_id h23
  have hn : nxC M = sgC M a := by rw [← nx_at, e0]
  refine zb72_0_3 hT hB (by omega) (fun q => ?_) (fun q1 q2 => ?_) (fun q1 q2 => ?_)
  · rw [hn] at q
    exact zb72_10_3 (k := 1) hT rfl hB (by omega) (by omega) (by omega) (fun q => by omega) (fun _ _ => h2 (by omega)) (fun _ q => absurd rfl q) (fun _ q => absurd rfl q) (fun _ q => absurd rfl q)
  · rw [hn] at q1 q2 ⊢
    intro _
    have hlt := sC_lt hB (a := a) (by omega)
    have e1 : rNum (sgC M) 3 a 0 = rNum (sgC M) 2 (a + 1) (sgC M a - 48) := by
      rw [rNum, if_pos (by omega), show (10 * 0 + (sgC M a - 48) : Int) = sgC M a - 48 by omega]
    have hs : ∀ b, (M 2 2).toNat ≤ b → sgC M b = -1 := fun b hb => by
      unfold sgC
      rw [if_neg (by omega)]
    have hP := rNumP hs 2 (a + 1) (sgC M a - 48) (by omega)
    have hk := h1 (by omega) (by omega) (hBa _ (by rw [e1]; omega))
    rw [e1] at hk
    have := key 2 1 (a + 1) (sgC M a - 48) (by omega) (by omega) (by omega) (by omega) hk
    rw [h23]
    exact this
  · rw [hn] at q1 q2
    exact zb72_10_3 (k := 1) hT rfl hB (by omega) (by omega) (by omega) (fun q => by omega) (fun _ _ => h2 (by omega)) (fun _ q => absurd rfl q) (fun _ q => absurd rfl q) (fun _ q => absurd rfl q)
end ZNum
end
-- 59.cthing.lean.txt
section
/-! A thing, signs ahead of it, an EXPRESSION within: read by the class. -/
section ZThingC
variable {T : Nat → Nat → zG → (Option zA → zM → Prop) → Prop} {m : zM} {s : Nat → Int} {L f : Nat}
theorem sC_fr {m M : zM} (hF : zFr cW m M) : sgC M = sgC m := by
  funext a
  have e1 : M 2 2 = m 2 2 := hF 2 2 rfl
  have e2 : M 3 a = m 3 a := hF 3 a rfl
  unfold sgC
  rw [e1, e2]
/-- what is read of a thing that has no - ahead of it -/
noncomputable def Ct (T : Nat → Nat → zG → (Option zA → zM → Prop) → Prop) (m : zM) (s : Nat → Int) (L f : Nat) : Prop := ∀ (D dp g a n : Nat) (M : zM) (κ : Option zA → zM → Prop), dp + g = 4 → zB M → zFr cW m M → M 2 3 = (a : Int) → DS M n → n ≤ a → a ≤ L → 4 * (L - a) + 1 ≤ f → ¬ s a = 45 → CK κ m M n a (rp s f 5 dp a e0f) → T (D + 6 * g + 8) 56 (0, [(0, zr 9), (1, zr 2), (2, zi (dp : Int))], [], M) κ
theorem cr_56 (hT : zRules T) (hsd : s = sgC m) (hL : L ≤ 40) (hs : ∀ a, L ≤ a → s a = -1) (h0 : Cs T m s L 52 0 4 12 f) : Ct T m s L (f + 1) := by
  intro D dp g a n M κ hdp hBM hF h23 hD hna ha hf h45 hκ
  have hlt : ∀ a, ¬ s a = -1 → a < L := fun a h => by
    rcases Nat.lt_or_ge a L with q | q
    · exact q
    · exact absurd (hs a q) h
  have hr : nxC M = s a := by rw [hsd]; exact nx_s hF h23
  have e98 := hD.1
  have n23 : (zu M 2 3 (M 2 3 + 1)) 2 3 = ((a + 1 : Nat) : Int) := by rw [zu_sm rfl]; omega
  rw [rp, if_neg (by omega), if_neg (by omega), if_neg (by omega), if_neg (by omega), if_neg (by omega), if_neg h45] at hκ
  have hD2 : DS (zu M 2 3 (M 2 3 + 1)) n := hD
  have letter : ∀ (sg : Int) (v : zEnv → Int), ¬ isOp sg → s a = sg → (∀ e, okE e → nodeV sg 0 0 (valsN (addP (zu M 2 3 (M 2 3 + 1)) sg 0 0 14) (addP (zu M 2 3 (M 2 3 + 1)) sg 0 0 15) (addP (zu M 2 3 (M 2 3 + 1)) sg 0 0 16) (fun _ => 0) e n) e = v e) → CK κ m M n a (.inr (a + 1, v)) → zB (addP (zu M 2 3 (M 2 3 + 1)) sg 0 0) → κ (some (zi (M 9 8 + 1 - 1))) (addP (zu M 2 3 (M 2 3 + 1)) sg 0 0) := by
    intro sg v hop hsa hv hκ hz
    have haL := hlt a (by intro q; rw [hsa] at q; subst q; exact hop ⟨by omega, by omega, by omega, by omega, by omega, by omega⟩)
    obtain ⟨p1, p2, p3, p4, p5⟩ := hD2.add (sg := sg) (v := 0) (w := 0) (fun q => absurd q hop)
    rw [show M 9 8 + 1 - 1 = (n : Int) by omega]
    refine hκ n (n + 1) _ hz (addP_fr (hF.set rfl)) (by rw [addP_23]; exact n23) p1 (by omega) p2 (by omega) (by dsimp only; omega) (fun e he => ?_)
    rw [pv_thing, p3, p4, p5]
    exact hv e he
  refine zb56_0 (D := D + 6 * g + 5) hT hBM (by omega) (by omega) ?_ ?_ ?_ ?_ ?_ ?_ ?_ ?_ ?_ ?_ ?_ ?_ ?_ ?_
  all_goals rw [hr]
  · intro c1 c2
    simp (disch := omega) only [if_neg] at hκ
    exact hκ M hBM hF h23
  · intro c1 c2
    rw [if_pos c2] at hκ
    have haL := hlt a (by omega)
    rcases Nat.lt_or_ge dp 4 with hd | hd
    · obtain ⟨g1, rfl⟩ : ∃ g1, g = g1 + 1 := ⟨g - 1, by omega⟩
      rw [if_pos hd] at hκ
      show T (D + 6 * g1 + 10 + 3) 57 (0, [(0, zr 9), (1, zr 2), (2, zi ((dp + 1 : Nat) : Int))], [], M) _
      refine zb57_0 (D := D + 6 * g1 + 10) hT hBM (by omega) (by omega) (fun _ hz => ?_) (fun q => by omega)
      have hok := rp_ok hs f 0 (dp + 1) (a + 1) e0f haL (fun _ => rfl)
      refine h0 D (dp + 1) g1 (a + 1) n _ _ (by omega) hz (hF.set rfl) n23 hD2 (by omega) haL (by omega) ?_
      revert hκ hok
      cases rp s f 0 (dp + 1) (a + 1) e0f with
      | inl x =>
        intro hκ hok M1 hB1 hF1 hx
        have := hok.2
        refine zb57_23 (D := D + 6 * g1 + 10) hT rfl hB1 (by omega) (by omega) (fun _ => ?_) (fun q => absurd rfl q) (fun q => absurd rfl q)
        exact zb56_44 (D := D + 6 * (g1 + 1) + 5) hT rfl (by omega) (hκ M1 hB1 hF1 hx)
      | inr y =>
        obtain ⟨b, w⟩ := y
        intro hκ hok j n1 M1 hB1 hF1 g23 hD1 hn1 hs1 hj hnb hw
        obtain ⟨⟨o1, o2, o3⟩, o4⟩ := hok
        dsimp only [rb] at hκ
        dsimp only at o1 o2 o3 o4 g23 hnb hw
        have hr1 : nxC M1 = s b := by rw [hsd]; exact nx_s hF1 g23
        refine zb57_23 (D := D + 6 * g1 + 10) hT rfl hB1 (by omega) (by omega) (fun q => by omega) (fun _ q hz1 => ?_) (fun _ q => ?_)
        · rw [hr1] at q
          rw [if_pos q] at hκ
          refine zb56_44 (D := D + 6 * (g1 + 1) + 5) hT rfl (by omega) ?_
          refine hκ j n1 _ hz1 (hF1.set rfl) ?_ hD1 (by omega) hs1 hj (by dsimp only; omega) hw
          rw [zu_sm rfl]
          dsimp only
          omega
        · rw [hr1] at q
          rw [if_neg q] at hκ
          exact zb56_44 (D := D + 6 * (g1 + 1) + 5) hT rfl (by omega) (hκ M1 hB1 hF1 g23)
    · rw [if_neg (by omega)] at hκ
      show T (D + 6 * g + 4 + 3) 57 (0, [(0, zr 9), (1, zr 2), (2, zi ((dp + 1 : Nat) : Int))], [], M) _
      refine zb57_0 (D := D + 6 * g + 4) hT hBM (by omega) (by omega) (fun q => by omega) (fun _ => ?_)
      exact zb56_44 (D := D + 6 * g + 5) hT rfl (by omega) (hκ M hBM hF h23)
  · intro c1 c2  c3 c4 hz
    rw [if_neg (by omega), if_neg (by omega), if_pos c3] at hκ
    rw [c3] at hz ⊢
    refine letter 104 _ (fun q => q.2.1 rfl) c3 (fun e he => ?_) hκ hz
    unfold nodeV
    simp (disch := omega) only [if_neg, if_pos]
    exact (he.1).symm
  · intro c1 c2  c3 c4
    have := hlt a (by omega)
    omega
  · intro c1 c2 d104 c3 c4 hz
    rw [if_neg (by omega), if_neg (by omega), if_neg d104, if_pos c3] at hκ
    rw [c3] at hz ⊢
    refine letter 108 _ (fun q => q.2.2.2.1 rfl) c3 (fun e he => ?_) hκ hz
    unfold nodeV
    simp (disch := omega) only [if_neg, if_pos]
    exact (he.2.1).symm
  · intro c1 c2 d104 c3 c4
    have := hlt a (by omega)
    omega
  · intro c1 c2 d104 d108 c3 c4 hz
    rw [if_neg (by omega), if_neg (by omega), if_neg d104, if_neg d108, if_pos c3] at hκ
    rw [c3] at hz ⊢
    refine letter 119 _ (fun q => q.2.2.2.2.2 rfl) c3 (fun e he => ?_) hκ hz
    unfold nodeV
    simp (disch := omega) only [if_neg, if_pos]
    exact (he.2.2.1).symm
  · intro c1 c2 d104 d108 c3 c4
    have := hlt a (by omega)
    omega
  · intro c1 c2 d104 d108 d119 c3 c4 hz
    rw [if_neg (by omega), if_neg (by omega), if_neg d104, if_neg d108, if_neg d119, if_pos c3] at hκ
    rw [c3] at hz ⊢
    refine letter 112 _ (fun q => q.2.2.2.2.1 rfl) c3 (fun e he => ?_) hκ hz
    unfold nodeV
    simp (disch := omega) only [if_neg, if_pos]
    exact (he.2.2.2.1).symm
  · intro c1 c2 d104 d108 d119 c3 c4
    have := hlt a (by omega)
    omega
  · intro c1 c2 d104 d108 d119 d112 c3 c4 hz
    rw [if_neg (by omega), if_neg (by omega), if_neg d104, if_neg d108, if_neg d119, if_neg d112, if_pos c3] at hκ
    rw [c3] at hz ⊢
    refine letter 105 _ (fun q => q.2.2.1 rfl) c3 (fun e he => ?_) hκ hz
    unfold nodeV
    simp (disch := omega) only [if_neg, if_pos]
    exact (he.2.2.2.2).symm
  · intro c1 c2 d104 d108 d119 d112 c3 c4
    have := hlt a (by omega)
    omega
  · intro c1 c2 c3 c4 c5 c6 c7
    simp (disch := omega) only [if_neg] at hκ
    exact hκ M hBM hF h23
  · intro c1 c2
    have haL := hlt a (by omega)
    rw [if_neg (by omega), if_pos (by omega)] at hκ
    have hsM : sgC M = s := by rw [sC_fr hF, hsd]
    refine z_num_3 (D := D + 6 * g + 4) hT hBM h23 (by omega) (fun q1 q2 hz => ?_) (fun q => absurd (by rw [hsM]; omega) q)
    rw [hsM] at hz ⊢
    obtain ⟨g1, g2⟩ := rNum1 hs (a := a) (by omega)
    have g3 := rNumV (s := s) a
    have hD3 : DS (zu M 2 3 ((rNum s 3 a 0).1 : Int)) n := hD
    have e98b : (zu M 2 3 ((rNum s 3 a 0).1 : Int)) 9 8 = (n : Int) := e98
    refine zb56_25 (D := D + 6 * g + 5) hT rfl hz g3 (by omega) (fun hz1 => ?_)
    obtain ⟨p1, p2, p3, p4, p5⟩ := hD3.add (sg := 48) (v := (rNum s 3 a 0).2) (w := 0) (fun q => absurd rfl q.1)
    rw [show (zu M 2 3 ((rNum s 3 a 0).1 : Int)) 9 8 + 1 - 1 = (n : Int) by omega]
    refine hκ n (n + 1) _ hz1 (addP_fr (hF.set rfl)) (by show addP _ _ _ _ 2 3 = _; rw [addP_23, zu_sm rfl]) p1 (by omega) p2 (by omega) (by dsimp only; omega) (fun e he => ?_)
    rw [pv_thing]
    show nodeV (addP _ 48 _ 0 14 n) (addP _ 48 _ 0 15 n) (addP _ 48 _ 0 16 n) _ e = _
    rw [p3, p4, p5]
    rfl
/-- a negation of what is read -/
noncomputable def ngP (x : rP) : rP := rb x (fun b v => .inr (b, fun e => wr (-(v e))))
theorem ngP2 {L kd a : Nat} {x : rP} (h : rOK L kd a x) : ngP (ngP x) = x := by
  rcases x with x | ⟨b, v⟩
  · rfl
  · show Sum.inr (b, fun e => wr (-(wr (-(v e))))) = Sum.inr (b, v)
    have e : (fun e => wr (-(wr (-(v e))))) = v := by
      funext e
      have h1 := h.2 e
      dsimp only at h1
      have h2 : wr (0 - wr (-(v e))) = wr (0 - -(v e)) := wr_sub2 rfl (wr_wr _)
      rw [show -(wr (-(v e))) = 0 - wr (-(v e)) by omega, h2, show (0 : Int) - -(v e) = v e by omega, h1]
    rw [e]
theorem cr_55 (hT : zRules T) (hsd : s = sgC m) (hL : L ≤ 40) (hs : ∀ a, L ≤ a → s a = -1) (h5 : ∀ f1, f1 ≤ f → Ct T m s L f1) : Cs T m s L 55 5 1 9 f := by
  have hlt : ∀ a, ¬ s a = -1 → a < L := fun a h => by
    rcases Nat.lt_or_ge a L with q | q
    · exact q
    · exact absurd (hs a q) h
  -- ng: whether it is negated so far; a0, n0: where it began
  have key : ∀ (f1 : Nat), f1 ≤ f → ∀ (D dp g a a0 n t : Nat) (ng : Bool) (M M0 : zM) (κ : Option zA → zM → Prop), dp + g = 4 → zB M → zFr cW m M → M 2 3 = (a : Int) → DS M n → n ≤ a0 → a0 + t = a → sameD n M0 M → a ≤ L → 4 * (L - a) + 1 ≤ f1 → (ng = true → 1 ≤ t) → CK κ m M0 n a0 (bif ng then ngP (rp s f1 5 dp a e0f) else rp s f1 5 dp a e0f) → T (D + 6 * g + 9) 55 (5, [(0, zr 9), (1, zr 2), (2, zi (dp : Int)), (3, zi (bif ng then 1 else 0)), (4, zi (t : Int))], [], M) κ := by
    intro f1
    induction f1 with
    | zero => intro _ D dp g a a0 n t ng M M0 κ _ _ _ _ _ _ _ _ _ h; omega
    | succ f1 ih =>
      intro hf1 D dp g a a0 n t ng M M0 κ hdp hBM hF h23 hD hn0 hat hs0 ha hf hng hκ
      have hr : nxC M = s a := by rw [hsd]; exact nx_s hF h23
      have n23 : (zu M 2 3 (M 2 3 + 1)) 2 3 = ((a + 1 : Nat) : Int) := by rw [zu_sm rfl]; omega
      have hb01 : 0 ≤ (bif ng then (1 : Int) else 0) ∧ (bif ng then (1 : Int) else 0) ≤ 1 := by cases ng <;> exact ⟨by decide, by decide⟩
      have thing : ¬ s a = 45 → T (D + 6 * g + 8) 56 (0, [(0, zr 9), (1, zr 2), (2, zi (dp : Int))], [], M) (fun r m1 => T (D + 6 * g + 9) 55 (43, [(0, zr 9), (1, zr 2), (2, zi (dp : Int)), (3, zi (bif ng then 1 else 0)), (4, zi (t : Int))], r.toList ++ [], m1) κ) := by
        intro h45
        refine h5 (f1 + 1) hf1 D dp g a n M _ hdp hBM hF h23 hD (by omega) ha hf h45 ?_
        have hok := rp_ok hs (f1 + 1) 5 dp a e0f ha (fun _ => rfl)
        revert hκ hok
        cases rp s (f1 + 1) 5 dp a e0f with
        | inl x =>
          intro hκ hok M1 hB1 hF1 hx
          refine zb55_43b (D := D + 6 * g + 6) hT rfl hb01 (fun _ => ?_) (fun _ => ?_)
          · cases ng <;> exact hκ M1 hB1 hF1 hx
          · cases ng <;> exact hκ M1 hB1 hF1 hx
        | inr y =>
          obtain ⟨b, w⟩ := y
          intro hκ hok j n1 M1 hB1 hF1 g23 hD1 hn1 hs1 hj hnb hw
          obtain ⟨⟨o1, o2, o3⟩, o4⟩ := hok
          dsimp only at o1 o2 o3 o4 g23 hnb hw
          have e98 := hD1.1
          cases ng with
          | false =>
            by_cases h40 : n1 ≤ 39
            · refine zb55_43 (D := D + 6 * g + 6) hT rfl hB1 hb01 (by omega) (by omega) (fun _ => ?_) (fun q => absurd rfl q) (fun q => absurd rfl q)
              exact hκ j n1 M1 hB1 hF1 g23 hD1 hn1 (hs0.trans hs1 (Nat.le_refl n)) hj (by dsimp only; omega) hw
            · refine zb55_43c (D := D + 6 * g + 6) hT rfl (by omega) ?_
              exact hκ j n1 M1 hB1 hF1 g23 hD1 hn1 (hs0.trans hs1 (Nat.le_refl n)) hj (by dsimp only; omega) hw
          | true =>
            have ht := hng rfl
            refine zb55_43 (D := D + 6 * g + 6) hT rfl hB1 hb01 (by omega) (by omega) (fun q => absurd q (by decide)) (fun _ q => by omega) (fun _ _ hz1 => ?_)
            obtain ⟨p1, p2, p3, p4, p5⟩ := hD1.add (sg := 126) (v := (j : Int)) (w := (j : Int)) (fun _ => by omega)
            have p23 : addP M1 126 (j : Int) (j : Int) 2 3 = (b : Int) := by rw [addP_23]; exact g23
            rw [show M1 9 8 + 1 - 1 = (n1 : Int) by omega]
            have ho : isOp 126 := ⟨by omega, by omega, by omega, by omega, by omega, by omega⟩
            refine hκ n1 (n1 + 1) (addP M1 126 (j : Int) (j : Int)) hz1 (addP_fr hF1) p23 p1 (by omega) ((hs0.trans hs1 (Nat.le_refl n)).trans p2 hn1) (by omega) (by dsimp only; omega) (fun e he => ?_)
            rw [addOp hD1 (by omega) (by omega) ho, hw e he]
            rw [joinV_126]
      by_cases ht40 : t < 40
      · refine zb55_5 (D := D + 6 * g + 6) hT rfl hBM (by omega) hb01 (by omega) (by omega) (fun q => by omega) (fun _ c1 c2 hz => ?_) (fun _ c1 c2 hz => ?_) (fun _ c1 => ?_)
        · rw [hr] at c1
          have haL := hlt a (by omega)
          have e45 : rp s (f1 + 1) 5 dp a e0f = ngP (rp s f1 5 dp (a + 1) e0f) := by
            rw [rp, if_neg (by omega), if_neg (by omega), if_neg (by omega), if_neg (by omega), if_neg (by omega), if_pos c1]
            rfl
          have hng1 : ng = true := by
            cases ng
            · exact absurd rfl c2
            · rfl
          subst hng1
          rw [e45, cond_true, ngP2 (rp_ok hs f1 5 dp (a + 1) e0f haL (fun _ => rfl))] at hκ
          exact ih (by omega) D dp g (a + 1) a0 n (t + 1) false _ M0 κ hdp hz (hF.set rfl) n23 hD hn0 (by omega) hs0 haL (by omega) (fun q => by cases q) hκ
        · rw [hr] at c1
          have haL := hlt a (by omega)
          have e45 : rp s (f1 + 1) 5 dp a e0f = ngP (rp s f1 5 dp (a + 1) e0f) := by
            rw [rp, if_neg (by omega), if_neg (by omega), if_neg (by omega), if_neg (by omega), if_neg (by omega), if_pos c1]
            rfl
          have hng1 : ng = false := by
            cases ng
            · rfl
            · exact absurd c2 (by decide)
          subst hng1
          rw [e45, cond_false] at hκ
          exact ih (by omega) D dp g (a + 1) a0 n (t + 1) true _ M0 κ hdp hz (hF.set rfl) n23 hD hn0 (by omega) hs0 haL (by omega) (fun _ => by omega) hκ
        · rw [hr] at c1
          exact thing c1
      · have hsa := hs a (by omega)
        exact zb55_5 (D := D + 6 * g + 6) hT rfl hBM (by omega) hb01 (by omega) (by omega) (fun _ => thing (by omega)) (fun q => absurd q (by omega)) (fun q => absurd q (by omega)) (fun q => absurd q (by omega))
  intro D dp g a n M κ hdp hBM hF h23 hD hna ha hf hκ
  exact zb55_0 (D := D + 6 * g + 6) hT (by omega) (key f (Nat.le_refl f) D dp g a a n 0 false M M κ hdp hBM hF h23 hD hna (by omega) sameD.refl ha hf (fun q => by cases q) hκ)
theorem cr_all (hT : zRules T) (hsd : s = sgC m) (hL : L ≤ 40) (hs : ∀ a, L ≤ a → s a = -1) : ∀ f, Cs T m s L 52 0 4 12 f ∧ Cs T m s L 53 1 3 11 f ∧ Cl T m s L 53 2 11 f ∧ Cs T m s L 54 3 2 10 f ∧ Cl T m s L 54 4 10 f ∧ Cs T m s L 55 5 1 9 f ∧ ∀ f1, f1 ≤ f → Ct T m s L f1 := by
  intro f
  induction f with
  | zero =>
    have h5 : ∀ f1, f1 ≤ 0 → Ct T m s L f1 := fun f1 h1 D dp g a n M κ _ _ _ _ _ _ _ h => by omega
    exact ⟨fun D dp g a n M κ _ _ _ _ _ _ _ h => by omega, fun D dp g a n M κ _ _ _ _ _ _ _ h => by omega, fun D dp g a a0 n n0 i t M M0 κ acc _ _ _ _ _ _ _ _ _ _ _ _ _ h => by omega, fun D dp g a n M κ _ _ _ _ _ _ _ h => by omega, fun D dp g a a0 n n0 i t M M0 κ acc _ _ _ _ _ _ _ _ _ _ _ _ _ h => by omega, cr_55 hT hsd hL hs h5, h5⟩
  | succ f ih =>
    obtain ⟨i0, i1, i2, i3, i4, i5, i6⟩ := ih
    have h6 : ∀ f1, f1 ≤ f + 1 → Ct T m s L f1 := fun f1 h1 => by
      rcases Nat.lt_or_ge f1 (f + 1) with q | q
      · exact i6 f1 (by omega)
      · have e : f1 = f + 1 := by omega
        subst e
        exact cr_56 hT hsd hL hs i0
    exact ⟨cr_52 hT hsd hL hs i1, cr_53 hT hL hs i3 i2, cr_53L hT hsd hL hs i3 i2, cr_54 hT hL hs i5 i4, cr_54L hT hsd hL hs i5 i4, cr_55 hT hsd hL hs h6, h6⟩
end ZThingC
end
-- 60.b7.lean.txt
section
section ZBlocks
variable {T : Nat → Nat → zG → (Option zA → zM → Prop) → Prop}
theorem zb63_0r (hT : zRules T) {D : Nat} {κ : Option zA → zM → Prop} {m : zM} {v : Int} 
    (o1 : ¬ 76 < wr (m 2 1) → T (D + 1) 63 (14, [(0, zr 2), (1, zi v), (2, zi 24)], [], m) κ)
    (o2 : 76 < wr (m 2 1) → κ (some (zi (-1))) m) :
    T (D + 1) 63 (0, [(0, zr 2), (1, zi v)], [], m) κ :=
  hT.1 [(14, [0, 1, 2])] 6 (D + 1) 63 _ κ (And.intro (fun a1 => (o1 a1)) (fun a2 => (o2 (Classical.byContradiction a2))))
theorem zb63_0 (hT : zRules T) {D : Nat} {κ : Option zA → zM → Prop} {m : zM} {v : Int}  (hB : zB m) (h_v : (-2147483648) ≤ v ∧ v ≤ 2147483647) 
    (k1 : ¬ 76 < (m 2 1) → T (D + 1) 63 (14, [(0, zr 2), (1, zi v), (2, zi 24)], [], m) κ)
    (k2 : 76 < (m 2 1) → κ (some (zi (-1))) m) :
    T (D + 1) 63 (0, [(0, zr 2), (1, zi v)], [], m) κ := by
  have hb1 : 0 ≤ (m 2 1) ∧ (m 2 1) ≤ 80 := hB 2 1
  have he0 : wr (m 2 1) = (m 2 1) := wr_id (by omega) (by omega)
  have key := @zb63_0r T hT D κ m v
  simp only [he0, Int.toNat_natCast] at key
  exact key
    k1
    k2
theorem zb63_14r (hT : zRules T) {D : Nat} {κ : Option zA → zM → Prop} {m : zM} {v : Int} {sh : Int} {lo : zL} (hlo : z_keep [0, 1, 2] lo = [(0, zr 2), (1, zi v), (2, zi sh)]) 
    (o1 : wr sh < 0 → κ (some (zi (wr (m 2 1)))) m)
    (o2 : ¬ wr sh < 0 → (0 ≤ wr (m 2 1) ∧ wr (m 2 1) < 80))
    (o3 : ¬ wr sh < 0 → (0 ≤ wr ((z_and (z_ush v sh) 255) % 65536) ∧ wr ((z_and (z_ush v sh) 255) % 65536) ≤ 65535))
    (o4 : ¬ wr sh < 0 → T (D + 1) 63 (14, [(0, zr 2), (1, zi v), (2, zi (sh + (-8)))], [], (zu (zu m 3 ((wr (m 2 1)).toNat) ((z_and (z_ush v sh) 255) % 65536)) 2 1 ((m 2 1) + 1))) κ) :
    T (D + 1) 63 (14, lo, [], m) κ :=
  zkeep hT hlo (hT.1 [(14, [0, 1, 2])] 6 (D + 1) 63 _ κ (And.intro (fun a1 => (o1 a1)) (fun a2 => (hT.1 [(14, [0, 1, 2])] 6 (D + 1) 63 (26, [(0, zr 2), (1, zi v), (2, zi sh)], [zi (m 2 1), zr 3], m) _ (hT.1 [(14, [0, 1, 2])] 6 (D + 1) 63 (34, [(0, zr 2), (1, zi v), (2, zi sh)], [zi ((z_and (z_ush v sh) 255) % 65536), zi (m 2 1), zr 3], m) _ (And.intro (And.intro (o2 a2) (o3 a2)) (hT.1 [(14, [0, 1, 2])] 6 (D + 1) 63 (42, [(0, zr 2), (1, zi v), (2, zi sh)], [zi ((m 2 1) + 1), zr 2], (zu m 3 ((wr (m 2 1)).toNat) ((z_and (z_ush v sh) 255) % 65536))) _ (And.intro trivial (o4 a2)))))))))
theorem zb63_14 (hT : zRules T) {D : Nat} {κ : Option zA → zM → Prop} {m : zM} {v : Int} {sh : Int} {lo : zL} (hlo : z_keep [0, 1, 2] lo = [(0, zr 2), (1, zi v), (2, zi sh)])  (hB : zB m) (h_v : (-2147483648) ≤ v ∧ v ≤ 2147483647) (h_sh : (-8) ≤ sh ∧ sh ≤ 24) (hf0 : 0 ≤ m 2 1 ∧ m 2 1 ≤ 80) 
    (k1 : sh < 0 → κ (some (zi (m 2 1))) m)
    (k2 : ¬ sh < 0 → (0 ≤ (m 2 1) ∧ (m 2 1) < 80))
    (k3 : ¬ sh < 0 → T (D + 1) 63 (14, [(0, zr 2), (1, zi v), (2, zi (sh + (-8)))], [], (zu (zu m 3 ((m 2 1).toNat) ((z_and (z_ush v sh) 255) % 65536)) 2 1 ((m 2 1) + 1))) κ) :
    T (D + 1) 63 (14, lo, [], m) κ := by
  have hb3 : (-2147483648) ≤ (z_ush v sh) ∧ (z_ush v sh) ≤ 2147483647 := z_ushB v sh
  have hb4 : 0 ≤ (z_and (z_ush v sh) 255) ∧ (z_and (z_ush v sh) 255) ≤ 255 := z_andC (z_ush v sh) 255 (by decide)
  have hb5 : 0 ≤ ((z_and (z_ush v sh) 255) % 65536) ∧ ((z_and (z_ush v sh) 255) % 65536) ≤ 65535 := z_c16B (z_and (z_ush v sh) 255)
  have he0 : wr sh = sh := wr_id (by omega) (by omega)
  have he1 : wr (m 2 1) = (m 2 1) := wr_id (by omega) (by omega)
  have he2 : wr ((z_and (z_ush v sh) 255) % 65536) = ((z_and (z_ush v sh) 255) % 65536) := wr_id (by omega) (by omega)
  have key := @zb63_14r T hT D κ m v sh lo hlo
  simp only [he0, he1, he2, Int.toNat_natCast] at key
  exact key
    k1
    k2
    (fun x0 => by refine ⟨?_, ?_⟩ <;> omega)
    k3
theorem zb112_0r (hT : zRules T) {D : Nat} {κ : Option zA → zM → Prop} {m : zM} {v : Int} 
    (o1 : T (D + 1) 63 (0, [(0, zr 2), (1, zi v)], [], m) (fun r m1 => T (D + 2) 112 (8, [(0, zr 1), (1, zi v)], r.toList ++ [], m1) κ)) :
    T (D + 2) 112 (0, [(0, zr 1), (1, zi v)], [], m) κ :=
  hT.1 [] 6 (D + 2) 112 _ κ (o1)
theorem zb112_0 (hT : zRules T) {D : Nat} {κ : Option zA → zM → Prop} {m : zM} {v : Int}  (hB : zB m) (h_v : (-2147483648) ≤ v ∧ v ≤ 2147483647) 
    (k1 : T (D + 1) 63 (0, [(0, zr 2), (1, zi v)], [], m) (fun r m1 => T (D + 2) 112 (8, [(0, zr 1), (1, zi v)], r.toList ++ [], m1) κ)) :
    T (D + 2) 112 (0, [(0, zr 1), (1, zi v)], [], m) κ := by
  exact zb112_0r hT
    k1
theorem zb112_8r (hT : zRules T) {D : Nat} {κ : Option zA → zM → Prop} {m : zM} {r : Int} {lo : zL} (hlo : z_keep [] lo = []) 
    (o1 : κ (some (zi (wr r))) m) :
    T (D + 2) 112 (8, lo, [zi r], m) κ :=
  zkeep hT hlo (hT.1 [] 6 (D + 2) 112 _ κ (o1))
theorem zb112_8 (hT : zRules T) {D : Nat} {κ : Option zA → zM → Prop} {m : zM} {r : Int} {lo : zL} (hlo : z_keep [] lo = [])  (h_r : (-1) ≤ r ∧ r ≤ 80) 
    (k1 : κ (some (zi r)) m) :
    T (D + 2) 112 (8, lo, [zi r], m) κ := by
  have he0 : wr r = r := wr_id (by omega) (by omega)
  have key := @zb112_8r T hT D κ m r lo hlo
  simp only [he0, Int.toNat_natCast] at key
  exact key
    k1
theorem zb195_0r (hT : zRules T) {D : Nat} {κ : Option zA → zM → Prop} {m : zM} {v : Int} 
    (o1 : ¬ 80 < wr ((m 74 9) + 4) → T (D + 2) 195 (20, [(0, zr 74), (1, zi v), (2, zi 3)], [], (zu m 74 12 0)) κ)
    (o2 : 80 < wr ((m 74 9) + 4) → κ (some (zi (-1))) (zu m 74 12 0)) :
    T (D + 2) 195 (0, [(0, zr 74), (1, zi v)], [], m) κ :=
  hT.1 [(20, [0, 1, 2])] 6 (D + 2) 195 _ κ (And.intro trivial (hT.1 [(20, [0, 1, 2])] 6 (D + 2) 195 (10, [(0, zr 74), (1, zi v)], [zi 4, zi (m 74 9)], (zu m 74 12 0)) _ (And.intro (fun a1 => (o1 a1)) (fun a2 => (o2 (Classical.byContradiction a2))))))
theorem zb195_0 (hT : zRules T) {D : Nat} {κ : Option zA → zM → Prop} {m : zM} {v : Int}  (hB : zB m) (h_v : (-2147483648) ≤ v ∧ v ≤ 2147483647) 
    (k1 : ¬ 80 < ((m 74 9) + 4) → zB (zu m 74 12 0) → T (D + 2) 195 (20, [(0, zr 74), (1, zi v), (2, zi 3)], [], (zu m 74 12 0)) κ)
    (k2 : 80 < ((m 74 9) + 4) → zB (zu m 74 12 0) → κ (some (zi (-1))) (zu m 74 12 0)) :
    T (D + 2) 195 (0, [(0, zr 74), (1, zi v)], [], m) κ := by
  have hb1 : 0 ≤ (m 74 9) ∧ (m 74 9) ≤ 80 := hB 74 9
  have he0 : wr ((m 74 9) + 4) = ((m 74 9) + 4) := wr_id (by omega) (by omega)
  have key := @zb195_0r T hT D κ m v
  simp only [he0, Int.toNat_natCast] at key
  exact key
    (fun x0 => k1 x0 (zB_u hB trivial))
    (fun x0 => k2 x0 (zB_u hB trivial))
theorem zb195_20r (hT : zRules T) {D : Nat} {κ : Option zA → zM → Prop} {m : zM} {v : Int} {k : Int} {lo : zL} (hlo : z_keep [0, 1, 2] lo = [(0, zr 74), (1, zi v), (2, zi k)]) 
    (o1 : wr k < 0 → κ (some (zi (wr (m 74 9)))) m)
    (o2 : ¬ wr k < 0 → (0 ≤ wr (m 74 9) ∧ wr (m 74 9) < 80))
    (o3 : ¬ wr k < 0 → ((-128) ≤ wr (z_b8 (z_shr v (8 * k))) ∧ wr (z_b8 (z_shr v (8 * k))) ≤ 127))
    (o4 : ¬ wr k < 0 → T (D + 2) 195 (20, [(0, zr 74), (1, zi v), (2, zi (k + (-1)))], [], (zu (zu m 74 9 ((m 74 9) + 1)) 80 ((wr (m 74 9)).toNat) (z_b8 (z_shr v (8 * k))))) κ) :
    T (D + 2) 195 (20, lo, [], m) κ :=
  zkeep hT hlo (hT.1 [(20, [0, 1, 2])] 6 (D + 2) 195 _ κ (And.intro (fun a1 => (o1 a1)) (fun a2 => (hT.1 [(20, [0, 1, 2])] 6 (D + 2) 195 (30, [(0, zr 74), (1, zi v), (2, zi k)], [zr 74, zr 74, zr 80], m) _ (And.intro trivial (hT.1 [(20, [0, 1, 2])] 6 (D + 2) 195 (40, [(0, zr 74), (1, zi v), (2, zi k)], [zi v, zi (m 74 9), zr 80], (zu m 74 9 ((m 74 9) + 1))) _ (And.intro (And.intro (o2 a2) (o3 a2)) (hT.1 [(20, [0, 1, 2])] 6 (D + 2) 195 (47, [(0, zr 74), (1, zi v), (2, zi k)], [], (zu (zu m 74 9 ((m 74 9) + 1)) 80 ((wr (m 74 9)).toNat) (z_b8 (z_shr v (8 * k))))) _ (o4 a2)))))))))
theorem zb195_20 (hT : zRules T) {D : Nat} {κ : Option zA → zM → Prop} {m : zM} {v : Int} {k : Int} {lo : zL} (hlo : z_keep [0, 1, 2] lo = [(0, zr 74), (1, zi v), (2, zi k)])  (hB : zB m) (h_v : (-2147483648) ≤ v ∧ v ≤ 2147483647) (h_k : (-1) ≤ k ∧ k ≤ 3) 
    (k1 : k < 0 → κ (some (zi (m 74 9))) m)
    (k2 : ¬ k < 0 → (0 ≤ (m 74 9) ∧ (m 74 9) < 80))
    (k3 : ¬ k < 0 → T (D + 2) 195 (20, [(0, zr 74), (1, zi v), (2, zi (k + (-1)))], [], (zu (zu m 74 9 ((m 74 9) + 1)) 80 ((m 74 9).toNat) (z_b8 (z_shr v (8 * k))))) κ) :
    T (D + 2) 195 (20, lo, [], m) κ := by
  have hb2 : 0 ≤ (m 74 9) ∧ (m 74 9) ≤ 80 := hB 74 9
  have hb3 : (-2147483648) ≤ (z_shr v (8 * k)) ∧ (z_shr v (8 * k)) ≤ 2147483647 := z_shrB v (8 * k)
  have hb4 : (-128) ≤ (z_b8 (z_shr v (8 * k))) ∧ (z_b8 (z_shr v (8 * k))) ≤ 127 := z_b8B (z_shr v (8 * k))
  have he0 : wr k = k := wr_id (by omega) (by omega)
  have he1 : wr (m 74 9) = (m 74 9) := wr_id (by omega) (by omega)
  have he2 : wr (z_b8 (z_shr v (8 * k))) = (z_b8 (z_shr v (8 * k))) := wr_id (by omega) (by omega)
  have key := @zb195_20r T hT D κ m v k lo hlo
  simp only [he0, he1, he2, Int.toNat_natCast] at key
  exact key
    k1
    k2
    (fun x0 => by refine ⟨?_, ?_⟩ <;> omega)
    k3
theorem zb113_0r (hT : zRules T) {D : Nat} {κ : Option zA → zM → Prop} {m : zM} {n : Int} 
    (o1 : wr n < 0 → κ (some (zi 0)) m)
    (o2 : ¬ wr n < 0 → ¬ wr (m 2 1) < wr n → κ (some (zi 1)) (zu m 2 1 n))
    (o3 : ¬ wr n < 0 → wr (m 2 1) < wr n → κ (some (zi 0)) m) :
    T (D + 2) 113 (0, [(0, zr 1), (1, zi n)], [], m) κ :=
  hT.1 [] 6 (D + 2) 113 _ κ (hT.1 [] 6 (D + 1) 64 _ _ (And.intro (fun a1 => (And.intro (z_b01L rfl) (hT.1 [] 6 (D + 2) 113 _ _ (And.intro (z_b01L rfl) (o1 a1))))) (fun a2 => (And.intro (fun a3 => (hT.1 [] 6 (D + 1) 64 (14, [(0, zr 2), (1, zi n)], [], m) _ (And.intro trivial (And.intro (z_b01L rfl) (hT.1 [] 6 (D + 2) 113 _ _ (And.intro (z_b01L rfl) (o2 a2 a3))))))) (fun a4 => (hT.1 [] 6 (D + 1) 64 (12, [(0, zr 2), (1, zi n)], [], m) _ (And.intro (z_b01L rfl) (hT.1 [] 6 (D + 2) 113 _ _ (And.intro (z_b01L rfl) (o3 a2 (Classical.byContradiction a4)))))))))))
theorem zb113_0 (hT : zRules T) {D : Nat} {κ : Option zA → zM → Prop} {m : zM} {n : Int}  (hB : zB m) (h_n : (-2147483648) ≤ n ∧ n ≤ 2147483647) 
    (k1 : n < 0 → κ (some (zi 0)) m)
    (k2 : ¬ n < 0 → ¬ (m 2 1) < n → zB (zu m 2 1 n) → κ (some (zi 1)) (zu m 2 1 n))
    (k3 : ¬ n < 0 → (m 2 1) < n → κ (some (zi 0)) m) :
    T (D + 2) 113 (0, [(0, zr 1), (1, zi n)], [], m) κ := by
  have hb1 : 0 ≤ (m 2 1) ∧ (m 2 1) ≤ 80 := hB 2 1
  have he0 : wr n = n := wr_id (by omega) (by omega)
  have he1 : wr (m 2 1) = (m 2 1) := wr_id (by omega) (by omega)
  have key := @zb113_0r T hT D κ m n
  simp only [he0, he1, Int.toNat_natCast] at key
  exact key
    k1
    (fun x0 x1 => k2 x0 x1 (zB_u hB (show 0 ≤ n ∧ n ≤ 80 from ⟨by omega, by omega⟩)))
    k3
theorem zb196_0r (hT : zRules T) {D : Nat} {κ : Option zA → zM → Prop} {m : zM} {n : Int} 
    (o1 : wr n < 0 → κ (some (zi 0)) (zu m 74 12 0))
    (o2 : ¬ wr n < 0 → wr (m 74 9) < wr n → κ (some (zi 0)) (zu m 74 12 0))
    (o3 : ¬ wr n < 0 → ¬ wr (m 74 9) < wr n → κ (some (zi 1)) (zu (zu m 74 12 0) 74 9 n)) :
    T (D + 2) 196 (0, [(0, zr 74), (1, zi n)], [], m) κ :=
  hT.1 [] 6 (D + 2) 196 _ κ (And.intro trivial (hT.1 [] 6 (D + 2) 196 (8, [(0, zr 74), (1, zi n)], [zr 74, zi 0, zi n], (zu m 74 12 0)) _ (hT.1 [] 6 (D + 1) 186 _ _ (And.intro (fun a1 => (And.intro (z_b01L rfl) (hT.1 [] 6 (D + 2) 196 _ _ (And.intro (fun a3 => (z_litF a3 rfl).elim) (fun _ => (And.intro (z_b01L rfl) (o1 a1))))))) (fun a2 => (And.intro (fun a4 => (hT.1 [] 6 (D + 1) 186 (14, [(0, zi n), (1, zi 0), (2, zi (m 74 9))], [], (zu m 74 12 0)) _ (And.intro (z_b01L rfl) (hT.1 [] 6 (D + 2) 196 _ _ (And.intro (fun a6 => (z_litF a6 rfl).elim) (fun _ => (And.intro (z_b01L rfl) (o2 a2 a4)))))))) (fun a5 => (hT.1 [] 6 (D + 1) 186 (10, [(0, zi n), (1, zi 0), (2, zi (m 74 9))], [], (zu m 74 12 0)) _ (And.intro (z_b01L rfl) (hT.1 [] 6 (D + 2) 196 _ _ (And.intro (fun _ => (And.intro trivial (And.intro (z_b01L rfl) (o3 a2 a5)))) (fun a7 => (a7 (z_litT rfl)).elim))))))))))))
theorem zb196_0 (hT : zRules T) {D : Nat} {κ : Option zA → zM → Prop} {m : zM} {n : Int}  (hB : zB m) (h_n : (-2147483648) ≤ n ∧ n ≤ 2147483647) 
    (k1 : n < 0 → zB (zu m 74 12 0) → κ (some (zi 0)) (zu m 74 12 0))
    (k2 : ¬ n < 0 → (m 74 9) < n → zB (zu m 74 12 0) → κ (some (zi 0)) (zu m 74 12 0))
    (k3 : ¬ n < 0 → ¬ (m 74 9) < n → zB (zu (zu m 74 12 0) 74 9 n) → κ (some (zi 1)) (zu (zu m 74 12 0) 74 9 n)) :
    T (D + 2) 196 (0, [(0, zr 74), (1, zi n)], [], m) κ := by
  have hb1 : 0 ≤ (m 74 9) ∧ (m 74 9) ≤ 80 := hB 74 9
  have he0 : wr n = n := wr_id (by omega) (by omega)
  have he1 : wr (m 74 9) = (m 74 9) := wr_id (by omega) (by omega)
  have key := @zb196_0r T hT D κ m n
  simp only [he0, he1, Int.toNat_natCast] at key
  exact key
    (fun x0 => k1 x0 (zB_u hB trivial))
    (fun x0 x1 => k2 x0 x1 (zB_u hB trivial))
    (fun x0 x1 => k3 x0 x1 (zB_u (zB_u hB trivial) (show 0 ≤ n ∧ n ≤ 80 from ⟨by omega, by omega⟩)))
theorem zb121_0r (hT : zRules T) {D : Nat} {κ : Option zA → zM → Prop} {m : zM} {w : Int} {v : Int} 
    (o1 : wr w < 0 → κ (some (zi (-1))) m)
    (o2 : ¬ wr w < 0 → ¬ wr w < 3 → κ (some (zi (-1))) m)
    (o3 : ¬ wr w < 0 → wr w < 3 → wr v < 0 → κ (some (zi (-1))) m)
    (o4 : ¬ wr w < 0 → wr w < 3 → ¬ wr v < 0 → ¬ 9 < wr v → (0 ≤ wr w ∧ wr w < 3))
    (o5 : ¬ wr w < 0 → wr w < 3 → ¬ wr v < 0 → ¬ 9 < wr v → (0 ≤ wr w ∧ wr w < 3))
    (o6 : ¬ wr w < 0 → wr w < 3 → ¬ wr v < 0 → ¬ 9 < wr v → κ (some (zi (wr (m 24 ((wr w).toNat))))) (zu m 24 ((wr w).toNat) v))
    (o7 : ¬ wr w < 0 → wr w < 3 → ¬ wr v < 0 → 9 < wr v → κ (some (zi (-1))) m) :
    T (D + 2) 121 (0, [(0, zr 1), (1, zi w), (2, zi v)], [], m) κ :=
  hT.1 [] 6 (D + 2) 121 _ κ (And.intro (fun a1 => (o1 a1)) (fun a2 => (And.intro (fun a3 => (hT.1 [] 6 (D + 2) 121 (20, [(0, zr 1), (1, zi w), (2, zi v)], [zi (-1)], m) _ (o2 a2 a3))) (fun a4 => (hT.1 [] 6 (D + 2) 121 (10, [(0, zr 1), (1, zi w), (2, zi v)], [zi v], m) _ (And.intro (fun a5 => (o3 a2 (Classical.byContradiction a4) a5)) (fun a6 => (And.intro (fun a7 => (hT.1 [] 6 (D + 2) 121 (25, [(0, zr 1), (1, zi w), (2, zi v)], [zr 17], m) _ (And.intro (o4 a2 (Classical.byContradiction a4) a6 a7) (hT.1 [] 6 (D + 2) 121 (35, [(0, zr 1), (1, zi w), (2, zi v), (3, zi (m 24 ((wr w).toNat)))], [zr 17], m) _ (And.intro (And.intro (o5 a2 (Classical.byContradiction a4) a6 a7) trivial) (o6 a2 (Classical.byContradiction a4) a6 a7)))))) (fun a8 => (o7 a2 (Classical.byContradiction a4) a6 (Classical.byContradiction a8)))))))))))
theorem zb121_0 (hT : zRules T) {D : Nat} {κ : Option zA → zM → Prop} {m : zM} {w : Int} {v : Int}  (hB : zB m) (h_w : (-2147483648) ≤ w ∧ w ≤ 2147483647) (h_v : (-2147483648) ≤ v ∧ v ≤ 2147483647) 
    (k1 : w < 0 → κ (some (zi (-1))) m)
    (k2 : ¬ w < 0 → ¬ w < 3 → κ (some (zi (-1))) m)
    (k3 : ¬ w < 0 → w < 3 → v < 0 → κ (some (zi (-1))) m)
    (k4 : ¬ w < 0 → w < 3 → ¬ v < 0 → ¬ 9 < v → zB (zu m 24 (w.toNat) v) → κ (some (zi (m 24 (w.toNat)))) (zu m 24 (w.toNat) v))
    (k5 : ¬ w < 0 → w < 3 → ¬ v < 0 → 9 < v → κ (some (zi (-1))) m) :
    T (D + 2) 121 (0, [(0, zr 1), (1, zi w), (2, zi v)], [], m) κ := by
  have hb2 : 0 ≤ (m 24 (w.toNat)) ∧ (m 24 (w.toNat)) ≤ 9 := hB 24 (w.toNat)
  have he0 : wr w = w := wr_id (by omega) (by omega)
  have he1 : wr v = v := wr_id (by omega) (by omega)
  have he2 : wr (m 24 (w.toNat)) = (m 24 (w.toNat)) := wr_id (by omega) (by omega)
  have key := @zb121_0r T hT D κ m w v
  simp only [he0, he1, he2, Int.toNat_natCast] at key
  exact key
    k1
    k2
    k3
    (fun x0 x1 x2 x3 => by refine ⟨?_, ?_⟩ <;> omega)
    (fun x0 x1 x2 x3 => by refine ⟨?_, ?_⟩ <;> omega)
    (fun x0 x1 x2 x3 => k4 x0 x1 x2 x3 (zB_u hB (show 0 ≤ v ∧ v ≤ 9 from ⟨by omega, by omega⟩)))
    k5
theorem zb222_0r (hT : zRules T) {D : Nat} {κ : Option zA → zM → Prop} {m : zM} {w : Int} {v : Int} 
    (o1 : wr w < 0 → κ (some (zi (-1))) (zu m 74 12 0))
    (o2 : ¬ wr w < 0 → 2 < wr w → κ (some (zi (-1))) (zu m 74 12 0))
    (o3 : ¬ wr w < 0 → ¬ 2 < wr w → wr v < 0 → κ (some (zi (-1))) (zu m 74 12 0))
    (o4 : ¬ wr w < 0 → ¬ 2 < wr w → ¬ wr v < 0 → 9 < wr v → κ (some (zi (-1))) (zu m 74 12 0))
    (o5 : ¬ wr w < 0 → ¬ 2 < wr w → ¬ wr v < 0 → ¬ 9 < wr v → (0 ≤ wr w ∧ wr w < 3))
    (o6 : ¬ wr w < 0 → ¬ 2 < wr w → ¬ wr v < 0 → ¬ 9 < wr v → (0 ≤ wr w ∧ wr w < 3))
    (o7 : ¬ wr w < 0 → ¬ 2 < wr w → ¬ wr v < 0 → ¬ 9 < wr v → κ (some (zi (wr (m 79 ((wr w).toNat))))) (zu (zu m 74 12 0) 79 ((wr w).toNat) v)) :
    T (D + 2) 222 (0, [(0, zr 74), (1, zi w), (2, zi v)], [], m) κ :=
  hT.1 [] 6 (D + 2) 222 _ κ (And.intro trivial (hT.1 [] 6 (D + 2) 222 (8, [(0, zr 74), (1, zi w), (2, zi v)], [zi 2, zi 0, zi w], (zu m 74 12 0)) _ (hT.1 [] 6 (D + 1) 186 _ _ (And.intro (fun a1 => (And.intro (z_b01L rfl) (hT.1 [] 6 (D + 2) 222 _ _ (And.intro (fun _ => (o1 a1)) (fun a3 => (a3 (z_litT rfl)).elim))))) (fun a2 => (And.intro (fun a4 => (hT.1 [] 6 (D + 1) 186 (14, [(0, zi w), (1, zi 0), (2, zi 2)], [], (zu m 74 12 0)) _ (And.intro (z_b01L rfl) (hT.1 [] 6 (D + 2) 222 _ _ (And.intro (fun _ => (o2 a2 a4)) (fun a6 => (a6 (z_litT rfl)).elim)))))) (fun a5 => (hT.1 [] 6 (D + 1) 186 (10, [(0, zi w), (1, zi 0), (2, zi 2)], [], (zu m 74 12 0)) _ (And.intro (z_b01L rfl) (hT.1 [] 6 (D + 2) 222 _ _ (And.intro (fun a7 => (z_litF a7 rfl).elim) (fun _ => (hT.1 [] 6 (D + 1) 186 _ _ (And.intro (fun a8 => (And.intro (z_b01L rfl) (hT.1 [] 6 (D + 2) 222 _ _ (And.intro (fun a10 => (z_litF a10 rfl).elim) (fun _ => (o3 a2 a5 a8)))))) (fun a9 => (And.intro (fun a11 => (hT.1 [] 6 (D + 1) 186 (14, [(0, zi v), (1, zi 0), (2, zi 9)], [], (zu m 74 12 0)) _ (And.intro (z_b01L rfl) (hT.1 [] 6 (D + 2) 222 _ _ (And.intro (fun a13 => (z_litF a13 rfl).elim) (fun _ => (o4 a2 a5 a9 a11))))))) (fun a12 => (hT.1 [] 6 (D + 1) 186 (10, [(0, zi v), (1, zi 0), (2, zi 9)], [], (zu m 74 12 0)) _ (And.intro (z_b01L rfl) (hT.1 [] 6 (D + 2) 222 _ _ (And.intro (fun _ => (And.intro (o5 a2 a5 a9 a12) (hT.1 [] 6 (D + 2) 222 (33, [(0, zr 74), (1, zi w), (2, zi v), (3, zi (m 79 ((wr w).toNat)))], [], (zu m 74 12 0)) _ (And.intro (And.intro (o6 a2 a5 a9 a12) trivial) (hT.1 [] 6 (D + 2) 222 (41, [(0, zr 74), (1, zi w), (2, zi v), (3, zi (m 79 ((wr w).toNat)))], [zi (m 79 ((wr w).toNat))], (zu (zu m 74 12 0) 79 ((wr w).toNat) v)) _ (o7 a2 a5 a9 a12)))))) (fun a14 => (a14 (z_litT rfl)).elim))))))))))))))))))))))
theorem zb222_0 (hT : zRules T) {D : Nat} {κ : Option zA → zM → Prop} {m : zM} {w : Int} {v : Int}  (hB : zB m) (h_w : (-2147483648) ≤ w ∧ w ≤ 2147483647) (h_v : (-2147483648) ≤ v ∧ v ≤ 2147483647) 
    (k1 : w < 0 → zB (zu m 74 12 0) → κ (some (zi (-1))) (zu m 74 12 0))
    (k2 : ¬ w < 0 → 2 < w → zB (zu m 74 12 0) → κ (some (zi (-1))) (zu m 74 12 0))
    (k3 : ¬ w < 0 → ¬ 2 < w → v < 0 → zB (zu m 74 12 0) → κ (some (zi (-1))) (zu m 74 12 0))
    (k4 : ¬ w < 0 → ¬ 2 < w → ¬ v < 0 → 9 < v → zB (zu m 74 12 0) → κ (some (zi (-1))) (zu m 74 12 0))
    (k5 : ¬ w < 0 → ¬ 2 < w → ¬ v < 0 → ¬ 9 < v → zB (zu (zu m 74 12 0) 79 (w.toNat) v) → κ (some (zi (m 79 (w.toNat)))) (zu (zu m 74 12 0) 79 (w.toNat) v)) :
    T (D + 2) 222 (0, [(0, zr 74), (1, zi w), (2, zi v)], [], m) κ := by
  have hb2 : 0 ≤ (m 79 (w.toNat)) ∧ (m 79 (w.toNat)) ≤ 9 := hB 79 (w.toNat)
  have he0 : wr w = w := wr_id (by omega) (by omega)
  have he1 : wr v = v := wr_id (by omega) (by omega)
  have he2 : wr (m 79 (w.toNat)) = (m 79 (w.toNat)) := wr_id (by omega) (by omega)
  have key := @zb222_0r T hT D κ m w v
  simp only [he0, he1, he2, Int.toNat_natCast] at key
  exact key
    (fun x0 => k1 x0 (zB_u hB trivial))
    (fun x0 x1 => k2 x0 x1 (zB_u hB trivial))
    (fun x0 x1 x2 => k3 x0 x1 x2 (zB_u hB trivial))
    (fun x0 x1 x2 x3 => k4 x0 x1 x2 x3 (zB_u hB trivial))
    (fun x0 x1 x2 x3 => by refine ⟨?_, ?_⟩ <;> omega)
    (fun x0 x1 x2 x3 => by refine ⟨?_, ?_⟩ <;> omega)
    (fun x0 x1 x2 x3 => k5 x0 x1 x2 x3 (zB_u (zB_u hB trivial) (show 0 ≤ v ∧ v ≤ 9 from ⟨by omega, by omega⟩)))
theorem zb148_0r (hT : zRules T) {D : Nat} {κ : Option zA → zM → Prop} {m : zM} {p : Int} {q : Int} {w : Int} {v : Int} 
    (o1 : wr p < 0 → κ (some (zi (-1))) m)
    (o2 : ¬ wr p < 0 → ¬ wr p < wr (m 17 0) → κ (some (zi (-1))) m)
    (o3 : ¬ wr p < 0 → wr p < wr (m 17 0) → wr q < 0 → κ (some (zi (-1))) m)
    (o4 : ¬ wr p < 0 → wr p < wr (m 17 0) → ¬ wr q < 0 → ¬ wr q < 4 → κ (some (zi (-1))) m)
    (o5 : ¬ wr p < 0 → wr p < wr (m 17 0) → ¬ wr q < 0 → wr q < 4 → wr w < 0 → κ (some (zi (-1))) m)
    (o6 : ¬ wr p < 0 → wr p < wr (m 17 0) → ¬ wr q < 0 → wr q < 4 → ¬ wr w < 0 → 9999 < wr w → κ (some (zi (-1))) m)
    (o7 : ¬ wr p < 0 → wr p < wr (m 17 0) → ¬ wr q < 0 → wr q < 4 → ¬ wr w < 0 → ¬ 9999 < wr w → wr v < 0 → κ (some (zi (-1))) m)
    (o8 : ¬ wr p < 0 → wr p < wr (m 17 0) → ¬ wr q < 0 → wr q < 4 → ¬ wr w < 0 → ¬ 9999 < wr w → ¬ wr v < 0 → 99 < wr v → κ (some (zi (-1))) m)
    (o9 : ¬ wr p < 0 → wr p < wr (m 17 0) → ¬ wr q < 0 → wr q < 4 → ¬ wr w < 0 → ¬ 9999 < wr w → ¬ wr v < 0 → ¬ 99 < wr v → wr (m 59 4) < 12 → (0 ≤ wr (m 59 4) ∧ wr (m 59 4) < 12))
    (o10 : ¬ wr p < 0 → wr p < wr (m 17 0) → ¬ wr q < 0 → wr q < 4 → ¬ wr w < 0 → ¬ 9999 < wr w → ¬ wr v < 0 → ¬ 99 < wr v → wr (m 59 4) < 12 → (0 ≤ wr (m 59 4) ∧ wr (m 59 4) < 12))
    (o11 : ¬ wr p < 0 → wr p < wr (m 17 0) → ¬ wr q < 0 → wr q < 4 → ¬ wr w < 0 → ¬ 9999 < wr w → ¬ wr v < 0 → ¬ 99 < wr v → wr (m 59 4) < 12 → (0 ≤ wr (m 59 4) ∧ wr (m 59 4) < 12))
    (o12 : ¬ wr p < 0 → wr p < wr (m 17 0) → ¬ wr q < 0 → wr q < 4 → ¬ wr w < 0 → ¬ 9999 < wr w → ¬ wr v < 0 → ¬ 99 < wr v → wr (m 59 4) < 12 → (0 ≤ wr (m 59 4) ∧ wr (m 59 4) < 12))
    (o13 : ¬ wr p < 0 → wr p < wr (m 17 0) → ¬ wr q < 0 → wr q < 4 → ¬ wr w < 0 → ¬ 9999 < wr w → ¬ wr v < 0 → ¬ 99 < wr v → wr (m 59 4) < 12 → κ (some (zi (wr (wr ((m 59 4) + 1))))) (zu (zu (zu (zu (zu m 60 ((wr (m 59 4)).toNat) p) 61 ((wr (m 59 4)).toNat) q) 62 ((wr (m 59 4)).toNat) w) 63 ((wr (m 59 4)).toNat) v) 59 4 ((m 59 4) + 1)))
    (o14 : ¬ wr p < 0 → wr p < wr (m 17 0) → ¬ wr q < 0 → wr q < 4 → ¬ wr w < 0 → ¬ 9999 < wr w → ¬ wr v < 0 → ¬ 99 < wr v → ¬ wr (m 59 4) < 12 → κ (some (zi (-1))) m) :
    T (D + 2) 148 (0, [(0, zr 1), (1, zi p), (2, zi q), (3, zi w), (4, zi v)], [], m) κ :=
  hT.1 [] 6 (D + 2) 148 _ κ (hT.1 [] 6 (D + 1) 25 _ _ (And.intro (fun a1 => (And.intro (z_b01L rfl) (hT.1 [] 6 (D + 2) 148 _ _ (And.intro (fun _ => (o1 a1)) (fun a3 => (a3 (z_litT rfl)).elim))))) (fun a2 => (And.intro (fun a4 => (hT.1 [] 6 (D + 1) 25 (16, [(0, zr 17), (1, zi p)], [], m) _ (And.intro (z_b01L rfl) (hT.1 [] 6 (D + 2) 148 _ _ (And.intro (fun _ => (o2 a2 a4)) (fun a6 => (a6 (z_litT rfl)).elim)))))) (fun a5 => (hT.1 [] 6 (D + 1) 25 (12, [(0, zr 17), (1, zi p)], [], m) _ (And.intro (z_b01L rfl) (hT.1 [] 6 (D + 2) 148 _ _ (And.intro (fun a7 => (z_litF a7 rfl).elim) (fun _ => (hT.1 [] 6 (D + 1) 163 _ _ (And.intro (fun a8 => (And.intro (z_b01L rfl) (hT.1 [] 6 (D + 2) 148 _ _ (And.intro (fun _ => (o3 a2 (Classical.byContradiction a5) a8)) (fun a10 => (a10 (z_litT rfl)).elim))))) (fun a9 => (And.intro (fun a11 => (hT.1 [] 6 (D + 1) 163 (14, [(0, zi q)], [zi 0], m) _ (And.intro (z_b01L rfl) (hT.1 [] 6 (D + 2) 148 _ _ (And.intro (fun _ => (o4 a2 (Classical.byContradiction a5) a9 a11)) (fun a13 => (a13 (z_litT rfl)).elim)))))) (fun a12 => (hT.1 [] 6 (D + 1) 163 (10, [(0, zi q)], [zi 1], m) _ (And.intro (z_b01L rfl) (hT.1 [] 6 (D + 2) 148 _ _ (And.intro (fun a14 => (z_litF a14 rfl).elim) (fun _ => (hT.1 [] 6 (D + 1) 164 _ _ (And.intro (fun a15 => (And.intro (z_b01L rfl) (hT.1 [] 6 (D + 2) 148 _ _ (And.intro (fun _ => (o5 a2 (Classical.byContradiction a5) a9 (Classical.byContradiction a12) a15)) (fun a17 => (a17 (z_litT rfl)).elim))))) (fun a16 => (And.intro (fun a18 => (hT.1 [] 6 (D + 1) 164 (16, [(0, zi w)], [zi 0], m) _ (And.intro (z_b01L rfl) (hT.1 [] 6 (D + 2) 148 _ _ (And.intro (fun _ => (o6 a2 (Classical.byContradiction a5) a9 (Classical.byContradiction a12) a16 a18)) (fun a20 => (a20 (z_litT rfl)).elim)))))) (fun a19 => (hT.1 [] 6 (D + 1) 164 (12, [(0, zi w)], [zi 1], m) _ (And.intro (z_b01L rfl) (hT.1 [] 6 (D + 2) 148 _ _ (And.intro (fun a21 => (z_litF a21 rfl).elim) (fun _ => (hT.1 [] 6 (D + 1) 165 _ _ (And.intro (fun a22 => (And.intro (z_b01L rfl) (hT.1 [] 6 (D + 2) 148 _ _ (And.intro (fun a24 => (z_litF a24 rfl).elim) (fun _ => (o7 a2 (Classical.byContradiction a5) a9 (Classical.byContradiction a12) a16 a19 a22)))))) (fun a23 => (And.intro (fun a25 => (hT.1 [] 6 (D + 1) 165 (15, [(0, zi v)], [zi 0], m) _ (And.intro (z_b01L rfl) (hT.1 [] 6 (D + 2) 148 _ _ (And.intro (fun a27 => (z_litF a27 rfl).elim) (fun _ => (o8 a2 (Classical.byContradiction a5) a9 (Classical.byContradiction a12) a16 a19 a23 a25))))))) (fun a26 => (hT.1 [] 6 (D + 1) 165 (11, [(0, zi v)], [zi 1], m) _ (And.intro (z_b01L rfl) (hT.1 [] 6 (D + 2) 148 _ _ (And.intro (fun _ => (hT.1 [] 6 (D + 2) 148 (42, [(0, zr 1), (1, zi p), (2, zi q), (3, zi w), (4, zi v)], [zi w, zi q, zi p, zr 59], m) _ (hT.1 [] 6 (D + 1) 61 _ _ (And.intro (fun a29 => (hT.1 [] 6 (D + 1) 61 (15, [(0, zr 59), (1, zi p), (2, zi q), (3, zi w), (4, zi v)], [zr 60], m) _ (And.intro (And.intro (o9 a2 (Classical.byContradiction a5) a9 (Classical.byContradiction a12) a16 a19 a23 a26 a29) trivial) (hT.1 [] 6 (D + 1) 61 (25, [(0, zr 59), (1, zi p), (2, zi q), (3, zi w), (4, zi v)], [zr 61], (zu m 60 ((wr (m 59 4)).toNat) p)) _ (And.intro (And.intro (o10 a2 (Classical.byContradiction a5) a9 (Classical.byContradiction a12) a16 a19 a23 a26 a29) trivial) (hT.1 [] 6 (D + 1) 61 (35, [(0, zr 59), (1, zi p), (2, zi q), (3, zi w), (4, zi v)], [zr 62], (zu (zu m 60 ((wr (m 59 4)).toNat) p) 61 ((wr (m 59 4)).toNat) q)) _ (And.intro (And.intro (o11 a2 (Classical.byContradiction a5) a9 (Classical.byContradiction a12) a16 a19 a23 a26 a29) trivial) (hT.1 [] 6 (D + 1) 61 (45, [(0, zr 59), (1, zi p), (2, zi q), (3, zi w), (4, zi v)], [zr 63], (zu (zu (zu m 60 ((wr (m 59 4)).toNat) p) 61 ((wr (m 59 4)).toNat) q) 62 ((wr (m 59 4)).toNat) w)) _ (And.intro (And.intro (o12 a2 (Classical.byContradiction a5) a9 (Classical.byContradiction a12) a16 a19 a23 a26 a29) trivial) (hT.1 [] 6 (D + 1) 61 (54, [(0, zr 59), (1, zi p), (2, zi q), (3, zi w), (4, zi v)], [zr 59, zr 59], (zu (zu (zu (zu m 60 ((wr (m 59 4)).toNat) p) 61 ((wr (m 59 4)).toNat) q) 62 ((wr (m 59 4)).toNat) w) 63 ((wr (m 59 4)).toNat) v)) _ (And.intro trivial (hT.1 [] 6 (D + 1) 61 (66, [(0, zr 59), (1, zi p), (2, zi q), (3, zi w), (4, zi v)], [zi ((m 59 4) + 1)], (zu (zu (zu (zu (zu m 60 ((wr (m 59 4)).toNat) p) 61 ((wr (m 59 4)).toNat) q) 62 ((wr (m 59 4)).toNat) w) 63 ((wr (m 59 4)).toNat) v) 59 4 ((m 59 4) + 1))) _ (hT.1 [] 6 (D + 2) 148 _ _ (o13 a2 (Classical.byContradiction a5) a9 (Classical.byContradiction a12) a16 a19 a23 a26 a29)))))))))))))) (fun a30 => (hT.1 [] 6 (D + 2) 148 _ _ (o14 a2 (Classical.byContradiction a5) a9 (Classical.byContradiction a12) a16 a19 a23 a26 a30))))))) (fun a28 => (a28 (z_litT rfl)).elim))))))))))))))))))))))))))))))))))))))))
theorem zb148_0 (hT : zRules T) {D : Nat} {κ : Option zA → zM → Prop} {m : zM} {p : Int} {q : Int} {w : Int} {v : Int}  (hB : zB m) (h_p : (-2147483648) ≤ p ∧ p ≤ 2147483647) (h_q : (-2147483648) ≤ q ∧ q ≤ 2147483647) (h_w : (-2147483648) ≤ w ∧ w ≤ 2147483647) (h_v : (-2147483648) ≤ v ∧ v ≤ 2147483647) 
    (k1 : p < 0 → κ (some (zi (-1))) m)
    (k2 : ¬ p < 0 → ¬ p < (m 17 0) → κ (some (zi (-1))) m)
    (k3 : ¬ p < 0 → p < (m 17 0) → q < 0 → κ (some (zi (-1))) m)
    (k4 : ¬ p < 0 → p < (m 17 0) → ¬ q < 0 → ¬ q < 4 → κ (some (zi (-1))) m)
    (k5 : ¬ p < 0 → p < (m 17 0) → ¬ q < 0 → q < 4 → w < 0 → κ (some (zi (-1))) m)
    (k6 : ¬ p < 0 → p < (m 17 0) → ¬ q < 0 → q < 4 → ¬ w < 0 → 9999 < w → κ (some (zi (-1))) m)
    (k7 : ¬ p < 0 → p < (m 17 0) → ¬ q < 0 → q < 4 → ¬ w < 0 → ¬ 9999 < w → v < 0 → κ (some (zi (-1))) m)
    (k8 : ¬ p < 0 → p < (m 17 0) → ¬ q < 0 → q < 4 → ¬ w < 0 → ¬ 9999 < w → ¬ v < 0 → 99 < v → κ (some (zi (-1))) m)
    (k9 : ¬ p < 0 → p < (m 17 0) → ¬ q < 0 → q < 4 → ¬ w < 0 → ¬ 9999 < w → ¬ v < 0 → ¬ 99 < v → (m 59 4) < 12 → zB (zu (zu (zu (zu (zu m 60 ((m 59 4).toNat) p) 61 ((m 59 4).toNat) q) 62 ((m 59 4).toNat) w) 63 ((m 59 4).toNat) v) 59 4 ((m 59 4) + 1)) → κ (some (zi ((m 59 4) + 1))) (zu (zu (zu (zu (zu m 60 ((m 59 4).toNat) p) 61 ((m 59 4).toNat) q) 62 ((m 59 4).toNat) w) 63 ((m 59 4).toNat) v) 59 4 ((m 59 4) + 1)))
    (k10 : ¬ p < 0 → p < (m 17 0) → ¬ q < 0 → q < 4 → ¬ w < 0 → ¬ 9999 < w → ¬ v < 0 → ¬ 99 < v → ¬ (m 59 4) < 12 → κ (some (zi (-1))) m) :
    T (D + 2) 148 (0, [(0, zr 1), (1, zi p), (2, zi q), (3, zi w), (4, zi v)], [], m) κ := by
  have hb4 : 0 ≤ (m 17 0) ∧ (m 17 0) ≤ 6 := hB 17 0
  have hb5 : 0 ≤ (m 59 4) ∧ (m 59 4) ≤ 12 := hB 59 4
  have he0 : wr p = p := wr_id (by omega) (by omega)
  have he1 : wr (m 17 0) = (m 17 0) := wr_id (by omega) (by omega)
  have he2 : wr q = q := wr_id (by omega) (by omega)
  have he3 : wr w = w := wr_id (by omega) (by omega)
  have he4 : wr v = v := wr_id (by omega) (by omega)
  have he5 : wr (m 59 4) = (m 59 4) := wr_id (by omega) (by omega)
  have he6 : wr ((m 59 4) + 1) = ((m 59 4) + 1) := wr_id (by omega) (by omega)
  have key := @zb148_0r T hT D κ m p q w v
  simp only [he0, he1, he2, he3, he4, he5, he6, Int.toNat_natCast] at key
  exact key
    k1
    k2
    k3
    k4
    k5
    k6
    k7
    k8
    (fun x0 x1 x2 x3 x4 x5 x6 x7 x8 => by refine ⟨?_, ?_⟩ <;> omega)
    (fun x0 x1 x2 x3 x4 x5 x6 x7 x8 => by refine ⟨?_, ?_⟩ <;> omega)
    (fun x0 x1 x2 x3 x4 x5 x6 x7 x8 => by refine ⟨?_, ?_⟩ <;> omega)
    (fun x0 x1 x2 x3 x4 x5 x6 x7 x8 => by refine ⟨?_, ?_⟩ <;> omega)
    (fun x0 x1 x2 x3 x4 x5 x6 x7 x8 => k9 x0 x1 x2 x3 x4 x5 x6 x7 x8 (zB_u (zB_u (zB_u (zB_u (zB_u hB (show 0 ≤ p ∧ p ≤ 5 from ⟨by omega, by omega⟩)) (show 0 ≤ q ∧ q ≤ 3 from ⟨by omega, by omega⟩)) (show 0 ≤ w ∧ w ≤ 9999 from ⟨by omega, by omega⟩)) (show 0 ≤ v ∧ v ≤ 99 from ⟨by omega, by omega⟩)) (show 0 ≤ ((m 59 4) + 1) ∧ ((m 59 4) + 1) ≤ 12 from ⟨by omega, by omega⟩)))
    k10
theorem zb273_0r (hT : zRules T) {D : Nat} {κ : Option zA → zM → Prop} {m : zM} {p : Int} {q : Int} {w : Int} {v : Int} 
    (o1 : wr p < 0 → κ (some (zi (-1))) (zu m 74 12 0))
    (o2 : ¬ wr p < 0 → wr ((m 74 4) - 1) < wr p → κ (some (zi (-1))) (zu m 74 12 0))
    (o3 : ¬ wr p < 0 → ¬ wr ((m 74 4) - 1) < wr p → wr q < 0 → κ (some (zi (-1))) (zu m 74 12 0))
    (o4 : ¬ wr p < 0 → ¬ wr ((m 74 4) - 1) < wr p → ¬ wr q < 0 → 3 < wr q → κ (some (zi (-1))) (zu m 74 12 0))
    (o5 : ¬ wr p < 0 → ¬ wr ((m 74 4) - 1) < wr p → ¬ wr q < 0 → ¬ 3 < wr q → wr w < 0 → κ (some (zi (-1))) (zu m 74 12 0))
    (o6 : ¬ wr p < 0 → ¬ wr ((m 74 4) - 1) < wr p → ¬ wr q < 0 → ¬ 3 < wr q → ¬ wr w < 0 → 9999 < wr w → κ (some (zi (-1))) (zu m 74 12 0))
    (o7 : ¬ wr p < 0 → ¬ wr ((m 74 4) - 1) < wr p → ¬ wr q < 0 → ¬ 3 < wr q → ¬ wr w < 0 → ¬ 9999 < wr w → wr v < 0 → κ (some (zi (-1))) (zu m 74 12 0))
    (o8 : ¬ wr p < 0 → ¬ wr ((m 74 4) - 1) < wr p → ¬ wr q < 0 → ¬ 3 < wr q → ¬ wr w < 0 → ¬ 9999 < wr w → ¬ wr v < 0 → 99 < wr v → κ (some (zi (-1))) (zu m 74 12 0))
    (o9 : ¬ wr p < 0 → ¬ wr ((m 74 4) - 1) < wr p → ¬ wr q < 0 → ¬ 3 < wr q → ¬ wr w < 0 → ¬ 9999 < wr w → ¬ wr v < 0 → ¬ 99 < wr v → ¬ wr (m 74 52) = 12 → (0 ≤ wr (4 * (m 74 52)) ∧ wr (4 * (m 74 52)) < 48))
    (o10 : ¬ wr p < 0 → ¬ wr ((m 74 4) - 1) < wr p → ¬ wr q < 0 → ¬ 3 < wr q → ¬ wr w < 0 → ¬ 9999 < wr w → ¬ wr v < 0 → ¬ 99 < wr v → ¬ wr (m 74 52) = 12 → (0 ≤ wr ((4 * (m 74 52)) + 1) ∧ wr ((4 * (m 74 52)) + 1) < 48))
    (o11 : ¬ wr p < 0 → ¬ wr ((m 74 4) - 1) < wr p → ¬ wr q < 0 → ¬ 3 < wr q → ¬ wr w < 0 → ¬ 9999 < wr w → ¬ wr v < 0 → ¬ 99 < wr v → ¬ wr (m 74 52) = 12 → (0 ≤ wr ((4 * (m 74 52)) + 2) ∧ wr ((4 * (m 74 52)) + 2) < 48))
    (o12 : ¬ wr p < 0 → ¬ wr ((m 74 4) - 1) < wr p → ¬ wr q < 0 → ¬ 3 < wr q → ¬ wr w < 0 → ¬ 9999 < wr w → ¬ wr v < 0 → ¬ 99 < wr v → ¬ wr (m 74 52) = 12 → (0 ≤ wr ((4 * (m 74 52)) + 3) ∧ wr ((4 * (m 74 52)) + 3) < 48))
    (o13 : ¬ wr p < 0 → ¬ wr ((m 74 4) - 1) < wr p → ¬ wr q < 0 → ¬ 3 < wr q → ¬ wr w < 0 → ¬ 9999 < wr w → ¬ wr v < 0 → ¬ 99 < wr v → ¬ wr (m 74 52) = 12 → κ (some (zi (wr ((m 74 52) + 1)))) (zu (zu (zu (zu (zu (zu m 74 12 0) 99 ((wr (4 * (m 74 52))).toNat) p) 99 ((wr ((4 * (m 74 52)) + 1)).toNat) q) 99 ((wr ((4 * (m 74 52)) + 2)).toNat) w) 99 ((wr ((4 * (m 74 52)) + 3)).toNat) v) 74 52 ((m 74 52) + 1)))
    (o14 : ¬ wr p < 0 → ¬ wr ((m 74 4) - 1) < wr p → ¬ wr q < 0 → ¬ 3 < wr q → ¬ wr w < 0 → ¬ 9999 < wr w → ¬ wr v < 0 → ¬ 99 < wr v → wr (m 74 52) = 12 → κ (some (zi (-1))) (zu m 74 12 0)) :
    T (D + 2) 273 (0, [(0, zr 74), (1, zi p), (2, zi q), (3, zi w), (4, zi v)], [], m) κ :=
  hT.1 [] 6 (D + 2) 273 _ κ (And.intro trivial (hT.1 [] 6 (D + 1) 190 _ _ (hT.1 [] 6 (D + 1) 190 (8, [(0, zr 74), (1, zi p)], [zi ((m 74 4) - 1), zi 0, zi p], (zu m 74 12 0)) _ (hT.1 [] 6 D 186 _ _ (And.intro (fun a1 => (And.intro (z_b01L rfl) (hT.1 [] 6 (D + 1) 190 _ _ (And.intro (z_b01L rfl) (hT.1 [] 6 (D + 2) 273 _ _ (And.intro (fun _ => (o1 a1)) (fun a3 => (a3 (z_litT rfl)).elim))))))) (fun a2 => (And.intro (fun a4 => (hT.1 [] 6 D 186 (14, [(0, zi p), (1, zi 0), (2, zi ((m 74 4) - 1))], [], (zu m 74 12 0)) _ (And.intro (z_b01L rfl) (hT.1 [] 6 (D + 1) 190 _ _ (And.intro (z_b01L rfl) (hT.1 [] 6 (D + 2) 273 _ _ (And.intro (fun _ => (o2 a2 a4)) (fun a6 => (a6 (z_litT rfl)).elim)))))))) (fun a5 => (hT.1 [] 6 D 186 (10, [(0, zi p), (1, zi 0), (2, zi ((m 74 4) - 1))], [], (zu m 74 12 0)) _ (And.intro (z_b01L rfl) (hT.1 [] 6 (D + 1) 190 _ _ (And.intro (z_b01L rfl) (hT.1 [] 6 (D + 2) 273 _ _ (And.intro (fun a7 => (z_litF a7 rfl).elim) (fun _ => (hT.1 [] 6 (D + 1) 192 _ _ (hT.1 [] 6 D 186 _ _ (And.intro (fun a8 => (And.intro (z_b01L rfl) (hT.1 [] 6 (D + 1) 192 _ _ (And.intro (z_b01L rfl) (hT.1 [] 6 (D + 2) 273 _ _ (And.intro (fun _ => (o3 a2 a5 a8)) (fun a10 => (a10 (z_litT rfl)).elim))))))) (fun a9 => (And.intro (fun a11 => (hT.1 [] 6 D 186 (14, [(0, zi q), (1, zi 0), (2, zi 3)], [], (zu m 74 12 0)) _ (And.intro (z_b01L rfl) (hT.1 [] 6 (D + 1) 192 _ _ (And.intro (z_b01L rfl) (hT.1 [] 6 (D + 2) 273 _ _ (And.intro (fun _ => (o4 a2 a5 a9 a11)) (fun a13 => (a13 (z_litT rfl)).elim)))))))) (fun a12 => (hT.1 [] 6 D 186 (10, [(0, zi q), (1, zi 0), (2, zi 3)], [], (zu m 74 12 0)) _ (And.intro (z_b01L rfl) (hT.1 [] 6 (D + 1) 192 _ _ (And.intro (z_b01L rfl) (hT.1 [] 6 (D + 2) 273 _ _ (And.intro (fun a14 => (z_litF a14 rfl).elim) (fun _ => (hT.1 [] 6 (D + 1) 193 _ _ (hT.1 [] 6 D 186 _ _ (And.intro (fun a15 => (And.intro (z_b01L rfl) (hT.1 [] 6 (D + 1) 193 _ _ (And.intro (z_b01L rfl) (hT.1 [] 6 (D + 2) 273 _ _ (And.intro (fun _ => (o5 a2 a5 a9 a12 a15)) (fun a17 => (a17 (z_litT rfl)).elim))))))) (fun a16 => (And.intro (fun a18 => (hT.1 [] 6 D 186 (14, [(0, zi w), (1, zi 0), (2, zi 9999)], [], (zu m 74 12 0)) _ (And.intro (z_b01L rfl) (hT.1 [] 6 (D + 1) 193 _ _ (And.intro (z_b01L rfl) (hT.1 [] 6 (D + 2) 273 _ _ (And.intro (fun _ => (o6 a2 a5 a9 a12 a16 a18)) (fun a20 => (a20 (z_litT rfl)).elim)))))))) (fun a19 => (hT.1 [] 6 D 186 (10, [(0, zi w), (1, zi 0), (2, zi 9999)], [], (zu m 74 12 0)) _ (And.intro (z_b01L rfl) (hT.1 [] 6 (D + 1) 193 _ _ (And.intro (z_b01L rfl) (hT.1 [] 6 (D + 2) 273 _ _ (And.intro (fun a21 => (z_litF a21 rfl).elim) (fun _ => (hT.1 [] 6 (D + 1) 186 _ _ (And.intro (fun a22 => (And.intro (z_b01L rfl) (hT.1 [] 6 (D + 2) 273 _ _ (And.intro (fun _ => (o7 a2 a5 a9 a12 a16 a19 a22)) (fun a24 => (a24 (z_litT rfl)).elim))))) (fun a23 => (And.intro (fun a25 => (hT.1 [] 6 (D + 1) 186 (14, [(0, zi v), (1, zi 0), (2, zi 99)], [], (zu m 74 12 0)) _ (And.intro (z_b01L rfl) (hT.1 [] 6 (D + 2) 273 _ _ (And.intro (fun _ => (o8 a2 a5 a9 a12 a16 a19 a23 a25)) (fun a27 => (a27 (z_litT rfl)).elim)))))) (fun a26 => (hT.1 [] 6 (D + 1) 186 (10, [(0, zi v), (1, zi 0), (2, zi 99)], [], (zu m 74 12 0)) _ (And.intro (z_b01L rfl) (hT.1 [] 6 (D + 2) 273 _ _ (And.intro (fun a28 => (z_litF a28 rfl).elim) (fun _ => (And.intro (fun a29 => (hT.1 [] 6 (D + 2) 273 (50, [(0, zr 74), (1, zi p), (2, zi q), (3, zi w), (4, zi v)], [zr 74], (zu m 74 12 0)) _ (hT.1 [] 6 (D + 2) 273 (60, [(0, zr 74), (1, zi p), (2, zi q), (3, zi w), (4, zi v)], [zi p, zi (4 * (m 74 52)), zr 99], (zu m 74 12 0)) _ (And.intro (And.intro (o9 a2 a5 a9 a12 a16 a19 a23 a26 a29) trivial) (hT.1 [] 6 (D + 2) 273 (70, [(0, zr 74), (1, zi p), (2, zi q), (3, zi w), (4, zi v)], [zi (m 74 52), zi 4, zr 99], (zu (zu m 74 12 0) 99 ((wr (4 * (m 74 52))).toNat) p)) _ (And.intro (And.intro (o10 a2 a5 a9 a12 a16 a19 a23 a26 a29) trivial) (hT.1 [] 6 (D + 2) 273 (76, [(0, zr 74), (1, zi p), (2, zi q), (3, zi w), (4, zi v)], [zr 74], (zu (zu (zu m 74 12 0) 99 ((wr (4 * (m 74 52))).toNat) p) 99 ((wr ((4 * (m 74 52)) + 1)).toNat) q)) _ (hT.1 [] 6 (D + 2) 273 (86, [(0, zr 74), (1, zi p), (2, zi q), (3, zi w), (4, zi v)], [zi 2, zi (4 * (m 74 52)), zr 99], (zu (zu (zu m 74 12 0) 99 ((wr (4 * (m 74 52))).toNat) p) 99 ((wr ((4 * (m 74 52)) + 1)).toNat) q)) _ (And.intro (And.intro (o11 a2 a5 a9 a12 a16 a19 a23 a26 a29) trivial) (hT.1 [] 6 (D + 2) 273 (94, [(0, zr 74), (1, zi p), (2, zi q), (3, zi w), (4, zi v)], [zi 4, zr 99], (zu (zu (zu (zu m 74 12 0) 99 ((wr (4 * (m 74 52))).toNat) p) 99 ((wr ((4 * (m 74 52)) + 1)).toNat) q) 99 ((wr ((4 * (m 74 52)) + 2)).toNat) w)) _ (hT.1 [] 6 (D + 2) 273 (103, [(0, zr 74), (1, zi p), (2, zi q), (3, zi w), (4, zi v)], [zi v, zi ((4 * (m 74 52)) + 3), zr 99], (zu (zu (zu (zu m 74 12 0) 99 ((wr (4 * (m 74 52))).toNat) p) 99 ((wr ((4 * (m 74 52)) + 1)).toNat) q) 99 ((wr ((4 * (m 74 52)) + 2)).toNat) w)) _ (And.intro (And.intro (o12 a2 a5 a9 a12 a16 a19 a23 a26 a29) trivial) (hT.1 [] 6 (D + 2) 273 (111, [(0, zr 74), (1, zi p), (2, zi q), (3, zi w), (4, zi v)], [zi ((m 74 52) + 1), zr 74], (zu (zu (zu (zu (zu m 74 12 0) 99 ((wr (4 * (m 74 52))).toNat) p) 99 ((wr ((4 * (m 74 52)) + 1)).toNat) q) 99 ((wr ((4 * (m 74 52)) + 2)).toNat) w) 99 ((wr ((4 * (m 74 52)) + 3)).toNat) v)) _ (And.intro trivial (o13 a2 a5 a9 a12 a16 a19 a23 a26 a29))))))))))))))) (fun a30 => (hT.1 [] 6 (D + 2) 273 (48, [(0, zr 74), (1, zi p), (2, zi q), (3, zi w), (4, zi v)], [zi (-1)], (zu m 74 12 0)) _ (o14 a2 a5 a9 a12 a16 a19 a23 a26 (Classical.byContradiction a30))))))))))))))))))))))))))))))))))))))))))))))))))))))))
theorem zb273_0 (hT : zRules T) {D : Nat} {κ : Option zA → zM → Prop} {m : zM} {p : Int} {q : Int} {w : Int} {v : Int}  (hB : zB m) (h_p : (-2147483648) ≤ p ∧ p ≤ 2147483647) (h_q : (-2147483648) ≤ q ∧ q ≤ 2147483647) (h_w : (-2147483648) ≤ w ∧ w ≤ 2147483647) (h_v : (-2147483648) ≤ v ∧ v ≤ 2147483647) 
    (k1 : p < 0 → zB (zu m 74 12 0) → κ (some (zi (-1))) (zu m 74 12 0))
    (k2 : ¬ p < 0 → ((m 74 4) - 1) < p → zB (zu m 74 12 0) → κ (some (zi (-1))) (zu m 74 12 0))
    (k3 : ¬ p < 0 → ¬ ((m 74 4) - 1) < p → q < 0 → zB (zu m 74 12 0) → κ (some (zi (-1))) (zu m 74 12 0))
    (k4 : ¬ p < 0 → ¬ ((m 74 4) - 1) < p → ¬ q < 0 → 3 < q → zB (zu m 74 12 0) → κ (some (zi (-1))) (zu m 74 12 0))
    (k5 : ¬ p < 0 → ¬ ((m 74 4) - 1) < p → ¬ q < 0 → ¬ 3 < q → w < 0 → zB (zu m 74 12 0) → κ (some (zi (-1))) (zu m 74 12 0))
    (k6 : ¬ p < 0 → ¬ ((m 74 4) - 1) < p → ¬ q < 0 → ¬ 3 < q → ¬ w < 0 → 9999 < w → zB (zu m 74 12 0) → κ (some (zi (-1))) (zu m 74 12 0))
    (k7 : ¬ p < 0 → ¬ ((m 74 4) - 1) < p → ¬ q < 0 → ¬ 3 < q → ¬ w < 0 → ¬ 9999 < w → v < 0 → zB (zu m 74 12 0) → κ (some (zi (-1))) (zu m 74 12 0))
    (k8 : ¬ p < 0 → ¬ ((m 74 4) - 1) < p → ¬ q < 0 → ¬ 3 < q → ¬ w < 0 → ¬ 9999 < w → ¬ v < 0 → 99 < v → zB (zu m 74 12 0) → κ (some (zi (-1))) (zu m 74 12 0))
    (k9 : ¬ p < 0 → ¬ ((m 74 4) - 1) < p → ¬ q < 0 → ¬ 3 < q → ¬ w < 0 → ¬ 9999 < w → ¬ v < 0 → ¬ 99 < v → ¬ (m 74 52) = 12 → zB (zu (zu (zu (zu (zu (zu m 74 12 0) 99 ((4 * (m 74 52)).toNat) p) 99 (((4 * (m 74 52)) + 1).toNat) q) 99 (((4 * (m 74 52)) + 2).toNat) w) 99 (((4 * (m 74 52)) + 3).toNat) v) 74 52 ((m 74 52) + 1)) → κ (some (zi ((m 74 52) + 1))) (zu (zu (zu (zu (zu (zu m 74 12 0) 99 ((4 * (m 74 52)).toNat) p) 99 (((4 * (m 74 52)) + 1).toNat) q) 99 (((4 * (m 74 52)) + 2).toNat) w) 99 (((4 * (m 74 52)) + 3).toNat) v) 74 52 ((m 74 52) + 1)))
    (k10 : ¬ p < 0 → ¬ ((m 74 4) - 1) < p → ¬ q < 0 → ¬ 3 < q → ¬ w < 0 → ¬ 9999 < w → ¬ v < 0 → ¬ 99 < v → (m 74 52) = 12 → zB (zu m 74 12 0) → κ (some (zi (-1))) (zu m 74 12 0)) :
    T (D + 2) 273 (0, [(0, zr 74), (1, zi p), (2, zi q), (3, zi w), (4, zi v)], [], m) κ := by
  have hb4 : 0 ≤ (m 74 4) ∧ (m 74 4) ≤ 6 := hB 74 4
  have hb5 : 0 ≤ (m 74 52) ∧ (m 74 52) ≤ 12 := hB 74 52
  have he0 : wr p = p := wr_id (by omega) (by omega)
  have he1 : wr ((m 74 4) - 1) = ((m 74 4) - 1) := wr_id (by omega) (by omega)
  have he2 : wr q = q := wr_id (by omega) (by omega)
  have he3 : wr w = w := wr_id (by omega) (by omega)
  have he4 : wr v = v := wr_id (by omega) (by omega)
  have he5 : wr (m 74 52) = (m 74 52) := wr_id (by omega) (by omega)
  have he6 : wr (4 * (m 74 52)) = (4 * (m 74 52)) := wr_id (by omega) (by omega)
  have he7 : wr ((4 * (m 74 52)) + 1) = ((4 * (m 74 52)) + 1) := wr_id (by omega) (by omega)
  have he8 : wr ((4 * (m 74 52)) + 2) = ((4 * (m 74 52)) + 2) := wr_id (by omega) (by omega)
  have he9 : wr ((4 * (m 74 52)) + 3) = ((4 * (m 74 52)) + 3) := wr_id (by omega) (by omega)
  have he10 : wr ((m 74 52) + 1) = ((m 74 52) + 1) := wr_id (by omega) (by omega)
  have key := @zb273_0r T hT D κ m p q w v
  simp only [he0, he1, he2, he3, he4, he5, he6, he7, he8, he9, he10, Int.toNat_natCast] at key
  exact key
    (fun x0 => k1 x0 (zB_u hB trivial))
    (fun x0 x1 => k2 x0 x1 (zB_u hB trivial))
    (fun x0 x1 x2 => k3 x0 x1 x2 (zB_u hB trivial))
    (fun x0 x1 x2 x3 => k4 x0 x1 x2 x3 (zB_u hB trivial))
    (fun x0 x1 x2 x3 x4 => k5 x0 x1 x2 x3 x4 (zB_u hB trivial))
    (fun x0 x1 x2 x3 x4 x5 => k6 x0 x1 x2 x3 x4 x5 (zB_u hB trivial))
    (fun x0 x1 x2 x3 x4 x5 x6 => k7 x0 x1 x2 x3 x4 x5 x6 (zB_u hB trivial))
    (fun x0 x1 x2 x3 x4 x5 x6 x7 => k8 x0 x1 x2 x3 x4 x5 x6 x7 (zB_u hB trivial))
    (fun x0 x1 x2 x3 x4 x5 x6 x7 x8 => by refine ⟨?_, ?_⟩ <;> omega)
    (fun x0 x1 x2 x3 x4 x5 x6 x7 x8 => by refine ⟨?_, ?_⟩ <;> omega)
    (fun x0 x1 x2 x3 x4 x5 x6 x7 x8 => by refine ⟨?_, ?_⟩ <;> omega)
    (fun x0 x1 x2 x3 x4 x5 x6 x7 x8 => by refine ⟨?_, ?_⟩ <;> omega)
    (fun x0 x1 x2 x3 x4 x5 x6 x7 x8 => k9 x0 x1 x2 x3 x4 x5 x6 x7 x8 (zB_u (zB_u (zB_u (zB_u (zB_u (zB_u hB trivial) (show 0 ≤ p ∧ p ≤ 9999 from ⟨by omega, by omega⟩)) (show 0 ≤ q ∧ q ≤ 9999 from ⟨by omega, by omega⟩)) (show 0 ≤ w ∧ w ≤ 9999 from ⟨by omega, by omega⟩)) (show 0 ≤ v ∧ v ≤ 9999 from ⟨by omega, by omega⟩)) (show 0 ≤ ((m 74 52) + 1) ∧ ((m 74 52) + 1) ≤ 12 from ⟨by omega, by omega⟩)))
    (fun x0 x1 x2 x3 x4 x5 x6 x7 x8 => k10 x0 x1 x2 x3 x4 x5 x6 x7 x8 (zB_u hB trivial))
theorem zb149_0r (hT : zRules T) {D : Nat} {κ : Option zA → zM → Prop} {m : zM} 
    (o1 : κ (some (zi (wr (m 59 4)))) (zu m 59 4 0)) :
    T (D + 2) 149 (0, [(0, zr 1)], [], m) κ :=
  hT.1 [] 6 (D + 2) 149 _ κ (hT.1 [] 6 (D + 2) 149 (12, [(0, zr 1), (1, zi (m 59 4))], [zr 59], m) _ (And.intro trivial (o1)))
theorem zb149_0 (hT : zRules T) {D : Nat} {κ : Option zA → zM → Prop} {m : zM}  (hB : zB m) 
    (k1 : zB (zu m 59 4 0) → κ (some (zi (m 59 4))) (zu m 59 4 0)) :
    T (D + 2) 149 (0, [(0, zr 1)], [], m) κ := by
  have hb0 : 0 ≤ (m 59 4) ∧ (m 59 4) ≤ 12 := hB 59 4
  have he0 : wr (m 59 4) = (m 59 4) := wr_id (by omega) (by omega)
  have key := @zb149_0r T hT D κ m 
  simp only [he0, Int.toNat_natCast] at key
  exact key
    (k1  (zB_u hB (show 0 ≤ 0 ∧ 0 ≤ 12 from ⟨by omega, by omega⟩)))
theorem zb154_0r (hT : zRules T) {D : Nat} {κ : Option zA → zM → Prop} {m : zM} 
    (o1 : κ (some (zi (wr (m 64 2)))) (zu m 64 2 0)) :
    T (D + 2) 154 (0, [(0, zr 1)], [], m) κ :=
  hT.1 [] 6 (D + 2) 154 _ κ (hT.1 [] 6 (D + 2) 154 (12, [(0, zr 1), (1, zi (m 64 2))], [zr 64], m) _ (And.intro trivial (o1)))
theorem zb154_0 (hT : zRules T) {D : Nat} {κ : Option zA → zM → Prop} {m : zM}  (hB : zB m) 
    (k1 : zB (zu m 64 2 0) → κ (some (zi (m 64 2))) (zu m 64 2 0)) :
    T (D + 2) 154 (0, [(0, zr 1)], [], m) κ := by
  have hb0 : 0 ≤ (m 64 2) ∧ (m 64 2) ≤ 7 := hB 64 2
  have he0 : wr (m 64 2) = (m 64 2) := wr_id (by omega) (by omega)
  have key := @zb154_0r T hT D κ m 
  simp only [he0, Int.toNat_natCast] at key
  exact key
    (k1  (zB_u hB (show 0 ≤ 0 ∧ 0 ≤ 7 from ⟨by omega, by omega⟩)))
theorem zb274_0r (hT : zRules T) {D : Nat} {κ : Option zA → zM → Prop} {m : zM} 
    (o1 : κ (some (zi (wr (m 74 52)))) (zu (zu m 74 12 0) 74 52 0)) :
    T (D + 2) 274 (0, [(0, zr 74)], [], m) κ :=
  hT.1 [] 6 (D + 2) 274 _ κ (And.intro trivial (hT.1 [] 6 (D + 2) 274 (10, [(0, zr 74), (1, zi (m 74 52))], [], (zu m 74 12 0)) _ (And.intro trivial (o1))))
theorem zb274_0 (hT : zRules T) {D : Nat} {κ : Option zA → zM → Prop} {m : zM}  (hB : zB m) 
    (k1 : zB (zu (zu m 74 12 0) 74 52 0) → κ (some (zi (m 74 52))) (zu (zu m 74 12 0) 74 52 0)) :
    T (D + 2) 274 (0, [(0, zr 74)], [], m) κ := by
  have hb0 : 0 ≤ (m 74 52) ∧ (m 74 52) ≤ 12 := hB 74 52
  have he0 : wr (m 74 52) = (m 74 52) := wr_id (by omega) (by omega)
  have key := @zb274_0r T hT D κ m 
  simp only [he0, Int.toNat_natCast] at key
  exact key
    (k1  (zB_u (zB_u hB trivial) (show 0 ≤ 0 ∧ 0 ≤ 12 from ⟨by omega, by omega⟩)))
theorem zb279_0r (hT : zRules T) {D : Nat} {κ : Option zA → zM → Prop} {m : zM} 
    (o1 : κ (some (zi (wr (m 74 54)))) (zu (zu m 74 12 0) 74 54 0)) :
    T (D + 2) 279 (0, [(0, zr 74)], [], m) κ :=
  hT.1 [] 6 (D + 2) 279 _ κ (And.intro trivial (hT.1 [] 6 (D + 2) 279 (10, [(0, zr 74), (1, zi (m 74 54))], [], (zu m 74 12 0)) _ (And.intro trivial (o1))))
theorem zb279_0 (hT : zRules T) {D : Nat} {κ : Option zA → zM → Prop} {m : zM}  (hB : zB m) 
    (k1 : zB (zu (zu m 74 12 0) 74 54 0) → κ (some (zi (m 74 54))) (zu (zu m 74 12 0) 74 54 0)) :
    T (D + 2) 279 (0, [(0, zr 74)], [], m) κ := by
  have hb0 : 0 ≤ (m 74 54) ∧ (m 74 54) ≤ 7 := hB 74 54
  have he0 : wr (m 74 54) = (m 74 54) := wr_id (by omega) (by omega)
  have key := @zb279_0r T hT D κ m 
  simp only [he0, Int.toNat_natCast] at key
  exact key
    (k1  (zB_u (zB_u hB trivial) (show 0 ≤ 0 ∧ 0 ≤ 7 from ⟨by omega, by omega⟩)))
theorem zb153_0r (hT : zRules T) {D : Nat} {κ : Option zA → zM → Prop} {m : zM} {h : Int} {d : Int} 
    (o1 : wr h < 1 → κ (some (zi (-1))) m)
    (o2 : ¬ wr h < 1 → 20 < wr h → κ (some (zi (-1))) m)
    (o3 : ¬ wr h < 1 → ¬ 20 < wr h → wr d < 0 → κ (some (zi (-1))) m)
    (o4 : ¬ wr h < 1 → ¬ 20 < wr h → ¬ wr d < 0 → ¬ 99 < wr d → wr (m 64 2) < 7 → (0 ≤ wr (m 64 2) ∧ wr (m 64 2) < 7))
    (o5 : ¬ wr h < 1 → ¬ 20 < wr h → ¬ wr d < 0 → ¬ 99 < wr d → wr (m 64 2) < 7 → (0 ≤ wr (m 64 2) ∧ wr (m 64 2) < 7))
    (o6 : ¬ wr h < 1 → ¬ 20 < wr h → ¬ wr d < 0 → ¬ 99 < wr d → wr (m 64 2) < 7 → κ (some (zi (wr (wr ((m 64 2) + 1))))) (zu (zu (zu m 65 ((wr (m 64 2)).toNat) h) 66 ((wr (m 64 2)).toNat) d) 64 2 ((m 64 2) + 1)))
    (o7 : ¬ wr h < 1 → ¬ 20 < wr h → ¬ wr d < 0 → ¬ 99 < wr d → ¬ wr (m 64 2) < 7 → κ (some (zi (-2))) m)
    (o8 : ¬ wr h < 1 → ¬ 20 < wr h → ¬ wr d < 0 → 99 < wr d → κ (some (zi (-1))) m) :
    T (D + 2) 153 (0, [(0, zr 1), (1, zi h), (2, zi d)], [], m) κ :=
  hT.1 [] 6 (D + 2) 153 _ κ (hT.1 [] 6 (D + 1) 97 _ _ (And.intro (fun a1 => (hT.1 [] 6 (D + 2) 153 _ _ (o1 a1))) (fun a2 => (And.intro (fun a3 => (hT.1 [] 6 (D + 1) 97 (21, [(0, zr 64), (1, zi h), (2, zi d)], [], m) _ (hT.1 [] 6 (D + 2) 153 _ _ (o2 a2 a3)))) (fun a4 => (hT.1 [] 6 (D + 1) 97 (11, [(0, zr 64), (1, zi h), (2, zi d)], [], m) _ (And.intro (fun a5 => (hT.1 [] 6 (D + 2) 153 _ _ (o3 a2 a4 a5))) (fun a6 => (And.intro (fun a7 => (hT.1 [] 6 (D + 1) 97 (24, [(0, zr 64), (1, zi h), (2, zi d)], [zr 64], m) _ (And.intro (fun a9 => (hT.1 [] 6 (D + 1) 97 (40, [(0, zr 64), (1, zi h), (2, zi d)], [zr 64, zr 65], m) _ (And.intro (And.intro (o4 a2 a4 a6 a7 a9) trivial) (hT.1 [] 6 (D + 1) 97 (50, [(0, zr 64), (1, zi h), (2, zi d)], [zr 64, zr 66], (zu m 65 ((wr (m 64 2)).toNat) h)) _ (And.intro (And.intro (o5 a2 a4 a6 a7 a9) trivial) (hT.1 [] 6 (D + 1) 97 (60, [(0, zr 64), (1, zi h), (2, zi d)], [zi (m 64 2), zr 64], (zu (zu m 65 ((wr (m 64 2)).toNat) h) 66 ((wr (m 64 2)).toNat) d)) _ (And.intro trivial (hT.1 [] 6 (D + 2) 153 _ _ (o6 a2 a4 a6 a7 a9))))))))) (fun a10 => (hT.1 [] 6 (D + 2) 153 _ _ (o7 a2 a4 a6 a7 a10)))))) (fun a8 => (hT.1 [] 6 (D + 1) 97 (22, [(0, zr 64), (1, zi h), (2, zi d)], [zi (-1)], m) _ (hT.1 [] 6 (D + 2) 153 _ _ (o8 a2 a4 a6 (Classical.byContradiction a8))))))))))))))
theorem zb153_0 (hT : zRules T) {D : Nat} {κ : Option zA → zM → Prop} {m : zM} {h : Int} {d : Int}  (hB : zB m) (h_h : (-2147483648) ≤ h ∧ h ≤ 2147483647) (h_d : (-2147483648) ≤ d ∧ d ≤ 2147483647) 
    (k1 : h < 1 → κ (some (zi (-1))) m)
    (k2 : ¬ h < 1 → 20 < h → κ (some (zi (-1))) m)
    (k3 : ¬ h < 1 → ¬ 20 < h → d < 0 → κ (some (zi (-1))) m)
    (k4 : ¬ h < 1 → ¬ 20 < h → ¬ d < 0 → ¬ 99 < d → (m 64 2) < 7 → zB (zu (zu (zu m 65 ((m 64 2).toNat) h) 66 ((m 64 2).toNat) d) 64 2 ((m 64 2) + 1)) → κ (some (zi ((m 64 2) + 1))) (zu (zu (zu m 65 ((m 64 2).toNat) h) 66 ((m 64 2).toNat) d) 64 2 ((m 64 2) + 1)))
    (k5 : ¬ h < 1 → ¬ 20 < h → ¬ d < 0 → ¬ 99 < d → ¬ (m 64 2) < 7 → κ (some (zi (-2))) m)
    (k6 : ¬ h < 1 → ¬ 20 < h → ¬ d < 0 → 99 < d → κ (some (zi (-1))) m) :
    T (D + 2) 153 (0, [(0, zr 1), (1, zi h), (2, zi d)], [], m) κ := by
  have hb2 : 0 ≤ (m 64 2) ∧ (m 64 2) ≤ 7 := hB 64 2
  have he0 : wr h = h := wr_id (by omega) (by omega)
  have he1 : wr d = d := wr_id (by omega) (by omega)
  have he2 : wr (m 64 2) = (m 64 2) := wr_id (by omega) (by omega)
  have he3 : wr ((m 64 2) + 1) = ((m 64 2) + 1) := wr_id (by omega) (by omega)
  have key := @zb153_0r T hT D κ m h d
  simp only [he0, he1, he2, he3, Int.toNat_natCast] at key
  exact key
    k1
    k2
    k3
    (fun x0 x1 x2 x3 x4 => by refine ⟨?_, ?_⟩ <;> omega)
    (fun x0 x1 x2 x3 x4 => by refine ⟨?_, ?_⟩ <;> omega)
    (fun x0 x1 x2 x3 x4 => k4 x0 x1 x2 x3 x4 (zB_u (zB_u (zB_u hB (show 0 ≤ h ∧ h ≤ 20 from ⟨by omega, by omega⟩)) (show 0 ≤ d ∧ d ≤ 99 from ⟨by omega, by omega⟩)) (show 0 ≤ ((m 64 2) + 1) ∧ ((m 64 2) + 1) ≤ 7 from ⟨by omega, by omega⟩)))
    k5
    k6
theorem zb278_0r (hT : zRules T) {D : Nat} {κ : Option zA → zM → Prop} {m : zM} {h : Int} {d : Int} 
    (o1 : wr h < 1 → κ (some (zi (-1))) (zu m 74 12 0))
    (o2 : ¬ wr h < 1 → 20 < wr h → κ (some (zi (-1))) (zu m 74 12 0))
    (o3 : ¬ wr h < 1 → ¬ 20 < wr h → wr d < 0 → κ (some (zi (-1))) (zu m 74 12 0))
    (o4 : ¬ wr h < 1 → ¬ 20 < wr h → ¬ wr d < 0 → 99 < wr d → κ (some (zi (-1))) (zu m 74 12 0))
    (o5 : ¬ wr h < 1 → ¬ 20 < wr h → ¬ wr d < 0 → ¬ 99 < wr d → ¬ wr (m 74 54) = 7 → (0 ≤ wr (2 * (m 74 54)) ∧ wr (2 * (m 74 54)) < 14))
    (o6 : ¬ wr h < 1 → ¬ 20 < wr h → ¬ wr d < 0 → ¬ 99 < wr d → ¬ wr (m 74 54) = 7 → (0 ≤ wr ((2 * (m 74 54)) + 1) ∧ wr ((2 * (m 74 54)) + 1) < 14))
    (o7 : ¬ wr h < 1 → ¬ 20 < wr h → ¬ wr d < 0 → ¬ 99 < wr d → ¬ wr (m 74 54) = 7 → κ (some (zi (wr ((m 74 54) + 1)))) (zu (zu (zu (zu m 74 12 0) 100 ((wr (2 * (m 74 54))).toNat) h) 100 ((wr ((2 * (m 74 54)) + 1)).toNat) d) 74 54 ((m 74 54) + 1)))
    (o8 : ¬ wr h < 1 → ¬ 20 < wr h → ¬ wr d < 0 → ¬ 99 < wr d → wr (m 74 54) = 7 → κ (some (zi (-2))) (zu m 74 12 0)) :
    T (D + 2) 278 (0, [(0, zr 74), (1, zi h), (2, zi d)], [], m) κ :=
  hT.1 [] 6 (D + 2) 278 _ κ (And.intro trivial (hT.1 [] 6 (D + 2) 278 (9, [(0, zr 74), (1, zi h), (2, zi d)], [zi 20, zi 1, zi h], (zu m 74 12 0)) _ (hT.1 [] 6 (D + 1) 186 _ _ (And.intro (fun a1 => (And.intro (z_b01L rfl) (hT.1 [] 6 (D + 2) 278 _ _ (And.intro (fun _ => (o1 a1)) (fun a3 => (a3 (z_litT rfl)).elim))))) (fun a2 => (And.intro (fun a4 => (hT.1 [] 6 (D + 1) 186 (14, [(0, zi h), (1, zi 1), (2, zi 20)], [], (zu m 74 12 0)) _ (And.intro (z_b01L rfl) (hT.1 [] 6 (D + 2) 278 _ _ (And.intro (fun _ => (o2 a2 a4)) (fun a6 => (a6 (z_litT rfl)).elim)))))) (fun a5 => (hT.1 [] 6 (D + 1) 186 (10, [(0, zi h), (1, zi 1), (2, zi 20)], [], (zu m 74 12 0)) _ (And.intro (z_b01L rfl) (hT.1 [] 6 (D + 2) 278 _ _ (And.intro (fun a7 => (z_litF a7 rfl).elim) (fun _ => (hT.1 [] 6 (D + 1) 186 _ _ (And.intro (fun a8 => (And.intro (z_b01L rfl) (hT.1 [] 6 (D + 2) 278 _ _ (And.intro (fun a10 => (z_litF a10 rfl).elim) (fun _ => (o3 a2 a5 a8)))))) (fun a9 => (And.intro (fun a11 => (hT.1 [] 6 (D + 1) 186 (14, [(0, zi d), (1, zi 0), (2, zi 99)], [], (zu m 74 12 0)) _ (And.intro (z_b01L rfl) (hT.1 [] 6 (D + 2) 278 _ _ (And.intro (fun a13 => (z_litF a13 rfl).elim) (fun _ => (o4 a2 a5 a9 a11))))))) (fun a12 => (hT.1 [] 6 (D + 1) 186 (10, [(0, zi d), (1, zi 0), (2, zi 99)], [], (zu m 74 12 0)) _ (And.intro (z_b01L rfl) (hT.1 [] 6 (D + 2) 278 _ _ (And.intro (fun _ => (And.intro (fun a15 => (hT.1 [] 6 (D + 2) 278 (40, [(0, zr 74), (1, zi h), (2, zi d)], [zr 74], (zu m 74 12 0)) _ (hT.1 [] 6 (D + 2) 278 (50, [(0, zr 74), (1, zi h), (2, zi d)], [zi h, zi (2 * (m 74 54)), zr 100], (zu m 74 12 0)) _ (And.intro (And.intro (o5 a2 a5 a9 a12 a15) trivial) (hT.1 [] 6 (D + 2) 278 (60, [(0, zr 74), (1, zi h), (2, zi d)], [zi (m 74 54), zi 2, zr 100], (zu (zu m 74 12 0) 100 ((wr (2 * (m 74 54))).toNat) h)) _ (And.intro (And.intro (o6 a2 a5 a9 a12 a15) trivial) (hT.1 [] 6 (D + 2) 278 (66, [(0, zr 74), (1, zi h), (2, zi d)], [zr 74], (zu (zu (zu m 74 12 0) 100 ((wr (2 * (m 74 54))).toNat) h) 100 ((wr ((2 * (m 74 54)) + 1)).toNat) d)) _ (And.intro trivial (hT.1 [] 6 (D + 2) 278 (76, [(0, zr 74), (1, zi h), (2, zi d)], [zr 74], (zu (zu (zu (zu m 74 12 0) 100 ((wr (2 * (m 74 54))).toNat) h) 100 ((wr ((2 * (m 74 54)) + 1)).toNat) d) 74 54 ((m 74 54) + 1))) _ (o7 a2 a5 a9 a12 a15)))))))))) (fun a16 => (hT.1 [] 6 (D + 2) 278 (38, [(0, zr 74), (1, zi h), (2, zi d)], [zi (-2)], (zu m 74 12 0)) _ (o8 a2 a5 a9 a12 (Classical.byContradiction a16)))))) (fun a14 => (a14 (z_litT rfl)).elim))))))))))))))))))))))
theorem zb278_0 (hT : zRules T) {D : Nat} {κ : Option zA → zM → Prop} {m : zM} {h : Int} {d : Int}  (hB : zB m) (h_h : (-2147483648) ≤ h ∧ h ≤ 2147483647) (h_d : (-2147483648) ≤ d ∧ d ≤ 2147483647) 
    (k1 : h < 1 → zB (zu m 74 12 0) → κ (some (zi (-1))) (zu m 74 12 0))
    (k2 : ¬ h < 1 → 20 < h → zB (zu m 74 12 0) → κ (some (zi (-1))) (zu m 74 12 0))
    (k3 : ¬ h < 1 → ¬ 20 < h → d < 0 → zB (zu m 74 12 0) → κ (some (zi (-1))) (zu m 74 12 0))
    (k4 : ¬ h < 1 → ¬ 20 < h → ¬ d < 0 → 99 < d → zB (zu m 74 12 0) → κ (some (zi (-1))) (zu m 74 12 0))
    (k5 : ¬ h < 1 → ¬ 20 < h → ¬ d < 0 → ¬ 99 < d → ¬ (m 74 54) = 7 → zB (zu (zu (zu (zu m 74 12 0) 100 ((2 * (m 74 54)).toNat) h) 100 (((2 * (m 74 54)) + 1).toNat) d) 74 54 ((m 74 54) + 1)) → κ (some (zi ((m 74 54) + 1))) (zu (zu (zu (zu m 74 12 0) 100 ((2 * (m 74 54)).toNat) h) 100 (((2 * (m 74 54)) + 1).toNat) d) 74 54 ((m 74 54) + 1)))
    (k6 : ¬ h < 1 → ¬ 20 < h → ¬ d < 0 → ¬ 99 < d → (m 74 54) = 7 → zB (zu m 74 12 0) → κ (some (zi (-2))) (zu m 74 12 0)) :
    T (D + 2) 278 (0, [(0, zr 74), (1, zi h), (2, zi d)], [], m) κ := by
  have hb2 : 0 ≤ (m 74 54) ∧ (m 74 54) ≤ 7 := hB 74 54
  have he0 : wr h = h := wr_id (by omega) (by omega)
  have he1 : wr d = d := wr_id (by omega) (by omega)
  have he2 : wr (m 74 54) = (m 74 54) := wr_id (by omega) (by omega)
  have he3 : wr (2 * (m 74 54)) = (2 * (m 74 54)) := wr_id (by omega) (by omega)
  have he4 : wr ((2 * (m 74 54)) + 1) = ((2 * (m 74 54)) + 1) := wr_id (by omega) (by omega)
  have he5 : wr ((m 74 54) + 1) = ((m 74 54) + 1) := wr_id (by omega) (by omega)
  have key := @zb278_0r T hT D κ m h d
  simp only [he0, he1, he2, he3, he4, he5, Int.toNat_natCast] at key
  exact key
    (fun x0 => k1 x0 (zB_u hB trivial))
    (fun x0 x1 => k2 x0 x1 (zB_u hB trivial))
    (fun x0 x1 x2 => k3 x0 x1 x2 (zB_u hB trivial))
    (fun x0 x1 x2 x3 => k4 x0 x1 x2 x3 (zB_u hB trivial))
    (fun x0 x1 x2 x3 x4 => by refine ⟨?_, ?_⟩ <;> omega)
    (fun x0 x1 x2 x3 x4 => by refine ⟨?_, ?_⟩ <;> omega)
    (fun x0 x1 x2 x3 x4 => k5 x0 x1 x2 x3 x4 (zB_u (zB_u (zB_u (zB_u hB trivial) (show 0 ≤ h ∧ h ≤ 99 from ⟨by omega, by omega⟩)) (show 0 ≤ d ∧ d ≤ 99 from ⟨by omega, by omega⟩)) (show 0 ≤ ((m 74 54) + 1) ∧ ((m 74 54) + 1) ≤ 7 from ⟨by omega, by omega⟩)))
    (fun x0 x1 x2 x3 x4 => k6 x0 x1 x2 x3 x4 (zB_u hB trivial))
theorem zb119_0r (hT : zRules T) {D : Nat} {κ : Option zA → zM → Prop} {m : zM} {p : Int} {w : Int} 
    (o1 : wr w < 0 → κ (some (zi (-1))) m)
    (o2 : ¬ wr w < 0 → 9999 < wr w → κ (some (zi (-1))) m)
    (o3 : ¬ wr w < 0 → ¬ 9999 < wr w → wr p < 0 → κ (some (zi (-1))) m)
    (o4 : ¬ wr w < 0 → ¬ 9999 < wr w → ¬ wr p < 0 → ¬ wr p < wr (m 4 4) → κ (some (zi (-1))) m)
    (o5 : ¬ wr w < 0 → ¬ 9999 < wr w → ¬ wr p < 0 → wr p < wr (m 4 4) → wr w < 0 → False)
    (o6 : ¬ wr w < 0 → ¬ 9999 < wr w → ¬ wr p < 0 → wr p < wr (m 4 4) → ¬ wr w < 0 → (0 ≤ wr p ∧ wr p < 4))
    (o7 : ¬ wr w < 0 → ¬ 9999 < wr w → ¬ wr p < 0 → wr p < wr (m 4 4) → ¬ wr w < 0 → ¬ wr (m 6 ((wr p).toNat)) < 1 → (0 ≤ wr p ∧ wr p < 4))
    (o8 : ¬ wr w < 0 → ¬ 9999 < wr w → ¬ wr p < 0 → wr p < wr (m 4 4) → ¬ wr w < 0 → ¬ wr (m 6 ((wr p).toNat)) < 1 → ¬ wr (m 6 ((wr p).toNat)) = 0)
    (o9 : ¬ wr w < 0 → ¬ 9999 < wr w → ¬ wr p < 0 → wr p < wr (m 4 4) → ¬ wr w < 0 → ¬ wr (m 6 ((wr p).toNat)) < 1 → (0 ≤ wr ((p * 26) + (Int.tmod (wr w) (wr (m 6 ((wr p).toNat))))) ∧ wr ((p * 26) + (Int.tmod (wr w) (wr (m 6 ((wr p).toNat))))) < 104))
    (o10 : ¬ wr w < 0 → ¬ 9999 < wr w → ¬ wr p < 0 → wr p < wr (m 4 4) → ¬ wr w < 0 → ¬ wr (m 6 ((wr p).toNat)) < 1 → κ (some (zi (wr (wr (m 5 ((wr ((p * 26) + (Int.tmod (wr w) (wr (m 6 ((wr p).toNat)))))).toNat)))))) m)
    (o11 : ¬ wr w < 0 → ¬ 9999 < wr w → ¬ wr p < 0 → wr p < wr (m 4 4) → ¬ wr w < 0 → wr (m 6 ((wr p).toNat)) < 1 → κ (some (zi (-1))) m) :
    T (D + 2) 119 (0, [(0, zr 1), (1, zi p), (2, zi w)], [], m) κ :=
  hT.1 [] 6 (D + 2) 119 _ κ (hT.1 [] 6 (D + 1) 164 _ _ (And.intro (fun a1 => (And.intro (z_b01L rfl) (hT.1 [] 6 (D + 2) 119 _ _ (And.intro (fun _ => (o1 a1)) (fun a3 => (a3 (z_litT rfl)).elim))))) (fun a2 => (And.intro (fun a4 => (hT.1 [] 6 (D + 1) 164 (16, [(0, zi w)], [zi 0], m) _ (And.intro (z_b01L rfl) (hT.1 [] 6 (D + 2) 119 _ _ (And.intro (fun _ => (o2 a2 a4)) (fun a6 => (a6 (z_litT rfl)).elim)))))) (fun a5 => (hT.1 [] 6 (D + 1) 164 (12, [(0, zi w)], [zi 1], m) _ (And.intro (z_b01L rfl) (hT.1 [] 6 (D + 2) 119 _ _ (And.intro (fun a7 => (z_litF a7 rfl).elim) (fun _ => (hT.1 [] 6 (D + 1) 1 _ _ (And.intro (fun a8 => (hT.1 [] 6 (D + 2) 119 _ _ (o3 a2 a5 a8))) (fun a9 => (And.intro (fun a10 => (hT.1 [] 6 (D + 1) 1 (26, [(0, zr 4), (1, zi p), (2, zi w)], [], m) _ (hT.1 [] 6 (D + 2) 119 _ _ (o4 a2 a5 a9 a10)))) (fun a11 => (hT.1 [] 6 (D + 1) 1 (12, [(0, zr 4), (1, zi p), (2, zi w)], [], m) _ (And.intro (fun a12 => (o5 a2 a5 a9 (Classical.byContradiction a11) a12).elim) (fun a13 => (And.intro (o6 a2 a5 a9 (Classical.byContradiction a11) a13) (hT.1 [] 6 (D + 1) 1 (22, [(0, zr 4), (1, zi p), (2, zi w)], [zi (m 6 ((wr p).toNat))], m) _ (And.intro (fun a14 => (hT.1 [] 6 (D + 1) 1 (35, [(0, zr 4), (1, zi p), (2, zi w)], [zi 26, zi p, zr 5], m) _ (And.intro (o7 a2 a5 a9 (Classical.byContradiction a11) a13 a14) (hT.1 [] 6 (D + 1) 1 (43, [(0, zr 4), (1, zi p), (2, zi w)], [zi (m 6 ((wr p).toNat)), zi w, zi (p * 26), zr 5], m) _ (And.intro (o8 a2 a5 a9 (Classical.byContradiction a11) a13 a14) (And.intro (o9 a2 a5 a9 (Classical.byContradiction a11) a13 a14) (hT.1 [] 6 (D + 2) 119 _ _ (o10 a2 a5 a9 (Classical.byContradiction a11) a13 a14)))))))) (fun a15 => (hT.1 [] 6 (D + 2) 119 _ _ (o11 a2 a5 a9 (Classical.byContradiction a11) a13 (Classical.byContradiction a15)))))))))))))))))))))))))
theorem zb119_0 (hT : zRules T) {D : Nat} {κ : Option zA → zM → Prop} {m : zM} {p : Int} {w : Int}  (hB : zB m) (h_p : (-2147483648) ≤ p ∧ p ≤ 2147483647) (h_w : (-2147483648) ≤ w ∧ w ≤ 2147483647) 
    (k1 : w < 0 → κ (some (zi (-1))) m)
    (k2 : ¬ w < 0 → 9999 < w → κ (some (zi (-1))) m)
    (k3 : ¬ w < 0 → ¬ 9999 < w → p < 0 → κ (some (zi (-1))) m)
    (k4 : ¬ w < 0 → ¬ 9999 < w → ¬ p < 0 → ¬ p < (m 4 4) → κ (some (zi (-1))) m)
    (k5 : ¬ w < 0 → ¬ 9999 < w → ¬ p < 0 → p < (m 4 4) → ¬ (m 6 (p.toNat)) < 1 → (0 ≤ wr ((p * 26) + (Int.tmod w (m 6 (p.toNat)))) ∧ wr ((p * 26) + (Int.tmod w (m 6 (p.toNat)))) < 104))
    (k6 : ¬ w < 0 → ¬ 9999 < w → ¬ p < 0 → p < (m 4 4) → ¬ (m 6 (p.toNat)) < 1 → κ (some (zi (m 5 ((wr ((p * 26) + (Int.tmod w (m 6 (p.toNat))))).toNat)))) m)
    (k7 : ¬ w < 0 → ¬ 9999 < w → ¬ p < 0 → p < (m 4 4) → (m 6 (p.toNat)) < 1 → κ (some (zi (-1))) m) :
    T (D + 2) 119 (0, [(0, zr 1), (1, zi p), (2, zi w)], [], m) κ := by
  have hb2 : 0 ≤ (m 4 4) ∧ (m 4 4) ≤ 4 := hB 4 4
  have hb3 : 0 ≤ (m 6 (p.toNat)) ∧ (m 6 (p.toNat)) ≤ 26 := hB 6 (p.toNat)
  have hb4 : (-2147483648) ≤ wr ((p * 26) + (Int.tmod w (m 6 (p.toNat)))) ∧ wr ((p * 26) + (Int.tmod w (m 6 (p.toNat)))) ≤ 2147483647 := wrB ((p * 26) + (Int.tmod w (m 6 (p.toNat))))
  have hb5 : 0 ≤ (m 5 ((wr ((p * 26) + (Int.tmod w (m 6 (p.toNat))))).toNat)) ∧ (m 5 ((wr ((p * 26) + (Int.tmod w (m 6 (p.toNat))))).toNat)) ≤ 9 := hB 5 ((wr ((p * 26) + (Int.tmod w (m 6 (p.toNat))))).toNat)
  have he0 : wr w = w := wr_id (by omega) (by omega)
  have he1 : wr p = p := wr_id (by omega) (by omega)
  have he2 : wr (m 4 4) = (m 4 4) := wr_id (by omega) (by omega)
  have he3 : wr (m 6 (p.toNat)) = (m 6 (p.toNat)) := wr_id (by omega) (by omega)
  have he4 : wr (m 5 ((wr ((p * 26) + (Int.tmod w (m 6 (p.toNat))))).toNat)) = (m 5 ((wr ((p * 26) + (Int.tmod w (m 6 (p.toNat))))).toNat)) := wr_id (by omega) (by omega)
  have key := @zb119_0r T hT D κ m p w
  simp only [he0, he1, he2, he3, he4, Int.toNat_natCast] at key
  exact key
    k1
    k2
    k3
    k4
    (fun x0 x1 x2 x3 x4 => by omega)
    (fun x0 x1 x2 x3 x4 => by refine ⟨?_, ?_⟩ <;> omega)
    (fun x0 x1 x2 x3 x4 x5 => by refine ⟨?_, ?_⟩ <;> omega)
    (fun x0 x1 x2 x3 x4 x5 => by omega)
    (fun x0 x1 x2 x3 x4 x5 => k5 x0 x1 x2 x3 x5)
    (fun x0 x1 x2 x3 x4 x5 => k6 x0 x1 x2 x3 x5)
    (fun x0 x1 x2 x3 x4 x5 => k7 x0 x1 x2 x3 x5)
theorem zb220_0r (hT : zRules T) {D : Nat} {κ : Option zA → zM → Prop} {m : zM} {p : Int} {w : Int} 
    (o1 : wr p < 0 → κ (some (zi (-1))) (zu m 74 12 0))
    (o2 : ¬ wr p < 0 → wr ((m 74 1) - 1) < wr p → κ (some (zi (-1))) (zu m 74 12 0))
    (o3 : ¬ wr p < 0 → ¬ wr ((m 74 1) - 1) < wr p → wr w < 0 → κ (some (zi (-1))) (zu m 74 12 0))
    (o4 : ¬ wr p < 0 → ¬ wr ((m 74 1) - 1) < wr p → ¬ wr w < 0 → 9999 < wr w → κ (some (zi (-1))) (zu m 74 12 0))
    (o5 : ¬ wr p < 0 → ¬ wr ((m 74 1) - 1) < wr p → ¬ wr w < 0 → ¬ 9999 < wr w → T (D + 1) 213 (0, [(0, zr 74), (1, zi p), (2, zi w)], [], (zu m 74 12 0)) (fun r m1 => T (D + 2) 220 (32, [(0, zr 74), (1, zi p), (2, zi w)], r.toList ++ [], m1) κ)) :
    T (D + 2) 220 (0, [(0, zr 74), (1, zi p), (2, zi w)], [], m) κ :=
  hT.1 [] 6 (D + 2) 220 _ κ (And.intro trivial (hT.1 [] 6 (D + 2) 220 (8, [(0, zr 74), (1, zi p), (2, zi w)], [zr 74, zi 0, zi p], (zu m 74 12 0)) _ (hT.1 [] 6 (D + 1) 186 _ _ (And.intro (fun a1 => (And.intro (z_b01L rfl) (hT.1 [] 6 (D + 2) 220 _ _ (And.intro (fun _ => (o1 a1)) (fun a3 => (a3 (z_litT rfl)).elim))))) (fun a2 => (And.intro (fun a4 => (hT.1 [] 6 (D + 1) 186 (14, [(0, zi p), (1, zi 0), (2, zi ((m 74 1) - 1))], [], (zu m 74 12 0)) _ (And.intro (z_b01L rfl) (hT.1 [] 6 (D + 2) 220 _ _ (And.intro (fun _ => (o2 a2 a4)) (fun a6 => (a6 (z_litT rfl)).elim)))))) (fun a5 => (hT.1 [] 6 (D + 1) 186 (10, [(0, zi p), (1, zi 0), (2, zi ((m 74 1) - 1))], [], (zu m 74 12 0)) _ (And.intro (z_b01L rfl) (hT.1 [] 6 (D + 2) 220 _ _ (And.intro (fun a7 => (z_litF a7 rfl).elim) (fun _ => (hT.1 [] 6 (D + 1) 193 _ _ (hT.1 [] 6 D 186 _ _ (And.intro (fun a8 => (And.intro (z_b01L rfl) (hT.1 [] 6 (D + 1) 193 _ _ (And.intro (z_b01L rfl) (hT.1 [] 6 (D + 2) 220 _ _ (And.intro (fun _ => (o3 a2 a5 a8)) (fun a10 => (a10 (z_litT rfl)).elim))))))) (fun a9 => (And.intro (fun a11 => (hT.1 [] 6 D 186 (14, [(0, zi w), (1, zi 0), (2, zi 9999)], [], (zu m 74 12 0)) _ (And.intro (z_b01L rfl) (hT.1 [] 6 (D + 1) 193 _ _ (And.intro (z_b01L rfl) (hT.1 [] 6 (D + 2) 220 _ _ (And.intro (fun _ => (o4 a2 a5 a9 a11)) (fun a13 => (a13 (z_litT rfl)).elim)))))))) (fun a12 => (hT.1 [] 6 D 186 (10, [(0, zi w), (1, zi 0), (2, zi 9999)], [], (zu m 74 12 0)) _ (And.intro (z_b01L rfl) (hT.1 [] 6 (D + 1) 193 _ _ (And.intro (z_b01L rfl) (hT.1 [] 6 (D + 2) 220 _ _ (And.intro (fun a14 => (z_litF a14 rfl).elim) (fun _ => (o5 a2 a5 a9 a12))))))))))))))))))))))))))
theorem zb220_0 (hT : zRules T) {D : Nat} {κ : Option zA → zM → Prop} {m : zM} {p : Int} {w : Int}  (hB : zB m) (h_p : (-2147483648) ≤ p ∧ p ≤ 2147483647) (h_w : (-2147483648) ≤ w ∧ w ≤ 2147483647) 
    (k1 : p < 0 → zB (zu m 74 12 0) → κ (some (zi (-1))) (zu m 74 12 0))
    (k2 : ¬ p < 0 → ((m 74 1) - 1) < p → zB (zu m 74 12 0) → κ (some (zi (-1))) (zu m 74 12 0))
    (k3 : ¬ p < 0 → ¬ ((m 74 1) - 1) < p → w < 0 → zB (zu m 74 12 0) → κ (some (zi (-1))) (zu m 74 12 0))
    (k4 : ¬ p < 0 → ¬ ((m 74 1) - 1) < p → ¬ w < 0 → 9999 < w → zB (zu m 74 12 0) → κ (some (zi (-1))) (zu m 74 12 0))
    (k5 : ¬ p < 0 → ¬ ((m 74 1) - 1) < p → ¬ w < 0 → ¬ 9999 < w → zB (zu m 74 12 0) → T (D + 1) 213 (0, [(0, zr 74), (1, zi p), (2, zi w)], [], (zu m 74 12 0)) (fun r m1 => T (D + 2) 220 (32, [(0, zr 74), (1, zi p), (2, zi w)], r.toList ++ [], m1) κ)) :
    T (D + 2) 220 (0, [(0, zr 74), (1, zi p), (2, zi w)], [], m) κ := by
  have hb2 : 0 ≤ (m 74 1) ∧ (m 74 1) ≤ 4 := hB 74 1
  have he0 : wr p = p := wr_id (by omega) (by omega)
  have he1 : wr ((m 74 1) - 1) = ((m 74 1) - 1) := wr_id (by omega) (by omega)
  have he2 : wr w = w := wr_id (by omega) (by omega)
  have key := @zb220_0r T hT D κ m p w
  simp only [he0, he1, he2, Int.toNat_natCast] at key
  exact key
    (fun x0 => k1 x0 (zB_u hB trivial))
    (fun x0 x1 => k2 x0 x1 (zB_u hB trivial))
    (fun x0 x1 x2 => k3 x0 x1 x2 (zB_u hB trivial))
    (fun x0 x1 x2 x3 => k4 x0 x1 x2 x3 (zB_u hB trivial))
    (fun x0 x1 x2 x3 => k5 x0 x1 x2 x3 (zB_u hB trivial))
theorem zb120_0r (hT : zRules T) {D : Nat} {κ : Option zA → zM → Prop} {m : zM} {i : Int} {p : Int} {w : Int} 
    (o1 : wr i < 0 → κ (some (zi (-1))) m)
    (o2 : ¬ wr i < 0 → ¬ wr i < wr (m 17 0) → κ (some (zi (-1))) m)
    (o3 : ¬ wr i < 0 → wr i < wr (m 17 0) → wr p < 0 → κ (some (zi (-1))) m)
    (o4 : ¬ wr i < 0 → wr i < wr (m 17 0) → ¬ wr p < 0 → ¬ wr p < 4 → κ (some (zi (-1))) m)
    (o5 : ¬ wr i < 0 → wr i < wr (m 17 0) → ¬ wr p < 0 → wr p < 4 → wr w < 0 → κ (some (zi (-1))) m)
    (o6 : ¬ wr i < 0 → wr i < wr (m 17 0) → ¬ wr p < 0 → wr p < 4 → ¬ wr w < 0 → 9999 < wr w → κ (some (zi (-1))) m)
    (o7 : ¬ wr i < 0 → wr i < wr (m 17 0) → ¬ wr p < 0 → wr p < 4 → ¬ wr w < 0 → ¬ 9999 < wr w → T (D + 4) 169 (0, [(0, zr 1), (1, zi i), (2, zi p), (3, zi w)], [], m) (fun r m1 => T (D + 5) 120 (34, [(0, zr 1), (1, zi i), (2, zi p), (3, zi w)], r.toList ++ [], m1) κ)) :
    T (D + 5) 120 (0, [(0, zr 1), (1, zi i), (2, zi p), (3, zi w)], [], m) κ :=
  hT.1 [] 6 (D + 5) 120 _ κ (hT.1 [] 6 (D + 4) 25 _ _ (And.intro (fun a1 => (And.intro (z_b01L rfl) (hT.1 [] 6 (D + 5) 120 _ _ (And.intro (fun _ => (o1 a1)) (fun a3 => (a3 (z_litT rfl)).elim))))) (fun a2 => (And.intro (fun a4 => (hT.1 [] 6 (D + 4) 25 (16, [(0, zr 17), (1, zi i)], [], m) _ (And.intro (z_b01L rfl) (hT.1 [] 6 (D + 5) 120 _ _ (And.intro (fun _ => (o2 a2 a4)) (fun a6 => (a6 (z_litT rfl)).elim)))))) (fun a5 => (hT.1 [] 6 (D + 4) 25 (12, [(0, zr 17), (1, zi i)], [], m) _ (And.intro (z_b01L rfl) (hT.1 [] 6 (D + 5) 120 _ _ (And.intro (fun a7 => (z_litF a7 rfl).elim) (fun _ => (hT.1 [] 6 (D + 4) 163 _ _ (And.intro (fun a8 => (And.intro (z_b01L rfl) (hT.1 [] 6 (D + 5) 120 _ _ (And.intro (fun _ => (o3 a2 (Classical.byContradiction a5) a8)) (fun a10 => (a10 (z_litT rfl)).elim))))) (fun a9 => (And.intro (fun a11 => (hT.1 [] 6 (D + 4) 163 (14, [(0, zi p)], [zi 0], m) _ (And.intro (z_b01L rfl) (hT.1 [] 6 (D + 5) 120 _ _ (And.intro (fun _ => (o4 a2 (Classical.byContradiction a5) a9 a11)) (fun a13 => (a13 (z_litT rfl)).elim)))))) (fun a12 => (hT.1 [] 6 (D + 4) 163 (10, [(0, zi p)], [zi 1], m) _ (And.intro (z_b01L rfl) (hT.1 [] 6 (D + 5) 120 _ _ (And.intro (fun a14 => (z_litF a14 rfl).elim) (fun _ => (hT.1 [] 6 (D + 4) 164 _ _ (And.intro (fun a15 => (And.intro (z_b01L rfl) (hT.1 [] 6 (D + 5) 120 _ _ (And.intro (fun a17 => (z_litF a17 rfl).elim) (fun _ => (o5 a2 (Classical.byContradiction a5) a9 (Classical.byContradiction a12) a15)))))) (fun a16 => (And.intro (fun a18 => (hT.1 [] 6 (D + 4) 164 (16, [(0, zi w)], [zi 0], m) _ (And.intro (z_b01L rfl) (hT.1 [] 6 (D + 5) 120 _ _ (And.intro (fun a20 => (z_litF a20 rfl).elim) (fun _ => (o6 a2 (Classical.byContradiction a5) a9 (Classical.byContradiction a12) a16 a18))))))) (fun a19 => (hT.1 [] 6 (D + 4) 164 (12, [(0, zi w)], [zi 1], m) _ (And.intro (z_b01L rfl) (hT.1 [] 6 (D + 5) 120 _ _ (And.intro (fun _ => (o7 a2 (Classical.byContradiction a5) a9 (Classical.byContradiction a12) a16 a19)) (fun a21 => (a21 (z_litT rfl)).elim))))))))))))))))))))))))))))))
theorem zb120_0 (hT : zRules T) {D : Nat} {κ : Option zA → zM → Prop} {m : zM} {i : Int} {p : Int} {w : Int}  (hB : zB m) (h_i : (-2147483648) ≤ i ∧ i ≤ 2147483647) (h_p : (-2147483648) ≤ p ∧ p ≤ 2147483647) (h_w : (-2147483648) ≤ w ∧ w ≤ 2147483647) 
    (k1 : i < 0 → κ (some (zi (-1))) m)
    (k2 : ¬ i < 0 → ¬ i < (m 17 0) → κ (some (zi (-1))) m)
    (k3 : ¬ i < 0 → i < (m 17 0) → p < 0 → κ (some (zi (-1))) m)
    (k4 : ¬ i < 0 → i < (m 17 0) → ¬ p < 0 → ¬ p < 4 → κ (some (zi (-1))) m)
    (k5 : ¬ i < 0 → i < (m 17 0) → ¬ p < 0 → p < 4 → w < 0 → κ (some (zi (-1))) m)
    (k6 : ¬ i < 0 → i < (m 17 0) → ¬ p < 0 → p < 4 → ¬ w < 0 → 9999 < w → κ (some (zi (-1))) m)
    (k7 : ¬ i < 0 → i < (m 17 0) → ¬ p < 0 → p < 4 → ¬ w < 0 → ¬ 9999 < w → T (D + 4) 169 (0, [(0, zr 1), (1, zi i), (2, zi p), (3, zi w)], [], m) (fun r m1 => T (D + 5) 120 (34, [(0, zr 1), (1, zi i), (2, zi p), (3, zi w)], r.toList ++ [], m1) κ)) :
    T (D + 5) 120 (0, [(0, zr 1), (1, zi i), (2, zi p), (3, zi w)], [], m) κ := by
  have hb3 : 0 ≤ (m 17 0) ∧ (m 17 0) ≤ 6 := hB 17 0
  have he0 : wr i = i := wr_id (by omega) (by omega)
  have he1 : wr (m 17 0) = (m 17 0) := wr_id (by omega) (by omega)
  have he2 : wr p = p := wr_id (by omega) (by omega)
  have he3 : wr w = w := wr_id (by omega) (by omega)
  have key := @zb120_0r T hT D κ m i p w
  simp only [he0, he1, he2, he3, Int.toNat_natCast] at key
  exact key
    k1
    k2
    k3
    k4
    k5
    k6
    k7
theorem zb221_0r (hT : zRules T) {D : Nat} {κ : Option zA → zM → Prop} {m : zM} {i : Int} {p : Int} {w : Int} 
    (o1 : wr i < 0 → κ (some (zi (-1))) (zu m 74 12 0))
    (o2 : ¬ wr i < 0 → wr ((m 74 4) - 1) < wr i → κ (some (zi (-1))) (zu m 74 12 0))
    (o3 : ¬ wr i < 0 → ¬ wr ((m 74 4) - 1) < wr i → wr p < 0 → κ (some (zi (-1))) (zu m 74 12 0))
    (o4 : ¬ wr i < 0 → ¬ wr ((m 74 4) - 1) < wr i → ¬ wr p < 0 → 3 < wr p → κ (some (zi (-1))) (zu m 74 12 0))
    (o5 : ¬ wr i < 0 → ¬ wr ((m 74 4) - 1) < wr i → ¬ wr p < 0 → ¬ 3 < wr p → wr w < 0 → κ (some (zi (-1))) (zu m 74 12 0))
    (o6 : ¬ wr i < 0 → ¬ wr ((m 74 4) - 1) < wr i → ¬ wr p < 0 → ¬ 3 < wr p → ¬ wr w < 0 → 9999 < wr w → κ (some (zi (-1))) (zu m 74 12 0))
    (o7 : ¬ wr i < 0 → ¬ wr ((m 74 4) - 1) < wr i → ¬ wr p < 0 → ¬ 3 < wr p → ¬ wr w < 0 → ¬ 9999 < wr w → T (D + 3) 215 (0, [(0, zr 74), (1, zi i), (2, zi p), (3, zi w)], [], (zu m 74 12 0)) (fun r m1 => T (D + 4) 221 (34, [(0, zr 74), (1, zi i), (2, zi p), (3, zi w)], r.toList ++ [], m1) κ)) :
    T (D + 4) 221 (0, [(0, zr 74), (1, zi i), (2, zi p), (3, zi w)], [], m) κ :=
  hT.1 [] 6 (D + 4) 221 _ κ (And.intro trivial (hT.1 [] 6 (D + 3) 190 _ _ (hT.1 [] 6 (D + 3) 190 (8, [(0, zr 74), (1, zi i)], [zi ((m 74 4) - 1), zi 0, zi i], (zu m 74 12 0)) _ (hT.1 [] 6 (D + 2) 186 _ _ (And.intro (fun a1 => (And.intro (z_b01L rfl) (hT.1 [] 6 (D + 3) 190 _ _ (And.intro (z_b01L rfl) (hT.1 [] 6 (D + 4) 221 _ _ (And.intro (fun _ => (o1 a1)) (fun a3 => (a3 (z_litT rfl)).elim))))))) (fun a2 => (And.intro (fun a4 => (hT.1 [] 6 (D + 2) 186 (14, [(0, zi i), (1, zi 0), (2, zi ((m 74 4) - 1))], [], (zu m 74 12 0)) _ (And.intro (z_b01L rfl) (hT.1 [] 6 (D + 3) 190 _ _ (And.intro (z_b01L rfl) (hT.1 [] 6 (D + 4) 221 _ _ (And.intro (fun _ => (o2 a2 a4)) (fun a6 => (a6 (z_litT rfl)).elim)))))))) (fun a5 => (hT.1 [] 6 (D + 2) 186 (10, [(0, zi i), (1, zi 0), (2, zi ((m 74 4) - 1))], [], (zu m 74 12 0)) _ (And.intro (z_b01L rfl) (hT.1 [] 6 (D + 3) 190 _ _ (And.intro (z_b01L rfl) (hT.1 [] 6 (D + 4) 221 _ _ (And.intro (fun a7 => (z_litF a7 rfl).elim) (fun _ => (hT.1 [] 6 (D + 3) 192 _ _ (hT.1 [] 6 (D + 2) 186 _ _ (And.intro (fun a8 => (And.intro (z_b01L rfl) (hT.1 [] 6 (D + 3) 192 _ _ (And.intro (z_b01L rfl) (hT.1 [] 6 (D + 4) 221 _ _ (And.intro (fun _ => (o3 a2 a5 a8)) (fun a10 => (a10 (z_litT rfl)).elim))))))) (fun a9 => (And.intro (fun a11 => (hT.1 [] 6 (D + 2) 186 (14, [(0, zi p), (1, zi 0), (2, zi 3)], [], (zu m 74 12 0)) _ (And.intro (z_b01L rfl) (hT.1 [] 6 (D + 3) 192 _ _ (And.intro (z_b01L rfl) (hT.1 [] 6 (D + 4) 221 _ _ (And.intro (fun _ => (o4 a2 a5 a9 a11)) (fun a13 => (a13 (z_litT rfl)).elim)))))))) (fun a12 => (hT.1 [] 6 (D + 2) 186 (10, [(0, zi p), (1, zi 0), (2, zi 3)], [], (zu m 74 12 0)) _ (And.intro (z_b01L rfl) (hT.1 [] 6 (D + 3) 192 _ _ (And.intro (z_b01L rfl) (hT.1 [] 6 (D + 4) 221 _ _ (And.intro (fun a14 => (z_litF a14 rfl).elim) (fun _ => (hT.1 [] 6 (D + 3) 193 _ _ (hT.1 [] 6 (D + 2) 186 _ _ (And.intro (fun a15 => (And.intro (z_b01L rfl) (hT.1 [] 6 (D + 3) 193 _ _ (And.intro (z_b01L rfl) (hT.1 [] 6 (D + 4) 221 _ _ (And.intro (fun _ => (o5 a2 a5 a9 a12 a15)) (fun a17 => (a17 (z_litT rfl)).elim))))))) (fun a16 => (And.intro (fun a18 => (hT.1 [] 6 (D + 2) 186 (14, [(0, zi w), (1, zi 0), (2, zi 9999)], [], (zu m 74 12 0)) _ (And.intro (z_b01L rfl) (hT.1 [] 6 (D + 3) 193 _ _ (And.intro (z_b01L rfl) (hT.1 [] 6 (D + 4) 221 _ _ (And.intro (fun _ => (o6 a2 a5 a9 a12 a16 a18)) (fun a20 => (a20 (z_litT rfl)).elim)))))))) (fun a19 => (hT.1 [] 6 (D + 2) 186 (10, [(0, zi w), (1, zi 0), (2, zi 9999)], [], (zu m 74 12 0)) _ (And.intro (z_b01L rfl) (hT.1 [] 6 (D + 3) 193 _ _ (And.intro (z_b01L rfl) (hT.1 [] 6 (D + 4) 221 _ _ (And.intro (fun a21 => (z_litF a21 rfl).elim) (fun _ => (o7 a2 a5 a9 a12 a16 a19))))))))))))))))))))))))))))))))))))))))))
theorem zb221_0 (hT : zRules T) {D : Nat} {κ : Option zA → zM → Prop} {m : zM} {i : Int} {p : Int} {w : Int}  (hB : zB m) (h_i : (-2147483648) ≤ i ∧ i ≤ 2147483647) (h_p : (-2147483648) ≤ p ∧ p ≤ 2147483647) (h_w : (-2147483648) ≤ w ∧ w ≤ 2147483647) 
    (k1 : i < 0 → zB (zu m 74 12 0) → κ (some (zi (-1))) (zu m 74 12 0))
    (k2 : ¬ i < 0 → ((m 74 4) - 1) < i → zB (zu m 74 12 0) → κ (some (zi (-1))) (zu m 74 12 0))
    (k3 : ¬ i < 0 → ¬ ((m 74 4) - 1) < i → p < 0 → zB (zu m 74 12 0) → κ (some (zi (-1))) (zu m 74 12 0))
    (k4 : ¬ i < 0 → ¬ ((m 74 4) - 1) < i → ¬ p < 0 → 3 < p → zB (zu m 74 12 0) → κ (some (zi (-1))) (zu m 74 12 0))
    (k5 : ¬ i < 0 → ¬ ((m 74 4) - 1) < i → ¬ p < 0 → ¬ 3 < p → w < 0 → zB (zu m 74 12 0) → κ (some (zi (-1))) (zu m 74 12 0))
    (k6 : ¬ i < 0 → ¬ ((m 74 4) - 1) < i → ¬ p < 0 → ¬ 3 < p → ¬ w < 0 → 9999 < w → zB (zu m 74 12 0) → κ (some (zi (-1))) (zu m 74 12 0))
    (k7 : ¬ i < 0 → ¬ ((m 74 4) - 1) < i → ¬ p < 0 → ¬ 3 < p → ¬ w < 0 → ¬ 9999 < w → zB (zu m 74 12 0) → T (D + 3) 215 (0, [(0, zr 74), (1, zi i), (2, zi p), (3, zi w)], [], (zu m 74 12 0)) (fun r m1 => T (D + 4) 221 (34, [(0, zr 74), (1, zi i), (2, zi p), (3, zi w)], r.toList ++ [], m1) κ)) :
    T (D + 4) 221 (0, [(0, zr 74), (1, zi i), (2, zi p), (3, zi w)], [], m) κ := by
  have hb3 : 0 ≤ (m 74 4) ∧ (m 74 4) ≤ 6 := hB 74 4
  have he0 : wr i = i := wr_id (by omega) (by omega)
  have he1 : wr ((m 74 4) - 1) = ((m 74 4) - 1) := wr_id (by omega) (by omega)
  have he2 : wr p = p := wr_id (by omega) (by omega)
  have he3 : wr w = w := wr_id (by omega) (by omega)
  have key := @zb221_0r T hT D κ m i p w
  simp only [he0, he1, he2, he3, Int.toNat_natCast] at key
  exact key
    (fun x0 => k1 x0 (zB_u hB trivial))
    (fun x0 x1 => k2 x0 x1 (zB_u hB trivial))
    (fun x0 x1 x2 => k3 x0 x1 x2 (zB_u hB trivial))
    (fun x0 x1 x2 x3 => k4 x0 x1 x2 x3 (zB_u hB trivial))
    (fun x0 x1 x2 x3 x4 => k5 x0 x1 x2 x3 x4 (zB_u hB trivial))
    (fun x0 x1 x2 x3 x4 x5 => k6 x0 x1 x2 x3 x4 x5 (zB_u hB trivial))
    (fun x0 x1 x2 x3 x4 x5 => k7 x0 x1 x2 x3 x4 x5 (zB_u hB trivial))
theorem zb120_34r (hT : zRules T) {D : Nat} {κ : Option zA → zM → Prop} {m : zM} {v : Int} {lo : zL} (hlo : z_keep [] lo = []) 
    (o1 : κ (some (zi (wr v))) m) :
    T (D + 5) 120 (34, lo, [zi v], m) κ :=
  zkeep hT hlo (hT.1 [] 6 (D + 5) 120 _ κ (o1))
theorem zb120_34 (hT : zRules T) {D : Nat} {κ : Option zA → zM → Prop} {m : zM} {v : Int} {lo : zL} (hlo : z_keep [] lo = [])  (h_v : 0 ≤ v ∧ v ≤ 99) 
    (k1 : κ (some (zi v)) m) :
    T (D + 5) 120 (34, lo, [zi v], m) κ := by
  have he0 : wr v = v := wr_id (by omega) (by omega)
  have key := @zb120_34r T hT D κ m v lo hlo
  simp only [he0, Int.toNat_natCast] at key
  exact key
    k1
theorem zb221_34r (hT : zRules T) {D : Nat} {κ : Option zA → zM → Prop} {m : zM} {v : Int} {lo : zL} (hlo : z_keep [] lo = []) 
    (o1 : κ (some (zi (wr v))) m) :
    T (D + 4) 221 (34, lo, [zi v], m) κ :=
  zkeep hT hlo (hT.1 [] 6 (D + 4) 221 _ κ (o1))
theorem zb221_34 (hT : zRules T) {D : Nat} {κ : Option zA → zM → Prop} {m : zM} {v : Int} {lo : zL} (hlo : z_keep [] lo = [])  (h_v : 0 ≤ v ∧ v ≤ 99) 
    (k1 : κ (some (zi v)) m) :
    T (D + 4) 221 (34, lo, [zi v], m) κ := by
  have he0 : wr v = v := wr_id (by omega) (by omega)
  have key := @zb221_34r T hT D κ m v lo hlo
  simp only [he0, Int.toNat_natCast] at key
  exact key
    k1
theorem zb220_32r (hT : zRules T) {D : Nat} {κ : Option zA → zM → Prop} {m : zM} {v : Int} {lo : zL} (hlo : z_keep [] lo = []) 
    (o1 : κ (some (zi (wr v))) m) :
    T (D + 2) 220 (32, lo, [zi v], m) κ :=
  zkeep hT hlo (hT.1 [] 6 (D + 2) 220 _ κ (o1))
theorem zb220_32 (hT : zRules T) {D : Nat} {κ : Option zA → zM → Prop} {m : zM} {v : Int} {lo : zL} (hlo : z_keep [] lo = [])  (h_v : 0 ≤ v ∧ v ≤ 9) 
    (k1 : κ (some (zi v)) m) :
    T (D + 2) 220 (32, lo, [zi v], m) κ := by
  have he0 : wr v = v := wr_id (by omega) (by omega)
  have key := @zb220_32r T hT D κ m v lo hlo
  simp only [he0, Int.toNat_natCast] at key
  exact key
    k1
theorem zb158_0r (hT : zRules T) {D : Nat} {κ : Option zA → zM → Prop} {m : zM} {s : Int} {p : Int} {n : Int} 
    (o1 : T (D + 1) 5 (0, [(0, zr 4), (1, zi s), (2, zi p), (3, zi n)], [], m) (fun r m1 => T (D + 2) 158 (10, [(0, zr 1), (1, zi s), (2, zi p), (3, zi n)], r.toList ++ [], m1) κ)) :
    T (D + 2) 158 (0, [(0, zr 1), (1, zi s), (2, zi p), (3, zi n)], [], m) κ :=
  hT.1 [] 6 (D + 2) 158 _ κ (o1)
theorem zb158_0 (hT : zRules T) {D : Nat} {κ : Option zA → zM → Prop} {m : zM} {s : Int} {p : Int} {n : Int}  (hB : zB m) (h_s : (-2147483648) ≤ s ∧ s ≤ 2147483647) (h_p : (-2147483648) ≤ p ∧ p ≤ 2147483647) (h_n : (-2147483648) ≤ n ∧ n ≤ 2147483647) 
    (k1 : T (D + 1) 5 (0, [(0, zr 4), (1, zi s), (2, zi p), (3, zi n)], [], m) (fun r m1 => T (D + 2) 158 (10, [(0, zr 1), (1, zi s), (2, zi p), (3, zi n)], r.toList ++ [], m1) κ)) :
    T (D + 2) 158 (0, [(0, zr 1), (1, zi s), (2, zi p), (3, zi n)], [], m) κ := by
  exact zb158_0r hT
    k1
theorem zb158_10r (hT : zRules T) {D : Nat} {κ : Option zA → zM → Prop} {m : zM} {v : Int} {lo : zL} (hlo : z_keep [] lo = []) 
    (o1 : κ (some (zi (wr v))) m) :
    T (D + 2) 158 (10, lo, [zi v], m) κ :=
  zkeep hT hlo (hT.1 [] 6 (D + 2) 158 _ κ (o1))
theorem zb158_10 (hT : zRules T) {D : Nat} {κ : Option zA → zM → Prop} {m : zM} {v : Int} {lo : zL} (hlo : z_keep [] lo = [])  (h_v : (-1) ≤ v ∧ v ≤ 4) 
    (k1 : κ (some (zi v)) m) :
    T (D + 2) 158 (10, lo, [zi v], m) κ := by
  have he0 : wr v = v := wr_id (by omega) (by omega)
  have key := @zb158_10r T hT D κ m v lo hlo
  simp only [he0, Int.toNat_natCast] at key
  exact key
    k1
theorem zb5_0r (hT : zRules T) {D : Nat} {κ : Option zA → zM → Prop} {m : zM} {s : Int} {p : Int} {n : Int} 
    (o1 : wr p < 0 → κ (some (zi (-1))) m)
    (o2 : ¬ wr p < 0 → wr (m 4 4) < wr p → κ (some (zi (-1))) m)
    (o3 : ¬ wr p < 0 → ¬ wr (m 4 4) < wr p → ¬ wr p < 4 → κ (some (zi (-1))) m)
    (o4 : ¬ wr p < 0 → ¬ wr (m 4 4) < wr p → wr p < 4 → wr n < 1 → κ (some (zi (-1))) m)
    (o5 : ¬ wr p < 0 → ¬ wr (m 4 4) < wr p → wr p < 4 → ¬ wr n < 1 → ¬ 26 < wr n → T (D + 1) 5 (36, [(0, zr 4), (2, zi p), (3, zi n), (4, zi s), (5, zi 0)], [], m) κ)
    (o6 : ¬ wr p < 0 → ¬ wr (m 4 4) < wr p → wr p < 4 → ¬ wr n < 1 → 26 < wr n → κ (some (zi (-1))) m) :
    T (D + 1) 5 (0, [(0, zr 4), (1, zi s), (2, zi p), (3, zi n)], [], m) κ :=
  hT.1 [(36, [0, 2, 3, 4, 5])] 6 (D + 1) 5 _ κ (And.intro (fun a1 => (o1 a1)) (fun a2 => (And.intro (fun a3 => (hT.1 [(36, [0, 2, 3, 4, 5])] 6 (D + 1) 5 (28, [(0, zr 4), (1, zi s), (2, zi p), (3, zi n)], [], m) _ (o2 a2 a3))) (fun a4 => (hT.1 [(36, [0, 2, 3, 4, 5])] 6 (D + 1) 5 (12, [(0, zr 4), (1, zi s), (2, zi p), (3, zi n)], [], m) _ (And.intro (fun a5 => (o3 a2 a4 a5)) (fun a6 => (And.intro (fun a7 => (hT.1 [(36, [0, 2, 3, 4, 5])] 6 (D + 1) 5 (28, [(0, zr 4), (1, zi s), (2, zi p), (3, zi n)], [], m) _ (o4 a2 a4 (Classical.byContradiction a6) a7))) (fun a8 => (hT.1 [(36, [0, 2, 3, 4, 5])] 6 (D + 1) 5 (22, [(0, zr 4), (1, zi s), (2, zi p), (3, zi n)], [], m) _ (And.intro (fun a9 => (hT.1 [(36, [0, 2, 3, 4, 5])] 6 (D + 1) 5 (34, [(0, zr 4), (1, zi s), (2, zi p), (3, zi n), (4, zi s)], [zi 0], m) _ (o5 a2 a4 (Classical.byContradiction a6) a8 a9))) (fun a10 => (o6 a2 a4 (Classical.byContradiction a6) a8 (Classical.byContradiction a10))))))))))))))
theorem zb5_0 (hT : zRules T) {D : Nat} {κ : Option zA → zM → Prop} {m : zM} {s : Int} {p : Int} {n : Int}  (hB : zB m) (h_s : (-2147483648) ≤ s ∧ s ≤ 2147483647) (h_p : (-2147483648) ≤ p ∧ p ≤ 2147483647) (h_n : (-2147483648) ≤ n ∧ n ≤ 2147483647) 
    (k1 : p < 0 → κ (some (zi (-1))) m)
    (k2 : ¬ p < 0 → (m 4 4) < p → κ (some (zi (-1))) m)
    (k3 : ¬ p < 0 → ¬ (m 4 4) < p → ¬ p < 4 → κ (some (zi (-1))) m)
    (k4 : ¬ p < 0 → ¬ (m 4 4) < p → p < 4 → n < 1 → κ (some (zi (-1))) m)
    (k5 : ¬ p < 0 → ¬ (m 4 4) < p → p < 4 → ¬ n < 1 → ¬ 26 < n → T (D + 1) 5 (36, [(0, zr 4), (2, zi p), (3, zi n), (4, zi s), (5, zi 0)], [], m) κ)
    (k6 : ¬ p < 0 → ¬ (m 4 4) < p → p < 4 → ¬ n < 1 → 26 < n → κ (some (zi (-1))) m) :
    T (D + 1) 5 (0, [(0, zr 4), (1, zi s), (2, zi p), (3, zi n)], [], m) κ := by
  have hb3 : 0 ≤ (m 4 4) ∧ (m 4 4) ≤ 4 := hB 4 4
  have he0 : wr p = p := wr_id (by omega) (by omega)
  have he1 : wr (m 4 4) = (m 4 4) := wr_id (by omega) (by omega)
  have he2 : wr n = n := wr_id (by omega) (by omega)
  have key := @zb5_0r T hT D κ m s p n
  simp only [he0, he1, he2, Int.toNat_natCast] at key
  exact key
    k1
    k2
    k3
    k4
    k5
    k6
theorem zb286_0r (hT : zRules T) {D : Nat} {κ : Option zA → zM → Prop} {m : zM} {s : Int} {p : Int} {n : Int} 
    (o1 : wr p < 0 → κ (some (zi (-1))) (zu m 74 12 0))
    (o2 : ¬ wr p < 0 → 3 < wr p → κ (some (zi (-1))) (zu m 74 12 0))
    (o3 : ¬ wr p < 0 → ¬ 3 < wr p → wr (m 74 1) < wr p → κ (some (zi (-1))) (zu m 74 12 0))
    (o4 : ¬ wr p < 0 → ¬ 3 < wr p → ¬ wr (m 74 1) < wr p → wr n < 1 → κ (some (zi (-1))) (zu m 74 12 0))
    (o5 : ¬ wr p < 0 → ¬ 3 < wr p → ¬ wr (m 74 1) < wr p → ¬ wr n < 1 → 26 < wr n → κ (some (zi (-1))) (zu m 74 12 0))
    (o6 : ¬ wr p < 0 → ¬ 3 < wr p → ¬ wr (m 74 1) < wr p → ¬ wr n < 1 → ¬ 26 < wr n → T (D + 2) 286 (38, [(0, zr 74), (2, zi p), (3, zi n), (4, zi s), (5, zi 0)], [], (zu m 74 12 0)) κ) :
    T (D + 2) 286 (0, [(0, zr 74), (1, zi s), (2, zi p), (3, zi n)], [], m) κ :=
  hT.1 [(38, [0, 2, 3, 4, 5])] 6 (D + 2) 286 _ κ (And.intro trivial (hT.1 [] 6 (D + 1) 192 _ _ (hT.1 [] 6 D 186 _ _ (And.intro (fun a1 => (And.intro (z_b01L rfl) (hT.1 [] 6 (D + 1) 192 _ _ (And.intro (z_b01L rfl) (hT.1 [(38, [0, 2, 3, 4, 5])] 6 (D + 2) 286 _ _ (And.intro (fun _ => (o1 a1)) (fun a3 => (a3 (z_litT rfl)).elim))))))) (fun a2 => (And.intro (fun a4 => (hT.1 [] 6 D 186 (14, [(0, zi p), (1, zi 0), (2, zi 3)], [], (zu m 74 12 0)) _ (And.intro (z_b01L rfl) (hT.1 [] 6 (D + 1) 192 _ _ (And.intro (z_b01L rfl) (hT.1 [(38, [0, 2, 3, 4, 5])] 6 (D + 2) 286 _ _ (And.intro (fun _ => (o2 a2 a4)) (fun a6 => (a6 (z_litT rfl)).elim)))))))) (fun a5 => (hT.1 [] 6 D 186 (10, [(0, zi p), (1, zi 0), (2, zi 3)], [], (zu m 74 12 0)) _ (And.intro (z_b01L rfl) (hT.1 [] 6 (D + 1) 192 _ _ (And.intro (z_b01L rfl) (hT.1 [(38, [0, 2, 3, 4, 5])] 6 (D + 2) 286 _ _ (And.intro (fun a7 => (z_litF a7 rfl).elim) (fun _ => (And.intro (fun a8 => (hT.1 [(38, [0, 2, 3, 4, 5])] 6 (D + 2) 286 (31, [(0, zr 74), (1, zi s), (2, zi p), (3, zi n)], [zi (-1)], (zu m 74 12 0)) _ (o3 a2 a5 a8))) (fun a9 => (hT.1 [(38, [0, 2, 3, 4, 5])] 6 (D + 2) 286 (21, [(0, zr 74), (1, zi s), (2, zi p), (3, zi n)], [zi n], (zu m 74 12 0)) _ (hT.1 [] 6 (D + 1) 186 _ _ (And.intro (fun a10 => (And.intro (z_b01L rfl) (hT.1 [(38, [0, 2, 3, 4, 5])] 6 (D + 2) 286 _ _ (And.intro (fun a12 => (z_litF a12 rfl).elim) (fun _ => (o4 a2 a5 a9 a10)))))) (fun a11 => (And.intro (fun a13 => (hT.1 [] 6 (D + 1) 186 (14, [(0, zi n), (1, zi 1), (2, zi 26)], [], (zu m 74 12 0)) _ (And.intro (z_b01L rfl) (hT.1 [(38, [0, 2, 3, 4, 5])] 6 (D + 2) 286 _ _ (And.intro (fun a15 => (z_litF a15 rfl).elim) (fun _ => (o5 a2 a5 a9 a11 a13))))))) (fun a14 => (hT.1 [] 6 (D + 1) 186 (10, [(0, zi n), (1, zi 1), (2, zi 26)], [], (zu m 74 12 0)) _ (And.intro (z_b01L rfl) (hT.1 [(38, [0, 2, 3, 4, 5])] 6 (D + 2) 286 _ _ (And.intro (fun _ => (o6 a2 a5 a9 a11 a14)) (fun a16 => (a16 (z_litT rfl)).elim)))))))))))))))))))))))))))
theorem zb286_0 (hT : zRules T) {D : Nat} {κ : Option zA → zM → Prop} {m : zM} {s : Int} {p : Int} {n : Int}  (hB : zB m) (h_s : (-2147483648) ≤ s ∧ s ≤ 2147483647) (h_p : (-2147483648) ≤ p ∧ p ≤ 2147483647) (h_n : (-2147483648) ≤ n ∧ n ≤ 2147483647) 
    (k1 : p < 0 → zB (zu m 74 12 0) → κ (some (zi (-1))) (zu m 74 12 0))
    (k2 : ¬ p < 0 → 3 < p → zB (zu m 74 12 0) → κ (some (zi (-1))) (zu m 74 12 0))
    (k3 : ¬ p < 0 → ¬ 3 < p → (m 74 1) < p → zB (zu m 74 12 0) → κ (some (zi (-1))) (zu m 74 12 0))
    (k4 : ¬ p < 0 → ¬ 3 < p → ¬ (m 74 1) < p → n < 1 → zB (zu m 74 12 0) → κ (some (zi (-1))) (zu m 74 12 0))
    (k5 : ¬ p < 0 → ¬ 3 < p → ¬ (m 74 1) < p → ¬ n < 1 → 26 < n → zB (zu m 74 12 0) → κ (some (zi (-1))) (zu m 74 12 0))
    (k6 : ¬ p < 0 → ¬ 3 < p → ¬ (m 74 1) < p → ¬ n < 1 → ¬ 26 < n → zB (zu m 74 12 0) → T (D + 2) 286 (38, [(0, zr 74), (2, zi p), (3, zi n), (4, zi s), (5, zi 0)], [], (zu m 74 12 0)) κ) :
    T (D + 2) 286 (0, [(0, zr 74), (1, zi s), (2, zi p), (3, zi n)], [], m) κ := by
  have hb3 : 0 ≤ (m 74 1) ∧ (m 74 1) ≤ 4 := hB 74 1
  have he0 : wr p = p := wr_id (by omega) (by omega)
  have he1 : wr (m 74 1) = (m 74 1) := wr_id (by omega) (by omega)
  have he2 : wr n = n := wr_id (by omega) (by omega)
  have key := @zb286_0r T hT D κ m s p n
  simp only [he0, he1, he2, Int.toNat_natCast] at key
  exact key
    (fun x0 => k1 x0 (zB_u hB trivial))
    (fun x0 x1 => k2 x0 x1 (zB_u hB trivial))
    (fun x0 x1 x2 => k3 x0 x1 x2 (zB_u hB trivial))
    (fun x0 x1 x2 x3 => k4 x0 x1 x2 x3 (zB_u hB trivial))
    (fun x0 x1 x2 x3 x4 => k5 x0 x1 x2 x3 x4 (zB_u hB trivial))
    (fun x0 x1 x2 x3 x4 => k6 x0 x1 x2 x3 x4 (zB_u hB trivial))
end ZBlocks
end
-- 60b.b7b.lean.txt
section
section ZBlocks
variable {T : Nat → Nat → zG → (Option zA → zM → Prop) → Prop}
theorem zb5_36r (hT : zRules T) {D : Nat} {κ : Option zA → zM → Prop} {m : zM} {p : Nat} {n : Nat} {r : Int} {k : Nat} {lo : zL} (hlo : z_keep [0, 2, 3, 4, 5] lo = [(0, zr 4), (2, zi (p : Int)), (3, zi (n : Int)), (4, zi r), (5, zi (k : Int))]) 
    (o1 : ¬ wr (k : Int) < wr (n : Int) → (0 ≤ wr (p : Int) ∧ wr (p : Int) < 4))
    (o2 : ¬ wr (k : Int) < wr (n : Int) → wr (m 4 4) < wr ((p : Int) + 1) → κ (some (zi (wr ((zu (zu m 6 ((wr (p : Int)).toNat) (n : Int)) 4 4 (wr ((p : Int) + 1))) 4 4)))) (zu (zu m 6 ((wr (p : Int)).toNat) (n : Int)) 4 4 (wr ((p : Int) + 1))))
    (o3 : ¬ wr (k : Int) < wr (n : Int) → ¬ wr (m 4 4) < wr ((p : Int) + 1) → κ (some (zi (wr ((zu (zu m 6 ((wr (p : Int)).toNat) (n : Int)) 4 4 (wr (m 4 4))) 4 4)))) (zu (zu m 6 ((wr (p : Int)).toNat) (n : Int)) 4 4 (wr (m 4 4))))
    (o4 : wr (k : Int) < wr (n : Int) → T (D + 1) 5 (42, [(0, zr 4), (2, zi (p : Int)), (3, zi (n : Int)), (4, zi r), (5, zi (k : Int))], [], m) κ) :
    T (D + 1) 5 (36, lo, [], m) κ :=
  zkeep hT hlo (hT.1 [(36, [0, 2, 3, 4, 5]), (42, [0, 2, 3, 4, 5])] 6 (D + 1) 5 _ κ (And.intro (fun a1 => (hT.1 [(36, [0, 2, 3, 4, 5]), (42, [0, 2, 3, 4, 5])] 6 (D + 1) 5 (84, [(0, zr 4), (2, zi (p : Int)), (3, zi (n : Int)), (4, zi r), (5, zi (k : Int))], [zi (p : Int), zr 6], m) _ (And.intro (And.intro (o1 a1) trivial) (hT.1 [(36, [0, 2, 3, 4, 5]), (42, [0, 2, 3, 4, 5])] 6 (D + 1) 5 (92, [(0, zr 4), (2, zi (p : Int)), (3, zi (n : Int)), (4, zi r), (5, zi (k : Int))], [zi (p : Int), zi (m 4 4), zr 4], (zu m 6 ((wr (p : Int)).toNat) (n : Int))) _ (hT.1 [] 6 D 295 _ _ (And.intro (fun a3 => (hT.1 [(36, [0, 2, 3, 4, 5]), (42, [0, 2, 3, 4, 5])] 6 (D + 1) 5 _ _ (And.intro trivial (o2 a1 a3)))) (fun a4 => (hT.1 [(36, [0, 2, 3, 4, 5]), (42, [0, 2, 3, 4, 5])] 6 (D + 1) 5 _ _ (And.intro trivial (o3 a1 a4)))))))))) (fun a2 => (o4 (Classical.byContradiction a2)))))
theorem zb5_36 (hT : zRules T) {D : Nat} {κ : Option zA → zM → Prop} {m : zM} {p : Nat} {n : Nat} {r : Int} {k : Nat} {lo : zL} (hlo : z_keep [0, 2, 3, 4, 5] lo = [(0, zr 4), (2, zi (p : Int)), (3, zi (n : Int)), (4, zi r), (5, zi (k : Int))])  (hB : zB m) (h_p : p ≤ 3) (h_n : n ≤ 26) (h_k : k ≤ 26) 
    (k1 : ¬ (k : Int) < (n : Int) → (m 4 4) < ((p : Int) + 1) → zB (zu (zu m 6 p (n : Int)) 4 4 ((p : Int) + 1)) → κ (some (zi ((p : Int) + 1))) (zu (zu m 6 p (n : Int)) 4 4 ((p : Int) + 1)))
    (k2 : ¬ (k : Int) < (n : Int) → ¬ (m 4 4) < ((p : Int) + 1) → zB (zu (zu m 6 p (n : Int)) 4 4 (m 4 4)) → κ (some (zi (m 4 4))) (zu (zu m 6 p (n : Int)) 4 4 (m 4 4)))
    (k3 : (k : Int) < (n : Int) → T (D + 1) 5 (42, [(0, zr 4), (2, zi (p : Int)), (3, zi (n : Int)), (4, zi r), (5, zi (k : Int))], [], m) κ) :
    T (D + 1) 5 (36, lo, [], m) κ := by
  have hb3 : 0 ≤ (m 4 4) ∧ (m 4 4) ≤ 4 := hB 4 4
  have he0 : wr (k : Int) = (k : Int) := wr_id (by omega) (by omega)
  have he1 : wr (n : Int) = (n : Int) := wr_id (by omega) (by omega)
  have he2 : wr (p : Int) = (p : Int) := wr_id (by omega) (by omega)
  have he3 : (p : Int).toNat = p := by omega
  have he4 : wr (m 4 4) = (m 4 4) := wr_id (by omega) (by omega)
  have he5 : wr ((p : Int) + 1) = ((p : Int) + 1) := wr_id (by omega) (by omega)
  have he6 : ((zu (zu m 6 p (n : Int)) 4 4 ((p : Int) + 1)) 4 4) = ((p : Int) + 1) := (zu_sm rfl)
  have he7 : ((zu (zu m 6 p (n : Int)) 4 4 (m 4 4)) 4 4) = (m 4 4) := (zu_sm rfl)
  have key := @zb5_36r T hT D κ m p n r k lo hlo
  simp only [he0, he1, he2, he3, he4, he5, he6, he7, Int.toNat_natCast] at key
  exact key
    (fun x0 => by refine ⟨?_, ?_⟩ <;> omega)
    (fun x0 x1 => k1 x0 x1 (zB_u (zB_u hB (show 0 ≤ (n : Int) ∧ (n : Int) ≤ 26 from ⟨by omega, by omega⟩)) (show 0 ≤ ((p : Int) + 1) ∧ ((p : Int) + 1) ≤ 4 from ⟨by omega, by omega⟩)))
    (fun x0 x1 => k2 x0 x1 (zB_u (zB_u hB (show 0 ≤ (n : Int) ∧ (n : Int) ≤ 26 from ⟨by omega, by omega⟩)) (show 0 ≤ (m 4 4) ∧ (m 4 4) ≤ 4 from ⟨by omega, by omega⟩)))
    k3
theorem zb286_38r (hT : zRules T) {D : Nat} {κ : Option zA → zM → Prop} {m : zM} {p : Nat} {n : Nat} {r : Int} {k : Nat} {lo : zL} (hlo : z_keep [0, 2, 3, 4, 5] lo = [(0, zr 74), (2, zi (p : Int)), (3, zi (n : Int)), (4, zi r), (5, zi (k : Int))]) 
    (o1 : ¬ wr (k : Int) < wr (n : Int) → (0 ≤ wr (p : Int) ∧ wr (p : Int) < 4))
    (o2 : ¬ wr (k : Int) < wr (n : Int) → wr (m 74 1) < wr ((p : Int) + 1) → κ (some (zi (wr ((zu (zu m 77 ((wr (p : Int)).toNat) (n : Int)) 74 1 (wr ((p : Int) + 1))) 74 1)))) (zu (zu m 77 ((wr (p : Int)).toNat) (n : Int)) 74 1 (wr ((p : Int) + 1))))
    (o3 : ¬ wr (k : Int) < wr (n : Int) → ¬ wr (m 74 1) < wr ((p : Int) + 1) → κ (some (zi (wr ((zu (zu m 77 ((wr (p : Int)).toNat) (n : Int)) 74 1 (wr (m 74 1))) 74 1)))) (zu (zu m 77 ((wr (p : Int)).toNat) (n : Int)) 74 1 (wr (m 74 1))))
    (o4 : wr (k : Int) < wr (n : Int) → T (D + 2) 286 (44, [(0, zr 74), (2, zi (p : Int)), (3, zi (n : Int)), (4, zi r), (5, zi (k : Int))], [], m) κ) :
    T (D + 2) 286 (38, lo, [], m) κ :=
  zkeep hT hlo (hT.1 [(38, [0, 2, 3, 4, 5]), (44, [0, 2, 3, 4, 5])] 6 (D + 2) 286 _ κ (And.intro (fun a1 => (hT.1 [(38, [0, 2, 3, 4, 5]), (44, [0, 2, 3, 4, 5])] 6 (D + 2) 286 (87, [(0, zr 74), (2, zi (p : Int)), (3, zi (n : Int)), (4, zi r), (5, zi (k : Int))], [zi (p : Int), zr 77], m) _ (And.intro (And.intro (o1 a1) trivial) (hT.1 [(38, [0, 2, 3, 4, 5]), (44, [0, 2, 3, 4, 5])] 6 (D + 2) 286 (95, [(0, zr 74), (2, zi (p : Int)), (3, zi (n : Int)), (4, zi r), (5, zi (k : Int))], [zi (p : Int), zi (m 74 1), zr 74], (zu m 77 ((wr (p : Int)).toNat) (n : Int))) _ (hT.1 [] 6 (D + 1) 295 _ _ (And.intro (fun a3 => (hT.1 [(38, [0, 2, 3, 4, 5]), (44, [0, 2, 3, 4, 5])] 6 (D + 2) 286 _ _ (And.intro trivial (o2 a1 a3)))) (fun a4 => (hT.1 [(38, [0, 2, 3, 4, 5]), (44, [0, 2, 3, 4, 5])] 6 (D + 2) 286 _ _ (And.intro trivial (o3 a1 a4)))))))))) (fun a2 => (o4 (Classical.byContradiction a2)))))
theorem zb286_38 (hT : zRules T) {D : Nat} {κ : Option zA → zM → Prop} {m : zM} {p : Nat} {n : Nat} {r : Int} {k : Nat} {lo : zL} (hlo : z_keep [0, 2, 3, 4, 5] lo = [(0, zr 74), (2, zi (p : Int)), (3, zi (n : Int)), (4, zi r), (5, zi (k : Int))])  (hB : zB m) (h_p : p ≤ 3) (h_n : n ≤ 26) (h_k : k ≤ 26) 
    (k1 : ¬ (k : Int) < (n : Int) → (m 74 1) < ((p : Int) + 1) → zB (zu (zu m 77 p (n : Int)) 74 1 ((p : Int) + 1)) → κ (some (zi ((p : Int) + 1))) (zu (zu m 77 p (n : Int)) 74 1 ((p : Int) + 1)))
    (k2 : ¬ (k : Int) < (n : Int) → ¬ (m 74 1) < ((p : Int) + 1) → zB (zu (zu m 77 p (n : Int)) 74 1 (m 74 1)) → κ (some (zi (m 74 1))) (zu (zu m 77 p (n : Int)) 74 1 (m 74 1)))
    (k3 : (k : Int) < (n : Int) → T (D + 2) 286 (44, [(0, zr 74), (2, zi (p : Int)), (3, zi (n : Int)), (4, zi r), (5, zi (k : Int))], [], m) κ) :
    T (D + 2) 286 (38, lo, [], m) κ := by
  have hb3 : 0 ≤ (m 74 1) ∧ (m 74 1) ≤ 4 := hB 74 1
  have he0 : wr (k : Int) = (k : Int) := wr_id (by omega) (by omega)
  have he1 : wr (n : Int) = (n : Int) := wr_id (by omega) (by omega)
  have he2 : wr (p : Int) = (p : Int) := wr_id (by omega) (by omega)
  have he3 : (p : Int).toNat = p := by omega
  have he4 : wr (m 74 1) = (m 74 1) := wr_id (by omega) (by omega)
  have he5 : wr ((p : Int) + 1) = ((p : Int) + 1) := wr_id (by omega) (by omega)
  have he6 : ((zu (zu m 77 p (n : Int)) 74 1 ((p : Int) + 1)) 74 1) = ((p : Int) + 1) := (zu_sm rfl)
  have he7 : ((zu (zu m 77 p (n : Int)) 74 1 (m 74 1)) 74 1) = (m 74 1) := (zu_sm rfl)
  have key := @zb286_38r T hT D κ m p n r k lo hlo
  simp only [he0, he1, he2, he3, he4, he5, he6, he7, Int.toNat_natCast] at key
  exact key
    (fun x0 => by refine ⟨?_, ?_⟩ <;> omega)
    (fun x0 x1 => k1 x0 x1 (zB_u (zB_u hB (show 0 ≤ (n : Int) ∧ (n : Int) ≤ 26 from ⟨by omega, by omega⟩)) (show 0 ≤ ((p : Int) + 1) ∧ ((p : Int) + 1) ≤ 4 from ⟨by omega, by omega⟩)))
    (fun x0 x1 => k2 x0 x1 (zB_u (zB_u hB (show 0 ≤ (n : Int) ∧ (n : Int) ≤ 26 from ⟨by omega, by omega⟩)) (show 0 ≤ (m 74 1) ∧ (m 74 1) ≤ 4 from ⟨by omega, by omega⟩)))
    k3
theorem zt5_42 (hT : zRules T) {D : Nat} {κ : Option zA → zM → Prop} {m : zM} {p : Nat} {n : Nat} {r : Int} {k : Nat} (h : T (D + 1) 5 (44, [(0, zr 4), (2, zi (p : Int)), (3, zi (n : Int)), (4, zi r), (5, zi (k : Int))], [zi r], m) κ) :
    T (D + 1) 5 (42, [(0, zr 4), (2, zi (p : Int)), (3, zi (n : Int)), (4, zi r), (5, zi (k : Int))], [], m) κ :=
  hT.1 [(36, [0, 2, 3, 4, 5])] 1 (D + 1) 5 _ κ h
theorem zt5_44 (hT : zRules T) {D : Nat} {κ : Option zA → zM → Prop} {m : zM} {p : Nat} {n : Nat} {r : Int} {k : Nat} (h : T (D + 1) 5 (46, [(0, zr 4), (2, zi (p : Int)), (3, zi (n : Int)), (4, zi r), (5, zi (k : Int))], [zi 1103515245, zi r], m) κ) :
    T (D + 1) 5 (44, [(0, zr 4), (2, zi (p : Int)), (3, zi (n : Int)), (4, zi r), (5, zi (k : Int))], [zi r], m) κ :=
  hT.1 [(36, [0, 2, 3, 4, 5])] 1 (D + 1) 5 _ κ h
theorem zt5_46 (hT : zRules T) {D : Nat} {κ : Option zA → zM → Prop} {m : zM} {p : Nat} {n : Nat} {r : Int} {k : Nat} (h : T (D + 1) 5 (47, [(0, zr 4), (2, zi (p : Int)), (3, zi (n : Int)), (4, zi r), (5, zi (k : Int))], [zi (r * 1103515245)], m) κ) :
    T (D + 1) 5 (46, [(0, zr 4), (2, zi (p : Int)), (3, zi (n : Int)), (4, zi r), (5, zi (k : Int))], [zi 1103515245, zi r], m) κ :=
  hT.1 [(36, [0, 2, 3, 4, 5])] 1 (D + 1) 5 _ κ h
theorem zt5_47 (hT : zRules T) {D : Nat} {κ : Option zA → zM → Prop} {m : zM} {p : Nat} {n : Nat} {r : Int} {k : Nat} (h : T (D + 1) 5 (50, [(0, zr 4), (2, zi (p : Int)), (3, zi (n : Int)), (4, zi r), (5, zi (k : Int))], [zi 12345, zi (r * 1103515245)], m) κ) :
    T (D + 1) 5 (47, [(0, zr 4), (2, zi (p : Int)), (3, zi (n : Int)), (4, zi r), (5, zi (k : Int))], [zi (r * 1103515245)], m) κ :=
  hT.1 [(36, [0, 2, 3, 4, 5])] 1 (D + 1) 5 _ κ h
theorem zt5_50 (hT : zRules T) {D : Nat} {κ : Option zA → zM → Prop} {m : zM} {p : Nat} {n : Nat} {r : Int} {k : Nat} (h : T (D + 1) 5 (51, [(0, zr 4), (2, zi (p : Int)), (3, zi (n : Int)), (4, zi r), (5, zi (k : Int))], [zi ((r * 1103515245) + 12345)], m) κ) :
    T (D + 1) 5 (50, [(0, zr 4), (2, zi (p : Int)), (3, zi (n : Int)), (4, zi r), (5, zi (k : Int))], [zi 12345, zi (r * 1103515245)], m) κ :=
  hT.1 [(36, [0, 2, 3, 4, 5])] 1 (D + 1) 5 _ κ h
theorem zt5_51 (hT : zRules T) {D : Nat} {κ : Option zA → zM → Prop} {m : zM} {p : Nat} {n : Nat} {r : Int} {k : Nat} (h : T (D + 1) 5 (53, [(0, zr 4), (2, zi (p : Int)), (3, zi (n : Int)), (4, zi ((r * 1103515245) + 12345)), (5, zi (k : Int))], [], m) κ) :
    T (D + 1) 5 (51, [(0, zr 4), (2, zi (p : Int)), (3, zi (n : Int)), (4, zi r), (5, zi (k : Int))], [zi ((r * 1103515245) + 12345)], m) κ :=
  hT.1 [(36, [0, 2, 3, 4, 5])] 1 (D + 1) 5 _ κ h
theorem zt5_53 (hT : zRules T) {D : Nat} {κ : Option zA → zM → Prop} {m : zM} {p : Nat} {n : Nat} {r : Int} {k : Nat} (h : T (D + 1) 5 (54, [(0, zr 4), (2, zi (p : Int)), (3, zi (n : Int)), (4, zi ((r * 1103515245) + 12345)), (5, zi (k : Int))], [zr 4], m) κ) :
    T (D + 1) 5 (53, [(0, zr 4), (2, zi (p : Int)), (3, zi (n : Int)), (4, zi ((r * 1103515245) + 12345)), (5, zi (k : Int))], [], m) κ :=
  hT.1 [(36, [0, 2, 3, 4, 5])] 1 (D + 1) 5 _ κ h
theorem zt5_54 (hT : zRules T) {D : Nat} {κ : Option zA → zM → Prop} {m : zM} {p : Nat} {n : Nat} {r : Int} {k : Nat} (h : T (D + 1) 5 (57, [(0, zr 4), (2, zi (p : Int)), (3, zi (n : Int)), (4, zi ((r * 1103515245) + 12345)), (5, zi (k : Int))], [zr 5], m) κ) :
    T (D + 1) 5 (54, [(0, zr 4), (2, zi (p : Int)), (3, zi (n : Int)), (4, zi ((r * 1103515245) + 12345)), (5, zi (k : Int))], [zr 4], m) κ :=
  hT.1 [(36, [0, 2, 3, 4, 5])] 1 (D + 1) 5 _ κ h
theorem zt5_57 (hT : zRules T) {D : Nat} {κ : Option zA → zM → Prop} {m : zM} {p : Nat} {n : Nat} {r : Int} {k : Nat} (h : T (D + 1) 5 (58, [(0, zr 4), (2, zi (p : Int)), (3, zi (n : Int)), (4, zi ((r * 1103515245) + 12345)), (5, zi (k : Int))], [zi (p : Int), zr 5], m) κ) :
    T (D + 1) 5 (57, [(0, zr 4), (2, zi (p : Int)), (3, zi (n : Int)), (4, zi ((r * 1103515245) + 12345)), (5, zi (k : Int))], [zr 5], m) κ :=
  hT.1 [(36, [0, 2, 3, 4, 5])] 1 (D + 1) 5 _ κ h
theorem zt5_58 (hT : zRules T) {D : Nat} {κ : Option zA → zM → Prop} {m : zM} {p : Nat} {n : Nat} {r : Int} {k : Nat} (h : T (D + 1) 5 (60, [(0, zr 4), (2, zi (p : Int)), (3, zi (n : Int)), (4, zi ((r * 1103515245) + 12345)), (5, zi (k : Int))], [zi 26, zi (p : Int), zr 5], m) κ) :
    T (D + 1) 5 (58, [(0, zr 4), (2, zi (p : Int)), (3, zi (n : Int)), (4, zi ((r * 1103515245) + 12345)), (5, zi (k : Int))], [zi (p : Int), zr 5], m) κ :=
  hT.1 [(36, [0, 2, 3, 4, 5])] 1 (D + 1) 5 _ κ h
theorem zt5_60 (hT : zRules T) {D : Nat} {κ : Option zA → zM → Prop} {m : zM} {p : Nat} {n : Nat} {r : Int} {k : Nat} (h : T (D + 1) 5 (61, [(0, zr 4), (2, zi (p : Int)), (3, zi (n : Int)), (4, zi ((r * 1103515245) + 12345)), (5, zi (k : Int))], [zi ((p : Int) * 26), zr 5], m) κ) :
    T (D + 1) 5 (60, [(0, zr 4), (2, zi (p : Int)), (3, zi (n : Int)), (4, zi ((r * 1103515245) + 12345)), (5, zi (k : Int))], [zi 26, zi (p : Int), zr 5], m) κ :=
  hT.1 [(36, [0, 2, 3, 4, 5])] 1 (D + 1) 5 _ κ h
theorem zt5_61 (hT : zRules T) {D : Nat} {κ : Option zA → zM → Prop} {m : zM} {p : Nat} {n : Nat} {r : Int} {k : Nat} (h : T (D + 1) 5 (63, [(0, zr 4), (2, zi (p : Int)), (3, zi (n : Int)), (4, zi ((r * 1103515245) + 12345)), (5, zi (k : Int))], [zi (k : Int), zi ((p : Int) * 26), zr 5], m) κ) :
    T (D + 1) 5 (61, [(0, zr 4), (2, zi (p : Int)), (3, zi (n : Int)), (4, zi ((r * 1103515245) + 12345)), (5, zi (k : Int))], [zi ((p : Int) * 26), zr 5], m) κ :=
  hT.1 [(36, [0, 2, 3, 4, 5])] 1 (D + 1) 5 _ κ h
theorem zt5_63 (hT : zRules T) {D : Nat} {κ : Option zA → zM → Prop} {m : zM} {p : Nat} {n : Nat} {r : Int} {k : Nat} (h : T (D + 1) 5 (64, [(0, zr 4), (2, zi (p : Int)), (3, zi (n : Int)), (4, zi ((r * 1103515245) + 12345)), (5, zi (k : Int))], [zi (((p : Int) * 26) + (k : Int)), zr 5], m) κ) :
    T (D + 1) 5 (63, [(0, zr 4), (2, zi (p : Int)), (3, zi (n : Int)), (4, zi ((r * 1103515245) + 12345)), (5, zi (k : Int))], [zi (k : Int), zi ((p : Int) * 26), zr 5], m) κ :=
  hT.1 [(36, [0, 2, 3, 4, 5])] 1 (D + 1) 5 _ κ h
theorem zt5_64 (hT : zRules T) {D : Nat} {κ : Option zA → zM → Prop} {m : zM} {p : Nat} {n : Nat} {r : Int} {k : Nat} (h : T (D + 1) 5 (66, [(0, zr 4), (2, zi (p : Int)), (3, zi (n : Int)), (4, zi ((r * 1103515245) + 12345)), (5, zi (k : Int))], [zi ((r * 1103515245) + 12345), zi (((p : Int) * 26) + (k : Int)), zr 5], m) κ) :
    T (D + 1) 5 (64, [(0, zr 4), (2, zi (p : Int)), (3, zi (n : Int)), (4, zi ((r * 1103515245) + 12345)), (5, zi (k : Int))], [zi (((p : Int) * 26) + (k : Int)), zr 5], m) κ :=
  hT.1 [(36, [0, 2, 3, 4, 5])] 1 (D + 1) 5 _ κ h
theorem zt5_66 (hT : zRules T) {D : Nat} {κ : Option zA → zM → Prop} {m : zM} {p : Nat} {n : Nat} {r : Int} {k : Nat} (h : T (D + 1) 5 (68, [(0, zr 4), (2, zi (p : Int)), (3, zi (n : Int)), (4, zi ((r * 1103515245) + 12345)), (5, zi (k : Int))], [zi 16, zi ((r * 1103515245) + 12345), zi (((p : Int) * 26) + (k : Int)), zr 5], m) κ) :
    T (D + 1) 5 (66, [(0, zr 4), (2, zi (p : Int)), (3, zi (n : Int)), (4, zi ((r * 1103515245) + 12345)), (5, zi (k : Int))], [zi ((r * 1103515245) + 12345), zi (((p : Int) * 26) + (k : Int)), zr 5], m) κ :=
  hT.1 [(36, [0, 2, 3, 4, 5])] 1 (D + 1) 5 _ κ h
theorem zt5_68 (hT : zRules T) {D : Nat} {κ : Option zA → zM → Prop} {m : zM} {p : Nat} {n : Nat} {r : Int} {k : Nat} (h : T (D + 1) 5 (69, [(0, zr 4), (2, zi (p : Int)), (3, zi (n : Int)), (4, zi ((r * 1103515245) + 12345)), (5, zi (k : Int))], [zi (z_ush ((r * 1103515245) + 12345) 16), zi (((p : Int) * 26) + (k : Int)), zr 5], m) κ) :
    T (D + 1) 5 (68, [(0, zr 4), (2, zi (p : Int)), (3, zi (n : Int)), (4, zi ((r * 1103515245) + 12345)), (5, zi (k : Int))], [zi 16, zi ((r * 1103515245) + 12345), zi (((p : Int) * 26) + (k : Int)), zr 5], m) κ :=
  hT.1 [(36, [0, 2, 3, 4, 5])] 1 (D + 1) 5 _ κ h
theorem zt5_69 (hT : zRules T) {D : Nat} {κ : Option zA → zM → Prop} {m : zM} {p : Nat} {n : Nat} {r : Int} {k : Nat} (h : T (D + 1) 5 (71, [(0, zr 4), (2, zi (p : Int)), (3, zi (n : Int)), (4, zi ((r * 1103515245) + 12345)), (5, zi (k : Int))], [zi 10, zi (z_ush ((r * 1103515245) + 12345) 16), zi (((p : Int) * 26) + (k : Int)), zr 5], m) κ) :
    T (D + 1) 5 (69, [(0, zr 4), (2, zi (p : Int)), (3, zi (n : Int)), (4, zi ((r * 1103515245) + 12345)), (5, zi (k : Int))], [zi (z_ush ((r * 1103515245) + 12345) 16), zi (((p : Int) * 26) + (k : Int)), zr 5], m) κ :=
  hT.1 [(36, [0, 2, 3, 4, 5])] 1 (D + 1) 5 _ κ h
theorem zt5_71 (hT : zRules T) {D : Nat} {κ : Option zA → zM → Prop} {m : zM} {p : Nat} {n : Nat} {r : Int} {k : Nat} (h : T (D + 1) 5 (72, [(0, zr 4), (2, zi (p : Int)), (3, zi (n : Int)), (4, zi ((r * 1103515245) + 12345)), (5, zi (k : Int))], [zi (Int.tmod (wr (z_ush ((r * 1103515245) + 12345) 16)) 10), zi (((p : Int) * 26) + (k : Int)), zr 5], m) κ) :
    T (D + 1) 5 (71, [(0, zr 4), (2, zi (p : Int)), (3, zi (n : Int)), (4, zi ((r * 1103515245) + 12345)), (5, zi (k : Int))], [zi 10, zi (z_ush ((r * 1103515245) + 12345) 16), zi (((p : Int) * 26) + (k : Int)), zr 5], m) κ :=
  hT.1 [(36, [0, 2, 3, 4, 5])] 1 (D + 1) 5 _ κ (And.intro (z_neL rfl) h)
theorem zt5_72 (hT : zRules T) {D : Nat} {κ : Option zA → zM → Prop} {m : zM} {p : Nat} {n : Nat} {r : Int} {k : Nat} (o : (0 ≤ wr (((p : Int) * 26) + (k : Int)) ∧ wr (((p : Int) * 26) + (k : Int)) < 104)) (h : T (D + 1) 5 (73, [(0, zr 4), (2, zi (p : Int)), (3, zi (n : Int)), (4, zi ((r * 1103515245) + 12345)), (5, zi (k : Int))], [], (zu m 5 ((wr (((p : Int) * 26) + (k : Int))).toNat) (Int.tmod (wr (z_ush ((r * 1103515245) + 12345) 16)) 10))) κ) :
    T (D + 1) 5 (72, [(0, zr 4), (2, zi (p : Int)), (3, zi (n : Int)), (4, zi ((r * 1103515245) + 12345)), (5, zi (k : Int))], [zi (Int.tmod (wr (z_ush ((r * 1103515245) + 12345) 16)) 10), zi (((p : Int) * 26) + (k : Int)), zr 5], m) κ :=
  hT.1 [(36, [0, 2, 3, 4, 5])] 1 (D + 1) 5 _ κ (And.intro (And.intro o trivial) h)
theorem zt5_73 (hT : zRules T) {D : Nat} {κ : Option zA → zM → Prop} {m : zM} {p : Nat} {n : Nat} {r : Int} {k : Nat} (h : T (D + 1) 5 (76, [(0, zr 4), (2, zi (p : Int)), (3, zi (n : Int)), (4, zi ((r * 1103515245) + 12345)), (5, zi ((k : Int) + 1))], [], (zu m 5 ((wr (((p : Int) * 26) + (k : Int))).toNat) (Int.tmod (wr (z_ush ((r * 1103515245) + 12345) 16)) 10))) κ) :
    T (D + 1) 5 (73, [(0, zr 4), (2, zi (p : Int)), (3, zi (n : Int)), (4, zi ((r * 1103515245) + 12345)), (5, zi (k : Int))], [], (zu m 5 ((wr (((p : Int) * 26) + (k : Int))).toNat) (Int.tmod (wr (z_ush ((r * 1103515245) + 12345) 16)) 10))) κ :=
  hT.1 [(36, [0, 2, 3, 4, 5])] 1 (D + 1) 5 _ κ h
theorem zt5_76 (hT : zRules T) {D : Nat} {κ : Option zA → zM → Prop} {m : zM} {p : Nat} {n : Nat} {r : Int} {k : Nat} (h : T (D + 1) 5 (36, [(0, zr 4), (2, zi (p : Int)), (3, zi (n : Int)), (4, zi ((r * 1103515245) + 12345)), (5, zi ((k : Int) + 1))], [], (zu m 5 ((wr (((p : Int) * 26) + (k : Int))).toNat) (Int.tmod (wr (z_ush ((r * 1103515245) + 12345) 16)) 10))) κ) :
    T (D + 1) 5 (76, [(0, zr 4), (2, zi (p : Int)), (3, zi (n : Int)), (4, zi ((r * 1103515245) + 12345)), (5, zi ((k : Int) + 1))], [], (zu m 5 ((wr (((p : Int) * 26) + (k : Int))).toNat) (Int.tmod (wr (z_ush ((r * 1103515245) + 12345) 16)) 10))) κ :=
  hT.1 [(36, [0, 2, 3, 4, 5])] 1 (D + 1) 5 _ κ h
theorem zd5 (hT : zRules T) {D : Nat} {κ : Option zA → zM → Prop} {m : zM} {p : Nat} {n : Nat} {r : Int} {k : Nat} (hp : p ≤ 3) (hk : k < 26) (h : T (D + 1) 5 (36, [(0, zr 4), (2, zi (p : Int)), (3, zi (n : Int)), (4, zi ((r * 1103515245) + 12345)), (5, zi ((k : Int) + 1))], [], (zu m 5 (26 * p + k) (Int.tmod (z_ush ((r * 1103515245) + 12345) 16) 10))) κ) :
    T (D + 1) 5 (42, [(0, zr 4), (2, zi (p : Int)), (3, zi (n : Int)), (4, zi r), (5, zi (k : Int))], [], m) κ := by
  have b1 := z_ushB ((r * 1103515245) + 12345) 16
  have e2 : wr (z_ush ((r * 1103515245) + 12345) 16) = z_ush ((r * 1103515245) + 12345) 16 := wr_id b1.1 b1.2
  have e3 : wr (((p : Int) * 26) + (k : Int)) = (((p : Int) * 26) + (k : Int)) := wr_id (by omega) (by omega)
  have e1 : (wr (((p : Int) * 26) + (k : Int))).toNat = 26 * p + k := by rw [e3]; omega
  have ho : 0 ≤ wr (((p : Int) * 26) + (k : Int)) ∧ wr (((p : Int) * 26) + (k : Int)) < 104 := by rw [e3]; omega
  have h1 : T (D + 1) 5 (36, [(0, zr 4), (2, zi (p : Int)), (3, zi (n : Int)), (4, zi ((r * 1103515245) + 12345)), (5, zi ((k : Int) + 1))], [], (zu m 5 ((wr (((p : Int) * 26) + (k : Int))).toNat) (Int.tmod (wr (z_ush ((r * 1103515245) + 12345) 16)) 10))) κ := by
    rw [e1, e2]
    exact h
  exact (zt5_42 hT (zt5_44 hT (zt5_46 hT (zt5_47 hT (zt5_50 hT (zt5_51 hT (zt5_53 hT (zt5_54 hT (zt5_57 hT (zt5_58 hT (zt5_60 hT (zt5_61 hT (zt5_63 hT (zt5_64 hT (zt5_66 hT (zt5_68 hT (zt5_69 hT (zt5_71 hT (zt5_72 hT ho (zt5_73 hT (zt5_76 hT h1)))))))))))))))))))))
theorem zt286_44 (hT : zRules T) {D : Nat} {κ : Option zA → zM → Prop} {m : zM} {p : Nat} {n : Nat} {r : Int} {k : Nat} (h : T (D + 2) 286 (46, [(0, zr 74), (2, zi (p : Int)), (3, zi (n : Int)), (4, zi r), (5, zi (k : Int))], [zi r], m) κ) :
    T (D + 2) 286 (44, [(0, zr 74), (2, zi (p : Int)), (3, zi (n : Int)), (4, zi r), (5, zi (k : Int))], [], m) κ :=
  hT.1 [(38, [0, 2, 3, 4, 5])] 1 (D + 2) 286 _ κ h
theorem zt286_46 (hT : zRules T) {D : Nat} {κ : Option zA → zM → Prop} {m : zM} {p : Nat} {n : Nat} {r : Int} {k : Nat} (h : T (D + 2) 286 (49, [(0, zr 74), (2, zi (p : Int)), (3, zi (n : Int)), (4, zi r), (5, zi (k : Int))], [zi 1103515245, zi r], m) κ) :
    T (D + 2) 286 (46, [(0, zr 74), (2, zi (p : Int)), (3, zi (n : Int)), (4, zi r), (5, zi (k : Int))], [zi r], m) κ :=
  hT.1 [(38, [0, 2, 3, 4, 5])] 1 (D + 2) 286 _ κ h
theorem zt286_49 (hT : zRules T) {D : Nat} {κ : Option zA → zM → Prop} {m : zM} {p : Nat} {n : Nat} {r : Int} {k : Nat} (h : T (D + 2) 286 (50, [(0, zr 74), (2, zi (p : Int)), (3, zi (n : Int)), (4, zi r), (5, zi (k : Int))], [zi (r * 1103515245)], m) κ) :
    T (D + 2) 286 (49, [(0, zr 74), (2, zi (p : Int)), (3, zi (n : Int)), (4, zi r), (5, zi (k : Int))], [zi 1103515245, zi r], m) κ :=
  hT.1 [(38, [0, 2, 3, 4, 5])] 1 (D + 2) 286 _ κ h
theorem zt286_50 (hT : zRules T) {D : Nat} {κ : Option zA → zM → Prop} {m : zM} {p : Nat} {n : Nat} {r : Int} {k : Nat} (h : T (D + 2) 286 (53, [(0, zr 74), (2, zi (p : Int)), (3, zi (n : Int)), (4, zi r), (5, zi (k : Int))], [zi 12345, zi (r * 1103515245)], m) κ) :
    T (D + 2) 286 (50, [(0, zr 74), (2, zi (p : Int)), (3, zi (n : Int)), (4, zi r), (5, zi (k : Int))], [zi (r * 1103515245)], m) κ :=
  hT.1 [(38, [0, 2, 3, 4, 5])] 1 (D + 2) 286 _ κ h
theorem zt286_53 (hT : zRules T) {D : Nat} {κ : Option zA → zM → Prop} {m : zM} {p : Nat} {n : Nat} {r : Int} {k : Nat} (h : T (D + 2) 286 (54, [(0, zr 74), (2, zi (p : Int)), (3, zi (n : Int)), (4, zi r), (5, zi (k : Int))], [zi ((r * 1103515245) + 12345)], m) κ) :
    T (D + 2) 286 (53, [(0, zr 74), (2, zi (p : Int)), (3, zi (n : Int)), (4, zi r), (5, zi (k : Int))], [zi 12345, zi (r * 1103515245)], m) κ :=
  hT.1 [(38, [0, 2, 3, 4, 5])] 1 (D + 2) 286 _ κ h
theorem zt286_54 (hT : zRules T) {D : Nat} {κ : Option zA → zM → Prop} {m : zM} {p : Nat} {n : Nat} {r : Int} {k : Nat} (h : T (D + 2) 286 (56, [(0, zr 74), (2, zi (p : Int)), (3, zi (n : Int)), (4, zi ((r * 1103515245) + 12345)), (5, zi (k : Int))], [], m) κ) :
    T (D + 2) 286 (54, [(0, zr 74), (2, zi (p : Int)), (3, zi (n : Int)), (4, zi r), (5, zi (k : Int))], [zi ((r * 1103515245) + 12345)], m) κ :=
  hT.1 [(38, [0, 2, 3, 4, 5])] 1 (D + 2) 286 _ κ h
theorem zt286_56 (hT : zRules T) {D : Nat} {κ : Option zA → zM → Prop} {m : zM} {p : Nat} {n : Nat} {r : Int} {k : Nat} (h : T (D + 2) 286 (57, [(0, zr 74), (2, zi (p : Int)), (3, zi (n : Int)), (4, zi ((r * 1103515245) + 12345)), (5, zi (k : Int))], [zr 74], m) κ) :
    T (D + 2) 286 (56, [(0, zr 74), (2, zi (p : Int)), (3, zi (n : Int)), (4, zi ((r * 1103515245) + 12345)), (5, zi (k : Int))], [], m) κ :=
  hT.1 [(38, [0, 2, 3, 4, 5])] 1 (D + 2) 286 _ κ h
theorem zt286_57 (hT : zRules T) {D : Nat} {κ : Option zA → zM → Prop} {m : zM} {p : Nat} {n : Nat} {r : Int} {k : Nat} (h : T (D + 2) 286 (60, [(0, zr 74), (2, zi (p : Int)), (3, zi (n : Int)), (4, zi ((r * 1103515245) + 12345)), (5, zi (k : Int))], [zr 76], m) κ) :
    T (D + 2) 286 (57, [(0, zr 74), (2, zi (p : Int)), (3, zi (n : Int)), (4, zi ((r * 1103515245) + 12345)), (5, zi (k : Int))], [zr 74], m) κ :=
  hT.1 [(38, [0, 2, 3, 4, 5])] 1 (D + 2) 286 _ κ h
theorem zt286_60 (hT : zRules T) {D : Nat} {κ : Option zA → zM → Prop} {m : zM} {p : Nat} {n : Nat} {r : Int} {k : Nat} (h : T (D + 2) 286 (62, [(0, zr 74), (2, zi (p : Int)), (3, zi (n : Int)), (4, zi ((r * 1103515245) + 12345)), (5, zi (k : Int))], [zi 26, zr 76], m) κ) :
    T (D + 2) 286 (60, [(0, zr 74), (2, zi (p : Int)), (3, zi (n : Int)), (4, zi ((r * 1103515245) + 12345)), (5, zi (k : Int))], [zr 76], m) κ :=
  hT.1 [(38, [0, 2, 3, 4, 5])] 1 (D + 2) 286 _ κ h
theorem zt286_62 (hT : zRules T) {D : Nat} {κ : Option zA → zM → Prop} {m : zM} {p : Nat} {n : Nat} {r : Int} {k : Nat} (h : T (D + 2) 286 (63, [(0, zr 74), (2, zi (p : Int)), (3, zi (n : Int)), (4, zi ((r * 1103515245) + 12345)), (5, zi (k : Int))], [zi (p : Int), zi 26, zr 76], m) κ) :
    T (D + 2) 286 (62, [(0, zr 74), (2, zi (p : Int)), (3, zi (n : Int)), (4, zi ((r * 1103515245) + 12345)), (5, zi (k : Int))], [zi 26, zr 76], m) κ :=
  hT.1 [(38, [0, 2, 3, 4, 5])] 1 (D + 2) 286 _ κ h
theorem zt286_63 (hT : zRules T) {D : Nat} {κ : Option zA → zM → Prop} {m : zM} {p : Nat} {n : Nat} {r : Int} {k : Nat} (h : T (D + 2) 286 (64, [(0, zr 74), (2, zi (p : Int)), (3, zi (n : Int)), (4, zi ((r * 1103515245) + 12345)), (5, zi (k : Int))], [zi (26 * (p : Int)), zr 76], m) κ) :
    T (D + 2) 286 (63, [(0, zr 74), (2, zi (p : Int)), (3, zi (n : Int)), (4, zi ((r * 1103515245) + 12345)), (5, zi (k : Int))], [zi (p : Int), zi 26, zr 76], m) κ :=
  hT.1 [(38, [0, 2, 3, 4, 5])] 1 (D + 2) 286 _ κ h
theorem zt286_64 (hT : zRules T) {D : Nat} {κ : Option zA → zM → Prop} {m : zM} {p : Nat} {n : Nat} {r : Int} {k : Nat} (h : T (D + 2) 286 (66, [(0, zr 74), (2, zi (p : Int)), (3, zi (n : Int)), (4, zi ((r * 1103515245) + 12345)), (5, zi (k : Int))], [zi (k : Int), zi (26 * (p : Int)), zr 76], m) κ) :
    T (D + 2) 286 (64, [(0, zr 74), (2, zi (p : Int)), (3, zi (n : Int)), (4, zi ((r * 1103515245) + 12345)), (5, zi (k : Int))], [zi (26 * (p : Int)), zr 76], m) κ :=
  hT.1 [(38, [0, 2, 3, 4, 5])] 1 (D + 2) 286 _ κ h
theorem zt286_66 (hT : zRules T) {D : Nat} {κ : Option zA → zM → Prop} {m : zM} {p : Nat} {n : Nat} {r : Int} {k : Nat} (h : T (D + 2) 286 (67, [(0, zr 74), (2, zi (p : Int)), (3, zi (n : Int)), (4, zi ((r * 1103515245) + 12345)), (5, zi (k : Int))], [zi ((26 * (p : Int)) + (k : Int)), zr 76], m) κ) :
    T (D + 2) 286 (66, [(0, zr 74), (2, zi (p : Int)), (3, zi (n : Int)), (4, zi ((r * 1103515245) + 12345)), (5, zi (k : Int))], [zi (k : Int), zi (26 * (p : Int)), zr 76], m) κ :=
  hT.1 [(38, [0, 2, 3, 4, 5])] 1 (D + 2) 286 _ κ h
theorem zt286_67 (hT : zRules T) {D : Nat} {κ : Option zA → zM → Prop} {m : zM} {p : Nat} {n : Nat} {r : Int} {k : Nat} (h : T (D + 2) 286 (69, [(0, zr 74), (2, zi (p : Int)), (3, zi (n : Int)), (4, zi ((r * 1103515245) + 12345)), (5, zi (k : Int))], [zi ((r * 1103515245) + 12345), zi ((26 * (p : Int)) + (k : Int)), zr 76], m) κ) :
    T (D + 2) 286 (67, [(0, zr 74), (2, zi (p : Int)), (3, zi (n : Int)), (4, zi ((r * 1103515245) + 12345)), (5, zi (k : Int))], [zi ((26 * (p : Int)) + (k : Int)), zr 76], m) κ :=
  hT.1 [(38, [0, 2, 3, 4, 5])] 1 (D + 2) 286 _ κ h
theorem zt286_69 (hT : zRules T) {D : Nat} {κ : Option zA → zM → Prop} {m : zM} {p : Nat} {n : Nat} {r : Int} {k : Nat} (h : T (D + 2) 286 (71, [(0, zr 74), (2, zi (p : Int)), (3, zi (n : Int)), (4, zi ((r * 1103515245) + 12345)), (5, zi (k : Int))], [zi 16, zi ((r * 1103515245) + 12345), zi ((26 * (p : Int)) + (k : Int)), zr 76], m) κ) :
    T (D + 2) 286 (69, [(0, zr 74), (2, zi (p : Int)), (3, zi (n : Int)), (4, zi ((r * 1103515245) + 12345)), (5, zi (k : Int))], [zi ((r * 1103515245) + 12345), zi ((26 * (p : Int)) + (k : Int)), zr 76], m) κ :=
  hT.1 [(38, [0, 2, 3, 4, 5])] 1 (D + 2) 286 _ κ h
theorem zt286_71 (hT : zRules T) {D : Nat} {κ : Option zA → zM → Prop} {m : zM} {p : Nat} {n : Nat} {r : Int} {k : Nat} (h : T (D + 2) 286 (72, [(0, zr 74), (2, zi (p : Int)), (3, zi (n : Int)), (4, zi ((r * 1103515245) + 12345)), (5, zi (k : Int))], [zi (z_ush ((r * 1103515245) + 12345) 16), zi ((26 * (p : Int)) + (k : Int)), zr 76], m) κ) :
    T (D + 2) 286 (71, [(0, zr 74), (2, zi (p : Int)), (3, zi (n : Int)), (4, zi ((r * 1103515245) + 12345)), (5, zi (k : Int))], [zi 16, zi ((r * 1103515245) + 12345), zi ((26 * (p : Int)) + (k : Int)), zr 76], m) κ :=
  hT.1 [(38, [0, 2, 3, 4, 5])] 1 (D + 2) 286 _ κ h
theorem zt286_72 (hT : zRules T) {D : Nat} {κ : Option zA → zM → Prop} {m : zM} {p : Nat} {n : Nat} {r : Int} {k : Nat} (h : T (D + 2) 286 (74, [(0, zr 74), (2, zi (p : Int)), (3, zi (n : Int)), (4, zi ((r * 1103515245) + 12345)), (5, zi (k : Int))], [zi 10, zi (z_ush ((r * 1103515245) + 12345) 16), zi ((26 * (p : Int)) + (k : Int)), zr 76], m) κ) :
    T (D + 2) 286 (72, [(0, zr 74), (2, zi (p : Int)), (3, zi (n : Int)), (4, zi ((r * 1103515245) + 12345)), (5, zi (k : Int))], [zi (z_ush ((r * 1103515245) + 12345) 16), zi ((26 * (p : Int)) + (k : Int)), zr 76], m) κ :=
  hT.1 [(38, [0, 2, 3, 4, 5])] 1 (D + 2) 286 _ κ h
theorem zt286_74 (hT : zRules T) {D : Nat} {κ : Option zA → zM → Prop} {m : zM} {p : Nat} {n : Nat} {r : Int} {k : Nat} (h : T (D + 2) 286 (75, [(0, zr 74), (2, zi (p : Int)), (3, zi (n : Int)), (4, zi ((r * 1103515245) + 12345)), (5, zi (k : Int))], [zi (Int.tmod (wr (z_ush ((r * 1103515245) + 12345) 16)) 10), zi ((26 * (p : Int)) + (k : Int)), zr 76], m) κ) :
    T (D + 2) 286 (74, [(0, zr 74), (2, zi (p : Int)), (3, zi (n : Int)), (4, zi ((r * 1103515245) + 12345)), (5, zi (k : Int))], [zi 10, zi (z_ush ((r * 1103515245) + 12345) 16), zi ((26 * (p : Int)) + (k : Int)), zr 76], m) κ :=
  hT.1 [(38, [0, 2, 3, 4, 5])] 1 (D + 2) 286 _ κ (And.intro (z_neL rfl) h)
theorem zt286_75 (hT : zRules T) {D : Nat} {κ : Option zA → zM → Prop} {m : zM} {p : Nat} {n : Nat} {r : Int} {k : Nat} (o : (0 ≤ wr ((26 * (p : Int)) + (k : Int)) ∧ wr ((26 * (p : Int)) + (k : Int)) < 104)) (h : T (D + 2) 286 (76, [(0, zr 74), (2, zi (p : Int)), (3, zi (n : Int)), (4, zi ((r * 1103515245) + 12345)), (5, zi (k : Int))], [], (zu m 76 ((wr ((26 * (p : Int)) + (k : Int))).toNat) (Int.tmod (wr (z_ush ((r * 1103515245) + 12345) 16)) 10))) κ) :
    T (D + 2) 286 (75, [(0, zr 74), (2, zi (p : Int)), (3, zi (n : Int)), (4, zi ((r * 1103515245) + 12345)), (5, zi (k : Int))], [zi (Int.tmod (wr (z_ush ((r * 1103515245) + 12345) 16)) 10), zi ((26 * (p : Int)) + (k : Int)), zr 76], m) κ :=
  hT.1 [(38, [0, 2, 3, 4, 5])] 1 (D + 2) 286 _ κ (And.intro (And.intro o trivial) h)
theorem zt286_76 (hT : zRules T) {D : Nat} {κ : Option zA → zM → Prop} {m : zM} {p : Nat} {n : Nat} {r : Int} {k : Nat} (h : T (D + 2) 286 (79, [(0, zr 74), (2, zi (p : Int)), (3, zi (n : Int)), (4, zi ((r * 1103515245) + 12345)), (5, zi ((k : Int) + 1))], [], (zu m 76 ((wr ((26 * (p : Int)) + (k : Int))).toNat) (Int.tmod (wr (z_ush ((r * 1103515245) + 12345) 16)) 10))) κ) :
    T (D + 2) 286 (76, [(0, zr 74), (2, zi (p : Int)), (3, zi (n : Int)), (4, zi ((r * 1103515245) + 12345)), (5, zi (k : Int))], [], (zu m 76 ((wr ((26 * (p : Int)) + (k : Int))).toNat) (Int.tmod (wr (z_ush ((r * 1103515245) + 12345) 16)) 10))) κ :=
  hT.1 [(38, [0, 2, 3, 4, 5])] 1 (D + 2) 286 _ κ h
theorem zt286_79 (hT : zRules T) {D : Nat} {κ : Option zA → zM → Prop} {m : zM} {p : Nat} {n : Nat} {r : Int} {k : Nat} (h : T (D + 2) 286 (38, [(0, zr 74), (2, zi (p : Int)), (3, zi (n : Int)), (4, zi ((r * 1103515245) + 12345)), (5, zi ((k : Int) + 1))], [], (zu m 76 ((wr ((26 * (p : Int)) + (k : Int))).toNat) (Int.tmod (wr (z_ush ((r * 1103515245) + 12345) 16)) 10))) κ) :
    T (D + 2) 286 (79, [(0, zr 74), (2, zi (p : Int)), (3, zi (n : Int)), (4, zi ((r * 1103515245) + 12345)), (5, zi ((k : Int) + 1))], [], (zu m 76 ((wr ((26 * (p : Int)) + (k : Int))).toNat) (Int.tmod (wr (z_ush ((r * 1103515245) + 12345) 16)) 10))) κ :=
  hT.1 [(38, [0, 2, 3, 4, 5])] 1 (D + 2) 286 _ κ h
theorem zd286 (hT : zRules T) {D : Nat} {κ : Option zA → zM → Prop} {m : zM} {p : Nat} {n : Nat} {r : Int} {k : Nat} (hp : p ≤ 3) (hk : k < 26) (h : T (D + 2) 286 (38, [(0, zr 74), (2, zi (p : Int)), (3, zi (n : Int)), (4, zi ((r * 1103515245) + 12345)), (5, zi ((k : Int) + 1))], [], (zu m 76 (26 * p + k) (Int.tmod (z_ush ((r * 1103515245) + 12345) 16) 10))) κ) :
    T (D + 2) 286 (44, [(0, zr 74), (2, zi (p : Int)), (3, zi (n : Int)), (4, zi r), (5, zi (k : Int))], [], m) κ := by
  have b1 := z_ushB ((r * 1103515245) + 12345) 16
  have e2 : wr (z_ush ((r * 1103515245) + 12345) 16) = z_ush ((r * 1103515245) + 12345) 16 := wr_id b1.1 b1.2
  have e3 : wr ((26 * (p : Int)) + (k : Int)) = ((26 * (p : Int)) + (k : Int)) := wr_id (by omega) (by omega)
  have e1 : (wr ((26 * (p : Int)) + (k : Int))).toNat = 26 * p + k := by rw [e3]; omega
  have ho : 0 ≤ wr ((26 * (p : Int)) + (k : Int)) ∧ wr ((26 * (p : Int)) + (k : Int)) < 104 := by rw [e3]; omega
  have h1 : T (D + 2) 286 (38, [(0, zr 74), (2, zi (p : Int)), (3, zi (n : Int)), (4, zi ((r * 1103515245) + 12345)), (5, zi ((k : Int) + 1))], [], (zu m 76 ((wr ((26 * (p : Int)) + (k : Int))).toNat) (Int.tmod (wr (z_ush ((r * 1103515245) + 12345) 16)) 10))) κ := by
    rw [e1, e2]
    exact h
  exact (zt286_44 hT (zt286_46 hT (zt286_49 hT (zt286_50 hT (zt286_53 hT (zt286_54 hT (zt286_56 hT (zt286_57 hT (zt286_60 hT (zt286_62 hT (zt286_63 hT (zt286_64 hT (zt286_66 hT (zt286_67 hT (zt286_69 hT (zt286_71 hT (zt286_72 hT (zt286_74 hT (zt286_75 hT ho (zt286_76 hT (zt286_79 hT h1)))))))))))))))))))))
end ZBlocks
end
-- 61.inv.lean.txt
section
/-! What holds between two calls, of the class's cells and the reference's. -/
noncomputable abbrev zLs : Type := List (Nat × Option Nat)
noncomputable def inL (L : zLs) (c j : Nat) : Bool := L.any (fun q => Nat.beq q.1 c && (match q.2 with
  | none => true
  | some x => Nat.beq x j))
noncomputable def dj (L K : zLs) : Bool := L.all (fun q => K.all (fun r => !(Nat.beq q.1 r.1) || (match q.2, r.2 with
  | some x, some y => !(Nat.beq x y)
  | _, _ => false)))
theorem dj_ok {L K : zLs} {c j : Nat} (h : dj L K = true) (hk : inL K c j = true) : inL L c j = false := by
  cases hl : inL L c j with
  | false => rfl
  | true =>
    obtain ⟨q, hq, q1⟩ := List.any_eq_true.mp hl
    obtain ⟨r, hr, r1⟩ := List.any_eq_true.mp hk
    have h1 := List.all_eq_true.mp (List.all_eq_true.mp h q hq) r hr
    rw [Bool.and_eq_true] at q1 r1
    have e1 := Nat.eq_of_beq_eq_true q1.1
    have e2 := Nat.eq_of_beq_eq_true r1.1
    rw [e1, e2, Nat.beq_refl, Bool.not_true, Bool.false_or] at h1
    obtain ⟨qc, qo⟩ := q
    obtain ⟨rc, ro⟩ := r
    rcases qo with _ | x
    · cases h1
    · rcases ro with _ | y
      · cases h1
      · have f1 := Nat.eq_of_beq_eq_true q1.2
        have f2 := Nat.eq_of_beq_eq_true r1.2
        dsimp only at h1
        rw [f1, f2, Nat.beq_refl] at h1
        cases h1
noncomputable def Agree (K : zLs) (m m1 : zM) : Prop := ∀ c j, inL K c j = true → m1 c j = m c j
theorem Agree.of {L K : zLs} {m m1 : zM} (h : zFr (inL L) m m1) (hd : dj L K = true) : Agree K m m1 := fun c j q => h c j (dj_ok hd q)
theorem Agree.trans {K : zLs} {m m1 m2 : zM} (h1 : Agree K m m1) (h2 : Agree K m1 m2) : Agree K m m2 := fun c j q => (h2 c j q).trans (h1 c j q)
theorem zFr.sub {S S2 : Nat → Nat → Bool} {m m1 : zM} (h : zFr S m m1) (hs : ∀ c j, S c j = true → S2 c j = true) : zFr S2 m m1 := h.mono (fun c j q => by
  cases hS : S c j with
  | false => rfl
  | true => rw [hs c j hS] at q; cases q)
theorem inL_sub {L K : zLs} (h : L.all (fun q => K.any (fun r => Nat.beq q.1 r.1 && (match r.2 with
  | none => true
  | some y => match q.2 with
    | some x => Nat.beq x y
    | none => false))) = true) : ∀ c j, inL L c j = true → inL K c j = true := by
  intro c j hl
  obtain ⟨q, hq, q1⟩ := List.any_eq_true.mp hl
  obtain ⟨r, hr, r1⟩ := List.any_eq_true.mp (List.all_eq_true.mp h q hq)
  refine List.any_eq_true.mpr ⟨r, hr, ?_⟩
  rw [Bool.and_eq_true] at q1 r1 ⊢
  refine ⟨by rw [← Nat.eq_of_beq_eq_true r1.1]; exact q1.1, ?_⟩
  obtain ⟨qc, qo⟩ := q
  obtain ⟨rc, ro⟩ := r
  rcases ro with _ | y
  · rfl
  · rcases qo with _ | x
    · cases r1.2
    · have f1 := Nat.eq_of_beq_eq_true r1.2
      have f2 := q1.2
      dsimp only at f1 f2 ⊢
      rw [← f1]
      exact f2
theorem lbWL : ∀ c j, lbW c j = true → inL [(74, some 13), (74, some 14), (74, some 15), (74, some 16), (74, some 17), (74, some 26), (74, some 27), (74, some 28), (74, some 29), (74, some 30)] c j = true := by
  intro c j h
  simp only [lbW, Bool.and_eq_true, Bool.or_eq_true] at h
  have e := Nat.eq_of_beq_eq_true h.1
  subst e
  have hj : j = 13 ∨ j = 14 ∨ j = 15 ∨ j = 16 ∨ j = 17 ∨ j = 26 ∨ j = 27 ∨ j = 28 ∨ j = 29 ∨ j = 30 := by
    rcases h.2 with q | q
    · have h1 := Nat.le_of_ble_eq_true q.1
      have h2 := q_blt q.2
      omega
    · have h1 := Nat.le_of_ble_eq_true q.1
      have h2 := q_blt q.2
      omega
  rcases hj with rfl | rfl | rfl | rfl | rfl | rfl | rfl | rfl | rfl | rfl <;> rfl
noncomputable def KT : zLs := [(2, some 1), (3, none), (74, some 9), (80, none)]
noncomputable def KL : zLs := [(4, some 4), (5, none), (6, none), (9, some 4), (10, none), (11, none), (12, none), (74, some 1), (74, some 25), (76, none), (77, none), (86, none)]
noncomputable def KH : zLs := [(17, some 0), (17, some 1), (17, some 10), (17, some 11), (18, none), (19, none), (20, none), (21, none), (22, none), (23, none), (25, some 2), (26, none), (74, some 4), (74, some 6), (75, none), (78, none)]
noncomputable def KM : zLs := [(24, none), (79, none)]
noncomputable def KU : zLs := [(28, some 4), (28, some 5), (30, none), (31, none), (32, none), (33, none), (34, none), (35, none), (36, none), (37, none), (38, none), (39, none), (40, none), (41, none), (42, none), (74, some 35), (87, none)]
noncomputable def KK : zLs := [(44, none), (45, none), (46, none), (47, none), (74, some 62), (106, none), (107, none), (108, none)]
noncomputable def KS : zLs := [(59, some 4), (60, none), (61, none), (62, none), (63, none), (74, some 52), (99, none)]
noncomputable def KJ : zLs := [(64, some 2), (65, none), (66, none), (74, some 54), (100, none)]
noncomputable def KX : zLs := [(0, none), (103, none), (110, none)]
noncomputable def coreK : zLs := KT ++ (KL ++ (KH ++ (KM ++ (KU ++ (KK ++ (KS ++ (KJ ++ KX)))))))
noncomputable def TextRel (m : zM) : Prop := m 74 9 = m 2 1 ∧ ∀ j : Nat, (j : Int) < m 2 1 → m 3 j = m 80 j % 256
noncomputable def HouseRel (n k : Nat) (m : zM) : Prop := (m 17 0 = (n : Int) ∧ m 74 4 = (n : Int)) ∧ (m 17 1 = (k : Int) ∧ m 74 6 = (k : Int)) ∧ (∀ p, p < n → m 78 p = m 18 p ∧ 1 ≤ m 18 p) ∧ Rel n k m (m 75) ∧ okRow n k (m 75)
noncomputable def TermRel (m : zM) : Prop := ∀ j, j < 3 → m 79 j = m 24 j
noncomputable def slt (m : zM) (i : Nat) : Nat := ((m 28 4).toNat + i) % 13
noncomputable def UndoRel (B : Int) (n k : Nat) (m : zM) : Prop := m 74 35 = m 28 5 ∧ ∀ i : Nat, (i : Int) < m 28 5 → RelM n k (m (30 + slt m i)) (fun j => m 87 (59 * i + j)) ∧ okRow n k (fun j => m 87 (59 * i + j)) ∧ m 87 (59 * i + 57) ≤ B
noncomputable def KeptRel (B : Int) (n k : Nat) (m : zM) : Prop := (0 ≤ m 74 62 ∧ m 74 62 ≤ n + k) ∧ ∀ i, i < 2 → (m 107 i = 0 ∧ m 46 i = -1) ∨ (m 107 i = 1 ∧ ∃ kp kc : Nat, (m 46 i = (kp : Int) ∧ m 47 i = (kc : Int)) ∧ (kp ≤ n ∧ kc ≤ k) ∧ (0 ≤ m 108 i ∧ m 108 i ≤ m 74 62) ∧ (m 108 i = m 74 62 → kp = n ∧ kc = k) ∧ (m 108 i < m 74 62 → kp + kc < n + k) ∧ RelM kp kc (m (44 + i)) (fun j => m 106 (59 * i + j)) ∧ okRow kp kc (fun j => m 106 (59 * i + j)) ∧ m 106 (59 * i + 57) ≤ B)
noncomputable def SeenRel (n : Nat) (m : zM) : Prop := m 74 52 = m 59 4 ∧ ∀ i : Nat, (i : Int) < m 59 4 → m 99 (4 * i) = m 60 i ∧ m 99 (4 * i + 1) = m 61 i ∧ m 99 (4 * i + 2) = m 62 i ∧ m 99 (4 * i + 3) = m 63 i ∧ m 60 i < n
noncomputable def JobRel (m : zM) : Prop := m 74 54 = m 64 2 ∧ ∀ i : Nat, (i : Int) < m 64 2 → m 100 (2 * i) = m 65 i ∧ m 100 (2 * i + 1) = m 66 i ∧ 1 ≤ m 65 i
noncomputable abbrev zSc : Type := (Nat → Int) × Int
noncomputable def ScrRel (sc : zSc) (m : zM) : Prop := m 0 = sc.1 ∧ m 110 0 = sc.2 ∧ ∀ c : Nat, c < 3 → m 103 c = 0
noncomputable def Inv (B : Int) (sc : zSc) (n k : Nat) (m : zM) : Prop := zB m ∧ TextRel m ∧ LawRel m ∧ HouseRel n k m ∧ TermRel m ∧ UndoRel B n k m ∧ KeptRel B n k m ∧ SeenRel n m ∧ JobRel m ∧ m 75 57 ≤ B ∧ ScrRel sc m
section ZInv
variable {B : Int} {sc : zSc} {n k : Nat} {m m1 : zM}
theorem Agree.sub {K K2 : zLs} (h : Agree K m m1) (hs : ∀ q, q ∈ K2 → q ∈ K) : Agree K2 m m1 := fun c j q => h c j (by
  obtain ⟨x, hx, hx2⟩ := List.any_eq_true.mp q
  exact List.any_eq_true.mpr ⟨x, hs x hx, hx2⟩)
theorem Text_fr (h : Agree KT m m1) (i : TextRel m) : TextRel m1 := by
  have s2_1 : m1 2 1 = m 2 1 := h 2 1 rfl
  have c3 : m1 3 = m 3 := funext fun j => h 3 j rfl
  have s74_9 : m1 74 9 = m 74 9 := h 74 9 rfl
  have c80 : m1 80 = m 80 := funext fun j => h 80 j rfl
  unfold TextRel
  rw [s2_1, c3, s74_9, c80]
  exact i
theorem Agree.law (h : Agree KL m m1) : (LawRel m → LawRel m1) ∧ LW m1 = LW m := by
  have hF : zFr (fun c j => !(inL KL c j)) m m1 := fun c j q => h c j (by
    cases hb : inL KL c j with
    | true => rfl
    | false =>
      have q2 : (!inL KL c j) = false := q
      rw [hb] at q2
      cases q2)
  have hS : lawSR (fun c j => !(inL KL c j)) := ⟨⟨rfl, fun _ => rfl, fun _ => rfl, rfl, fun _ => rfl, fun _ => rfl, fun _ => rfl⟩, rfl, rfl, fun _ => rfl, fun _ => rfl, fun _ => rfl⟩
  exact ⟨LawRel_fr hF hS, (LW_fr hF hS.1).1⟩
theorem House_fr (h : Agree KH m m1) (i : HouseRel n k m) : HouseRel n k m1 := by
  have s17_0 : m1 17 0 = m 17 0 := h 17 0 rfl
  have s17_1 : m1 17 1 = m 17 1 := h 17 1 rfl
  have s17_10 : m1 17 10 = m 17 10 := h 17 10 rfl
  have s17_11 : m1 17 11 = m 17 11 := h 17 11 rfl
  have c18 : m1 18 = m 18 := funext fun j => h 18 j rfl
  have c19 : m1 19 = m 19 := funext fun j => h 19 j rfl
  have c20 : m1 20 = m 20 := funext fun j => h 20 j rfl
  have c21 : m1 21 = m 21 := funext fun j => h 21 j rfl
  have c22 : m1 22 = m 22 := funext fun j => h 22 j rfl
  have c23 : m1 23 = m 23 := funext fun j => h 23 j rfl
  have s25_2 : m1 25 2 = m 25 2 := h 25 2 rfl
  have c26 : m1 26 = m 26 := funext fun j => h 26 j rfl
  have s74_4 : m1 74 4 = m 74 4 := h 74 4 rfl
  have s74_6 : m1 74 6 = m 74 6 := h 74 6 rfl
  have c75 : m1 75 = m 75 := funext fun j => h 75 j rfl
  have c78 : m1 78 = m 78 := funext fun j => h 78 j rfl
  unfold HouseRel Rel
  rw [s17_0, s17_1, s17_10, s17_11, c18, c19, c20, c21, c22, c23, s25_2, c26, s74_4, s74_6, c75, c78]
  exact i
theorem Term_fr (h : Agree KM m m1) (i : TermRel m) : TermRel m1 := by
  have c24 : m1 24 = m 24 := funext fun j => h 24 j rfl
  have c79 : m1 79 = m 79 := funext fun j => h 79 j rfl
  unfold TermRel
  rw [c24, c79]
  exact i
theorem Agree.mom (h : Agree KU m m1) {x : Nat} (hx : x < 13) : m1 (30 + x) = m (30 + x) := by
  funext j
  refine h _ j ?_
  match x, hx with
  | 0, _ => rfl
  | 1, _ => rfl
  | 2, _ => rfl
  | 3, _ => rfl
  | 4, _ => rfl
  | 5, _ => rfl
  | 6, _ => rfl
  | 7, _ => rfl
  | 8, _ => rfl
  | 9, _ => rfl
  | 10, _ => rfl
  | 11, _ => rfl
  | 12, _ => rfl
theorem Undo_fr (h : Agree KU m m1) (i6 : UndoRel B n k m) : UndoRel B n k m1 := by
  have s284 : m1 28 4 = m 28 4 := h 28 4 rfl
  have s285 : m1 28 5 = m 28 5 := h 28 5 rfl
  have s7435 : m1 74 35 = m 74 35 := h 74 35 rfl
  have c87 : m1 87 = m 87 := funext fun j => h 87 j rfl
  refine ⟨by rw [s7435, s285]; exact i6.1, fun i hi => ?_⟩
  rw [s285] at hi
  have e : slt m1 i = slt m i := by
    unfold slt
    rw [s284]
  have hsl : slt m i < 13 := by
    unfold slt
    omega
  rw [e, h.mom hsl, c87]
  exact i6.2 i hi
theorem Kept_fr (h : Agree KK m m1) (i7 : KeptRel B n k m) : KeptRel B n k m1 := by
  have c44 : m1 44 = m 44 := funext fun j => h 44 j rfl
  have c45 : m1 45 = m 45 := funext fun j => h 45 j rfl
  have c46 : m1 46 = m 46 := funext fun j => h 46 j rfl
  have c47 : m1 47 = m 47 := funext fun j => h 47 j rfl
  have s7462 : m1 74 62 = m 74 62 := h 74 62 rfl
  have c106 : m1 106 = m 106 := funext fun j => h 106 j rfl
  have c107 : m1 107 = m 107 := funext fun j => h 107 j rfl
  have c108 : m1 108 = m 108 := funext fun j => h 108 j rfl
  refine ⟨by rw [s7462]; exact i7.1, fun i hi => ?_⟩
  have e : m1 (44 + i) = m (44 + i) := by
    rcases Nat.lt_or_ge i 1 with q | q
    · have : i = 0 := by omega
      subst this
      exact c44
    · have : i = 1 := by omega
      subst this
      exact c45
  rw [s7462, c107, c46, c47, c108, e, c106]
  exact i7.2 i hi
theorem Seen_fr (h : Agree KS m m1) (i : SeenRel n m) : SeenRel n m1 := by
  have s59_4 : m1 59 4 = m 59 4 := h 59 4 rfl
  have c60 : m1 60 = m 60 := funext fun j => h 60 j rfl
  have c61 : m1 61 = m 61 := funext fun j => h 61 j rfl
  have c62 : m1 62 = m 62 := funext fun j => h 62 j rfl
  have c63 : m1 63 = m 63 := funext fun j => h 63 j rfl
  have s74_52 : m1 74 52 = m 74 52 := h 74 52 rfl
  have c99 : m1 99 = m 99 := funext fun j => h 99 j rfl
  unfold SeenRel
  rw [s59_4, c60, c61, c62, c63, s74_52, c99]
  exact i
theorem Job_fr (h : Agree KJ m m1) (i : JobRel m) : JobRel m1 := by
  have s64_2 : m1 64 2 = m 64 2 := h 64 2 rfl
  have c65 : m1 65 = m 65 := funext fun j => h 65 j rfl
  have c66 : m1 66 = m 66 := funext fun j => h 66 j rfl
  have s74_54 : m1 74 54 = m 74 54 := h 74 54 rfl
  have c100 : m1 100 = m 100 := funext fun j => h 100 j rfl
  unfold JobRel
  rw [s64_2, c65, c66, s74_54, c100]
  exact i
theorem Scr_fr (h : Agree KX m m1) (i : ScrRel sc m) : ScrRel sc m1 := by
  have c0 : m1 0 = m 0 := funext fun j => h 0 j rfl
  have c103 : m1 103 = m 103 := funext fun j => h 103 j rfl
  have c110 : m1 110 0 = m 110 0 := h 110 0 rfl
  unfold ScrRel
  rw [c0, c103, c110]
  exact i
theorem Now_fr (h : Agree KH m m1) (i : m 75 57 ≤ B) : m1 75 57 ≤ B := by
  rw [show m1 75 57 = m 75 57 from h 75 57 rfl]
  exact i
theorem Inv_fr (h : Agree coreK m m1) (hB : zB m1) (hI : Inv B sc n k m) : Inv B sc n k m1 := by
  obtain ⟨_, i2, i3, i4, i5, i6, i7, i8, i9, i10, i11⟩ := hI
  have sb : ∀ {K : zLs}, (∀ q, q ∈ K → q ∈ coreK) → Agree K m m1 := fun hs => h.sub hs
  have m1' : ∀ {L1 L2 : zLs} {q : Nat × Option Nat}, q ∈ L1 → q ∈ L1 ++ L2 := fun q => List.mem_append.mpr (Or.inl q)
  have m2' : ∀ {L1 L2 : zLs} {q : Nat × Option Nat}, q ∈ L2 → q ∈ L1 ++ L2 := fun q => List.mem_append.mpr (Or.inr q)
  exact ⟨hB, Text_fr (sb (fun q hq => m1' hq)) i2, (sb (fun q hq => m2' (m1' hq))).law.1 i3, House_fr (sb (fun q hq => m2' (m2' (m1' hq)))) i4, Term_fr (sb (fun q hq => m2' (m2' (m2' (m1' hq))))) i5, Undo_fr (sb (fun q hq => m2' (m2' (m2' (m2' (m1' hq)))))) i6, Kept_fr (sb (fun q hq => m2' (m2' (m2' (m2' (m2' (m1' hq))))))) i7, Seen_fr (sb (fun q hq => m2' (m2' (m2' (m2' (m2' (m2' (m1' hq)))))))) i8, Job_fr (sb (fun q hq => m2' (m2' (m2' (m2' (m2' (m2' (m2' (m1' hq))))))))) i9, Now_fr (sb (fun q hq => m2' (m2' (m1' hq)))) i10, Scr_fr (sb (fun q hq => m2' (m2' (m2' (m2' (m2' (m2' (m2' (m2' hq))))))))) i11⟩
/-- more WEEKS may have gone by -/
theorem Inv.up {B2 : Int} (hI : Inv B sc n k m) (h : B ≤ B2) : Inv B2 sc n k m := by
  obtain ⟨i1, i2, i3, i4, i5, i6, i7, i8, i9, i10, i11⟩ := hI
  refine ⟨i1, i2, i3, i4, i5, ⟨i6.1, fun i hi => ?_⟩, ⟨i7.1, fun i hi => ?_⟩, i8, i9, by omega, i11⟩
  · obtain ⟨a1, a2, a3⟩ := i6.2 i hi
    exact ⟨a1, a2, by omega⟩
  · rcases i7.2 i hi with q | ⟨q1, kp, kc, a1, a2, a3, a4, a5, a6, a7, a8⟩
    · exact Or.inl q
    · exact Or.inr ⟨q1, kp, kc, a1, a2, a3, a4, a5, a6, a7, by omega⟩
end ZInv
/-- a call of the class and the reference's behind it: what holds stays, the answers are the same -/
noncomputable def Way (T : Nat → Nat → zG → (Option zA → zM → Prop) → Prop) (kC kR : Nat) (aC aR : zL) (dC dR : Nat) (B B2 : Int) (same : Prop) : Prop := ∀ (D : Nat) (m : zM) (sc : zSc), (∃ n k, Inv B sc n k m) → ∀ κ : Option zA → zM → Prop, (∀ r m1, (∀ (D2 : Nat) (κ2 : Option zA → zM → Prop), (∀ r2 m2, (same → r = r2) → (∃ n k, Inv B2 sc n k m2) → κ2 r2 m2) → T (D2 + dR) kR (0, aR, [], m1) κ2) → κ r m1) → T (D + dC) kC (0, aC, [], m) κ
noncomputable abbrev isI (v : Int) : Prop := -2147483648 ≤ v ∧ v ≤ 2147483647
end
-- 62.ways1.lean.txt
section
/-! Calls that need little: jobs, what was seen, terms, THE TEXT's end. -/
section ZWays1
variable {T : Nat → Nat → zG → (Option zA → zM → Prop) → Prop} {B : Int}
theorem w_rest (hT : zRules T) : Way T 154 279 [(0, zr 1)] [(0, zr 74)] 2 2 B B True := by
  rintro D m sc ⟨n, k, hI⟩ κ hκ
  have hI0 := hI
  obtain ⟨i1, i2, i3, i4, i5, i6, i7, i8, i9, i10, i11⟩ := hI
  refine zb154_0 hT i1 (fun hz => hκ _ _ (fun D2 κ2 h2 => ?_))
  refine zb279_0 hT hz (fun hz2 => ?_)
  refine h2 _ _ (fun _ => ?_) ⟨n, k, ?_⟩
  · show some (zi (m 64 2)) = some (zi (m 74 54))
    rw [i9.1]
  · have hF : zFr (inL [(64, some 2), (74, some 12), (74, some 54)]) m (zu (zu (zu m 64 2 0) 74 12 0) 74 54 0) := ((zFr.refl.set rfl).set rfl).set rfl
    refine ⟨hz2, Text_fr (.of hF rfl) i2, (Agree.of hF rfl).law.1 i3, House_fr (.of hF rfl) i4, Term_fr (.of hF rfl) i5, Undo_fr (.of hF rfl) i6, Kept_fr (.of hF rfl) i7, Seen_fr (.of hF rfl) i8, ⟨rfl, fun i hi => ?_⟩, Now_fr (.of hF rfl) i10, Scr_fr (.of hF rfl) i11⟩
    have : (i : Int) < 0 := hi
    omega
theorem w_forget (hT : zRules T) : Way T 149 274 [(0, zr 1)] [(0, zr 74)] 2 2 B B True := by
  rintro D m sc ⟨n, k, hI⟩ κ hκ
  obtain ⟨i1, i2, i3, i4, i5, i6, i7, i8, i9, i10, i11⟩ := hI
  refine zb149_0 hT i1 (fun hz => hκ _ _ (fun D2 κ2 h2 => ?_))
  refine zb274_0 hT hz (fun hz2 => ?_)
  refine h2 _ _ (fun _ => ?_) ⟨n, k, ?_⟩
  · show some (zi (m 59 4)) = some (zi (m 74 52))
    rw [i8.1]
  · have hF : zFr (inL [(59, some 4), (74, some 12), (74, some 52)]) m (zu (zu (zu m 59 4 0) 74 12 0) 74 52 0) := ((zFr.refl.set rfl).set rfl).set rfl
    refine ⟨hz2, Text_fr (.of hF rfl) i2, (Agree.of hF rfl).law.1 i3, House_fr (.of hF rfl) i4, Term_fr (.of hF rfl) i5, Undo_fr (.of hF rfl) i6, Kept_fr (.of hF rfl) i7, ⟨rfl, fun i hi => ?_⟩, Job_fr (.of hF rfl) i9, Now_fr (.of hF rfl) i10, Scr_fr (.of hF rfl) i11⟩
    have : (i : Int) < 0 := hi
    omega
theorem w_set (hT : zRules T) {w v : Int} (hw : isI w) (hv : isI v) : Way T 121 222 [(0, zr 1), (1, zi w), (2, zi v)] [(0, zr 74), (1, zi w), (2, zi v)] 2 2 B B True := by
  rintro D m sc ⟨n, k, hI⟩ κ hκ
  have hI0 := hI
  obtain ⟨i1, i2, i3, i4, i5, i6, i7, i8, i9, i10, i11⟩ := hI
  have hB1 : zB (zu m 74 12 0) := zB_u i1 trivial
  have no : (¬ (0 ≤ w ∧ w ≤ 2 ∧ 0 ≤ v ∧ v ≤ 9)) → κ (some (zi (-1))) m := by
    intro hno
    refine hκ _ _ (fun D2 κ2 h2 => ?_)
    have fin : κ2 (some (zi (-1))) (zu m 74 12 0) := h2 _ _ (fun _ => rfl) ⟨n, k, Inv_fr (.of (L := [(74, some 12)]) (zFr.refl.set rfl) rfl) hB1 hI0⟩
    exact zb222_0 hT i1 hw hv (fun _ _ => fin) (fun _ _ _ => fin) (fun _ _ _ _ => fin) (fun _ _ _ _ _ => fin) (fun q1 q2 q3 q4 => absurd ⟨by omega, by omega, by omega, by omega⟩ hno)
  refine zb121_0 hT i1 hw hv (fun q1 => no (by omega)) (fun q1 q2 => no (by omega)) (fun q1 q2 q3 => no (by omega)) (fun q1 q2 q3 q4 hz => ?_) (fun q1 q2 q3 q4 => no (by omega))
  refine hκ _ _ (fun D2 κ2 h2 => ?_)
  refine zb222_0 hT hz hw hv (fun q => by omega) (fun _ q => by omega) (fun _ _ q => by omega) (fun _ _ _ q => by omega) (fun _ _ _ _ hz2 => ?_)
  have hj : w.toNat < 3 := by omega
  refine h2 _ _ (fun _ => ?_) ⟨n, k, ?_⟩
  · show some (zi (m 24 w.toNat)) = some (zi (m 79 w.toNat))
    rw [i5 _ hj]
  · have hF : zFr (inL [(24, none), (74, some 12), (79, none)]) m (zu (zu (zu m 24 w.toNat v) 74 12 0) 79 w.toNat v) := ((zFr.refl.set rfl).set rfl).set rfl
    refine ⟨hz2, Text_fr (.of hF rfl) i2, (Agree.of hF rfl).law.1 i3, House_fr (.of hF rfl) i4, fun j hj2 => ?_, Undo_fr (.of hF rfl) i6, Kept_fr (.of hF rfl) i7, Seen_fr (.of hF rfl) i8, Job_fr (.of hF rfl) i9, Now_fr (.of hF rfl) i10, Scr_fr (.of hF rfl) i11⟩
    by_cases e : j = w.toNat
    · subst e
      simp (disch := omega) only [zu_sm, zu_dn]
    · simp (disch := omega) only [zu_off, zu_dn]
      exact i5 j hj2
theorem w_job (hT : zRules T) {h d : Int} (hh : isI h) (hd : isI d) : Way T 153 278 [(0, zr 1), (1, zi h), (2, zi d)] [(0, zr 74), (1, zi h), (2, zi d)] 2 2 B B True := by
  rintro D m sc ⟨n, k, hI⟩ κ hκ
  have hI0 := hI
  obtain ⟨i1, i2, i3, i4, i5, i6, i7, i8, i9, i10, i11⟩ := hI
  have hB1 : zB (zu m 74 12 0) := zB_u i1 trivial
  have b64 : 0 ≤ m 64 2 ∧ m 64 2 ≤ 7 := i1 64 2
  have e54 := i9.1
  have no : ∀ v, (v = -1 ∧ ¬ (1 ≤ h ∧ h ≤ 20 ∧ 0 ≤ d ∧ d ≤ 99)) ∨ (v = -2 ∧ (1 ≤ h ∧ h ≤ 20 ∧ 0 ≤ d ∧ d ≤ 99) ∧ m 64 2 = 7) → κ (some (zi v)) m := by
    intro v hno
    refine hκ _ _ (fun D2 κ2 h2 => ?_)
    have fin : κ2 (some (zi v)) (zu m 74 12 0) := h2 _ _ (fun _ => rfl) ⟨n, k, Inv_fr (.of (L := [(74, some 12)]) (zFr.refl.set rfl) rfl) hB1 hI0⟩
    rcases hno with ⟨rfl, hno⟩ | ⟨rfl, hno, h7⟩
    · exact zb278_0 hT i1 hh hd (fun _ _ => fin) (fun _ _ _ => fin) (fun _ _ _ _ => fin) (fun _ _ _ _ _ => fin) (fun q1 q2 q3 q4 => absurd ⟨by omega, by omega, by omega, by omega⟩ hno) (fun q1 q2 q3 q4 => absurd ⟨by omega, by omega, by omega, by omega⟩ hno)
    · exact zb278_0 hT i1 hh hd (fun q => by omega) (fun _ q => by omega) (fun _ _ q => by omega) (fun _ _ _ q => by omega) (fun _ _ _ _ q => by omega) (fun _ _ _ _ _ _ => fin)
  refine zb153_0 hT i1 hh hd (fun q1 => no _ (by omega)) (fun q1 q2 => no _ (by omega)) (fun q1 q2 q3 => no _ (by omega)) (fun q1 q2 q3 q4 q5 hz => ?_) (fun q1 q2 q3 q4 q5 => no _ (by omega)) (fun q1 q2 q3 q4 => no _ (by omega))
  refine hκ _ _ (fun D2 κ2 h2 => ?_)
  have e54b : (zu (zu (zu m 65 (m 64 2).toNat h) 66 (m 64 2).toNat d) 64 2 (m 64 2 + 1)) 74 54 = m 64 2 := e54
  refine zb278_0 hT hz hh hd (fun q => by omega) (fun _ q => by omega) (fun _ _ q => by omega) (fun _ _ _ q => by omega) (fun _ _ _ _ _ hz2 => ?_) (fun _ _ _ _ q => by omega)
  rw [e54b] at hz2 ⊢
  refine h2 _ _ (fun _ => rfl) ⟨n, k, ?_⟩
  have hF : zFr (inL [(64, some 2), (65, none), (66, none), (74, some 12), (100, none), (74, some 54)]) m (zu (zu (zu (zu (zu (zu (zu m 65 (m 64 2).toNat h) 66 (m 64 2).toNat d) 64 2 (m 64 2 + 1)) 74 12 0) 100 (2 * m 64 2).toNat h) 100 (2 * m 64 2 + 1).toNat d) 74 54 (m 64 2 + 1)) := ((((((zFr.refl.set rfl).set rfl).set rfl).set rfl).set rfl).set rfl).set rfl
  refine ⟨hz2, Text_fr (.of hF rfl) i2, (Agree.of hF rfl).law.1 i3, House_fr (.of hF rfl) i4, Term_fr (.of hF rfl) i5, Undo_fr (.of hF rfl) i6, Kept_fr (.of hF rfl) i7, Seen_fr (.of hF rfl) i8, ⟨?_, fun i hi => ?_⟩, Now_fr (.of hF rfl) i10, Scr_fr (.of hF rfl) i11⟩
  · simp (disch := omega) only [zu_sm, zu_dn]
  · simp (disch := omega) only [zu_sm, zu_dn] at hi
    by_cases e : i = (m 64 2).toNat
    · subst e
      simp (disch := omega) only [zu_dn, zu_sm, zu_off]
      exact ⟨trivial, trivial, by omega⟩
    · simp (disch := omega) only [zu_dn, zu_off]
      exact i9.2 i (by omega)
theorem w_seen (hT : zRules T) {p q w v : Int} (hp : isI p) (hq : isI q) (hw : isI w) (hv : isI v) : Way T 148 273 [(0, zr 1), (1, zi p), (2, zi q), (3, zi w), (4, zi v)] [(0, zr 74), (1, zi p), (2, zi q), (3, zi w), (4, zi v)] 2 2 B B True := by
  rintro D m sc ⟨n, k, hI⟩ κ hκ
  have hI0 := hI
  obtain ⟨i1, i2, i3, i4, i5, i6, i7, i8, i9, i10, i11⟩ := hI
  have hB1 : zB (zu m 74 12 0) := zB_u i1 trivial
  have b59 : 0 ≤ m 59 4 ∧ m 59 4 ≤ 12 := i1 59 4
  have e52 := i8.1
  obtain ⟨n1, n2⟩ := i4.1
  have b17 : 0 ≤ m 17 0 ∧ m 17 0 ≤ 6 := i1 17 0
  have no : ¬ (0 ≤ p ∧ p < n ∧ 0 ≤ q ∧ q ≤ 3 ∧ 0 ≤ w ∧ w ≤ 9999 ∧ 0 ≤ v ∧ v ≤ 99 ∧ m 59 4 < 12) → κ (some (zi (-1))) m := by
    intro hno
    refine hκ _ _ (fun D2 κ2 h2 => ?_)
    have fin : κ2 (some (zi (-1))) (zu m 74 12 0) := h2 _ _ (fun _ => rfl) ⟨n, k, Inv_fr (.of (L := [(74, some 12)]) (zFr.refl.set rfl) rfl) hB1 hI0⟩
    exact zb273_0 hT i1 hp hq hw hv (fun _ _ => fin) (fun _ _ _ => fin) (fun _ _ _ _ => fin) (fun _ _ _ _ _ => fin) (fun _ _ _ _ _ _ => fin) (fun _ _ _ _ _ _ _ => fin) (fun _ _ _ _ _ _ _ _ => fin) (fun _ _ _ _ _ _ _ _ _ => fin) (fun q1 q2 q3 q4 q5 q6 q7 q8 q9 => absurd ⟨by omega, by omega, by omega, by omega, by omega, by omega, by omega, by omega, by omega⟩ hno) (fun _ _ _ _ _ _ _ _ _ _ => fin)
  refine zb148_0 hT i1 hp hq hw hv (fun q1 => no (by omega)) (fun q1 q2 => no (by omega)) (fun q1 q2 q3 => no (by omega)) (fun q1 q2 q3 q4 => no (by omega)) (fun q1 q2 q3 q4 q5 => no (by omega)) (fun q1 q2 q3 q4 q5 q6 => no (by omega)) (fun q1 q2 q3 q4 q5 q6 q7 => no (by omega)) (fun q1 q2 q3 q4 q5 q6 q7 q8 => no (by omega)) (fun q1 q2 q3 q4 q5 q6 q7 q8 q9 hz => ?_) (fun q1 q2 q3 q4 q5 q6 q7 q8 q9 => no (by omega))
  refine hκ _ _ (fun D2 κ2 h2 => ?_)
  have e52b : (zu (zu (zu (zu (zu m 60 (m 59 4).toNat p) 61 (m 59 4).toNat q) 62 (m 59 4).toNat w) 63 (m 59 4).toNat v) 59 4 (m 59 4 + 1)) 74 52 = m 59 4 := e52
  have e4b : (zu (zu (zu (zu (zu m 60 (m 59 4).toNat p) 61 (m 59 4).toNat q) 62 (m 59 4).toNat w) 63 (m 59 4).toNat v) 59 4 (m 59 4 + 1)) 74 4 = (n : Int) := n2
  refine zb273_0 hT hz hp hq hw hv (fun x => by omega) (fun _ x => by omega) (fun _ _ x => by omega) (fun _ _ _ x => by omega) (fun _ _ _ _ x => by omega) (fun _ _ _ _ _ x => by omega) (fun _ _ _ _ _ _ x => by omega) (fun _ _ _ _ _ _ _ x => by omega) (fun _ _ _ _ _ _ _ _ _ hz2 => ?_) (fun _ _ _ _ _ _ _ _ x => by omega)
  rw [e52b] at hz2 ⊢
  refine h2 _ _ (fun _ => rfl) ⟨n, k, ?_⟩
  have hF : zFr (inL [(59, some 4), (60, none), (61, none), (62, none), (63, none), (74, some 12), (99, none), (74, some 52)]) m (zu (zu (zu (zu (zu (zu (zu (zu (zu (zu (zu m 60 (m 59 4).toNat p) 61 (m 59 4).toNat q) 62 (m 59 4).toNat w) 63 (m 59 4).toNat v) 59 4 (m 59 4 + 1)) 74 12 0) 99 (4 * m 59 4).toNat p) 99 (4 * m 59 4 + 1).toNat q) 99 (4 * m 59 4 + 2).toNat w) 99 (4 * m 59 4 + 3).toNat v) 74 52 (m 59 4 + 1)) := ((((((((((zFr.refl.set rfl).set rfl).set rfl).set rfl).set rfl).set rfl).set rfl).set rfl).set rfl).set rfl).set rfl
  refine ⟨hz2, Text_fr (.of hF rfl) i2, (Agree.of hF rfl).law.1 i3, House_fr (.of hF rfl) i4, Term_fr (.of hF rfl) i5, Undo_fr (.of hF rfl) i6, Kept_fr (.of hF rfl) i7, ⟨?_, fun i hi => ?_⟩, Job_fr (.of hF rfl) i9, Now_fr (.of hF rfl) i10, Scr_fr (.of hF rfl) i11⟩
  · simp (disch := omega) only [zu_sm, zu_dn]
  · simp (disch := omega) only [zu_sm, zu_dn] at hi
    by_cases e : i = (m 59 4).toNat
    · subst e
      simp (disch := omega) only [zu_dn, zu_sm, zu_off]
      exact ⟨trivial, trivial, trivial, trivial, by omega⟩
    · simp (disch := omega) only [zu_dn, zu_off]
      exact i8.2 i (by omega)
theorem w_end (hT : zRules T) {v : Int} (hv : isI v) : Way T 113 196 [(0, zr 1), (1, zi v)] [(0, zr 74), (1, zi v)] 2 2 B B True := by
  rintro D m sc ⟨n, k, hI⟩ κ hκ
  have hI0 := hI
  obtain ⟨i1, i2, i3, i4, i5, i6, i7, i8, i9, i10, i11⟩ := hI
  have hB1 : zB (zu m 74 12 0) := zB_u i1 trivial
  have b21 : 0 ≤ m 2 1 ∧ m 2 1 ≤ 80 := i1 2 1
  have e9 := i2.1
  have no : ¬ (0 ≤ v ∧ v ≤ m 2 1) → κ (some (zi 0)) m := by
    intro hno
    refine hκ _ _ (fun D2 κ2 h2 => ?_)
    have fin : κ2 (some (zi 0)) (zu m 74 12 0) := h2 _ _ (fun _ => rfl) ⟨n, k, Inv_fr (.of (L := [(74, some 12)]) (zFr.refl.set rfl) rfl) hB1 hI0⟩
    exact zb196_0 hT i1 hv (fun _ _ => fin) (fun _ _ _ => fin) (fun q1 q2 => absurd ⟨by omega, by omega⟩ hno)
  refine zb113_0 hT i1 hv (fun q1 => no (by omega)) (fun q1 q2 hz => ?_) (fun q1 q2 => no (by omega))
  refine hκ _ _ (fun D2 κ2 h2 => ?_)
  have e9b : (zu m 2 1 v) 74 9 = m 2 1 := e9
  refine zb196_0 hT hz hv (fun q => by omega) (fun _ q => by omega) (fun _ _ hz2 => ?_)
  refine h2 _ _ (fun _ => rfl) ⟨n, k, ?_⟩
  have hF : zFr (inL [(2, some 1), (74, some 12), (74, some 9)]) m (zu (zu (zu m 2 1 v) 74 12 0) 74 9 v) := ((zFr.refl.set rfl).set rfl).set rfl
  refine ⟨hz2, ⟨?_, fun j hj => ?_⟩, (Agree.of hF rfl).law.1 i3, House_fr (.of hF rfl) i4, Term_fr (.of hF rfl) i5, Undo_fr (.of hF rfl) i6, Kept_fr (.of hF rfl) i7, Seen_fr (.of hF rfl) i8, Job_fr (.of hF rfl) i9, Now_fr (.of hF rfl) i10, Scr_fr (.of hF rfl) i11⟩
  · simp (disch := omega) only [zu_sm, zu_dn]
  · simp (disch := omega) only [zu_sm, zu_dn] at hj ⊢
    exact i2.2 j (by omega)
end ZWays1
end
-- 63.sign.lean.txt
section
/-! Four signs come behind THE TEXT. -/
theorem z_shrE (a : Int) {n : Nat} (hn : n ≤ 31) : z_shr a (n : Int) = wr a / 2 ^ n := by
  have e : (Int32.ofInt (n : Int)).toInt = (n : Int) := by rw [wrE]; exact wr_id (by omega) (by omega)
  have := s_shrI (x := Int32.ofInt a) (y := Int32.ofInt (n : Int)) (by omega) (by omega)
  rw [e, Int.toNat_natCast, wrE] at this
  exact this
theorem z_ushN (a : Int) {n : Nat} (hn : n ≤ 31) : z_ush a (n : Int) % 4294967296 = (a % 4294967296) / ((2 ^ n : Nat) : Int) := by
  have e : (Int32.ofInt (n : Int)).toInt = (n : Int) := by rw [wrE]; exact wr_id (by omega) (by omega)
  obtain ⟨e1, e2, e3⟩ := s_shN (y := Int32.ofInt (n : Int)) (by omega) (by omega)
  have eN0 : (Int32.ofInt (n : Int)).toBitVec.toNat = n := by omega
  have ey : Int32.ofInt (n : Int) = Int32.ofNat (Int32.ofInt (n : Int)).toBitVec.toNat := by
    apply Int32.toBitVec_inj.mp
    show (Int32.ofInt (n : Int)).toBitVec = BitVec.ofNat 32 (Int32.ofInt (n : Int)).toBitVec.toNat
    exact BitVec.eq_of_toNat_eq (by rw [BitVec.toNat_ofNat]; exact (Nat.mod_eq_of_lt (by omega)).symm)
  have eK := s_ushK (Int32.ofInt (n : Int)).toBitVec.toNat e2
  rw [← ey] at eK
  have eN : (((Int32.ofInt a).toUInt32 >>> ((Int32.ofInt (n : Int)).toUInt32 &&& Int32.toUInt32 31)).toInt32).toBitVec.toNat = (Int32.ofInt a).toBitVec.toNat / 2 ^ (Int32.ofInt (n : Int)).toBitVec.toNat := by
    show ((Int32.ofInt a).toUInt32 >>> ((Int32.ofInt (n : Int)).toUInt32 &&& Int32.toUInt32 31)).toBitVec.toNat = _
    rw [UInt32.toBitVec_shiftRight, eK]
    show ((Int32.ofInt a).toBitVec >>> (BitVec.ofNat 32 (Int32.ofInt (n : Int)).toBitVec.toNat).toNat).toNat = _
    rw [BitVec.toNat_ushiftRight, BitVec.toNat_ofNat, Nat.mod_eq_of_lt (show (Int32.ofInt (n : Int)).toBitVec.toNat < 2 ^ 32 by omega), Nat.shiftRight_eq_div_pow]
  rw [eN0] at eN
  have h1 := z_natS (z_ush a (n : Int))
  have h2 := z_natS a
  have h3 : (Int32.ofInt (z_ush a (n : Int))).toBitVec.toNat = (Int32.ofInt a).toBitVec.toNat / 2 ^ n := by
    have : Int32.ofInt (z_ush a (n : Int)) = ((Int32.ofInt a).toUInt32 >>> ((Int32.ofInt (n : Int)).toUInt32 &&& Int32.toUInt32 31)).toInt32 := z_ofN
    rw [this]
    exact eN
  rw [← h1, h3, ← h2]
  exact Int.natCast_ediv _ _
/-- the sign at t of the four -/
noncomputable def sg4 (v : Int) (t : Nat) : Int := (wr v / 2 ^ (24 - 8 * t)) % 256
theorem sg4C (v : Int) {t : Nat} (ht : t < 4) : z_and (z_ush v ((24 - 8 * t : Nat) : Int)) 255 % 65536 = sg4 v t := by
  rw [z_and255]
  have h := z_ushN v (n := 24 - 8 * t) (by omega)
  unfold sg4
  rw [wr_def]
  match t, ht with
  | 0, _ =>
    have h : z_ush v ((24 : Nat) : Int) % 4294967296 = (v % 4294967296) / 16777216 := h
    show z_ush v ((24 : Nat) : Int) % 256 % 65536 = ((v + 2147483648) % 4294967296 - 2147483648) / 16777216 % 256
    omega
  | 1, _ =>
    have h : z_ush v ((16 : Nat) : Int) % 4294967296 = (v % 4294967296) / 65536 := h
    show z_ush v ((16 : Nat) : Int) % 256 % 65536 = ((v + 2147483648) % 4294967296 - 2147483648) / 65536 % 256
    omega
  | 2, _ =>
    have h : z_ush v ((8 : Nat) : Int) % 4294967296 = (v % 4294967296) / 256 := h
    show z_ush v ((8 : Nat) : Int) % 256 % 65536 = ((v + 2147483648) % 4294967296 - 2147483648) / 256 % 256
    omega
  | 3, _ =>
    have h : z_ush v ((0 : Nat) : Int) % 4294967296 = (v % 4294967296) / 1 := h
    show z_ush v ((0 : Nat) : Int) % 256 % 65536 = ((v + 2147483648) % 4294967296 - 2147483648) / 1 % 256
    omega
theorem sg4R (v : Int) {t : Nat} (ht : t < 4) : z_b8 (z_shr v ((24 - 8 * t : Nat) : Int)) % 256 = sg4 v t := by
  rw [z_shrE v (by omega)]
  unfold sg4 z_b8
  omega
section ZSign
variable {T : Nat → Nat → zG → (Option zA → zM → Prop) → Prop} {B : Int}
theorem z_append (hT : zRules T) {D : Nat} {κ : Option zA → zM → Prop} {m : zM} {v : Int} {L : Nat} (hB : zB m) (hv : isI v) (hL : m 2 1 = (L : Int))
    (h1 : L ≤ 76 → ∀ M, zB M → zFr (inL [(2, some 1), (3, none)]) m M → M 2 1 = (L : Int) + 4 → (∀ j, j < L → M 3 j = m 3 j) → (∀ t, t < 4 → M 3 (L + t) = sg4 v t) → κ (some (zi ((L : Int) + 4))) M) (h2 : ¬ L ≤ 76 → κ (some (zi (-1))) m) : T (D + 1) 63 (0, [(0, zr 2), (1, zi v)], [], m) κ := by
  refine zb63_0 hT hB hv (fun q => ?_) (fun q => h2 (by omega))
  have h1 := h1 (by omega)
  have key : ∀ (j i : Nat) (sh : Int) (M : zM), i + j = 4 → sh = 24 - 8 * (i : Int) → zB M → zFr (inL [(2, some 1), (3, none)]) m M → M 2 1 = (L : Int) + i → (∀ t, t < L → M 3 t = m 3 t) → (∀ t, t < i → M 3 (L + t) = sg4 v t) → T (D + 1) 63 (14, [(0, zr 2), (1, zi v), (2, zi sh)], [], M) κ := by
    intro j
    induction j with
    | zero =>
      intro i sh M hi hsh hBM hF h21 hl hs
      refine zb63_14 hT rfl hBM hv (by omega) (by omega) (fun _ => ?_) (fun x => by omega) (fun x => by omega)
      have ei : i = 4 := by omega
      subst ei
      rw [h21]
      exact h1 M hBM hF h21 hl hs
    | succ j ih =>
      intro i sh M hi hsh hBM hF h21 hl hs
      refine zb63_14 hT rfl hBM hv (by omega) (by omega) (fun x => by omega) (fun _ => by omega) (fun _ => ?_)
      have es : sh = ((24 - 8 * i : Nat) : Int) := by omega
      have e1 : z_and (z_ush v sh) 255 % 65536 = sg4 v i := by rw [es]; exact sg4C v (by omega)
      have e2 : (M 2 1).toNat = L + i := by omega
      have b4 : 0 ≤ sg4 v i ∧ sg4 v i ≤ 255 := by unfold sg4; omega
      rw [e1, e2]
      refine ih (i + 1) _ _ (by omega) (by omega) (zB_u (zB_u hBM (show 0 ≤ sg4 v i ∧ sg4 v i ≤ 65535 by omega)) (show 0 ≤ M 2 1 + 1 ∧ M 2 1 + 1 ≤ 80 by omega)) ((hF.set rfl).set rfl) ?_ (fun t ht => ?_) (fun t ht => ?_)
      · rw [zu_sm rfl]
        omega
      · rw [zu_dn (by omega), zu_off (by omega)]
        exact hl t ht
      · rw [zu_dn (by omega)]
        by_cases e : t = i
        · subst e
          rw [zu_sm rfl]
        · rw [zu_off (by omega)]
          exact hs t (by omega)
  exact key 4 0 24 m (by omega) (by omega) hB zFr.refl (by omega) (fun _ _ => rfl) (fun t ht => by omega)
theorem z_signR (hT : zRules T) {D : Nat} {κ : Option zA → zM → Prop} {m : zM} {v : Int} {L : Nat} (hB : zB m) (hv : isI v) (hL : m 74 9 = (L : Int))
    (h1 : L ≤ 76 → ∀ M, zB M → zFr (inL [(74, some 9), (74, some 12), (80, none)]) m M → M 74 9 = (L : Int) + 4 → (∀ j, j < L → M 80 j = m 80 j) → (∀ t, t < 4 → M 80 (L + t) % 256 = sg4 v t) → κ (some (zi ((L : Int) + 4))) M) (h2 : ¬ L ≤ 76 → zB (zu m 74 12 0) → κ (some (zi (-1))) (zu m 74 12 0)) : T (D + 2) 195 (0, [(0, zr 74), (1, zi v)], [], m) κ := by
  refine zb195_0 hT hB hv (fun q hz => ?_) (fun q hz => h2 (by omega) hz)
  have h1 := h1 (by omega)
  have key : ∀ (j i : Nat) (k : Int) (M : zM), i + j = 4 → k = 3 - (i : Int) → zB M → zFr (inL [(74, some 9), (74, some 12), (80, none)]) m M → M 74 9 = (L : Int) + i → (∀ t, t < L → M 80 t = m 80 t) → (∀ t, t < i → M 80 (L + t) % 256 = sg4 v t) → T (D + 2) 195 (20, [(0, zr 74), (1, zi v), (2, zi k)], [], M) κ := by
    intro j
    induction j with
    | zero =>
      intro i k M hi hk hBM hF h21 hl hs
      refine zb195_20 hT rfl hBM hv (by omega) (fun _ => ?_) (fun x => by omega) (fun x => by omega)
      have ei : i = 4 := by omega
      subst ei
      rw [h21]
      exact h1 M hBM hF h21 hl hs
    | succ j ih =>
      intro i k M hi hk hBM hF h21 hl hs
      refine zb195_20 hT rfl hBM hv (by omega) (fun x => by omega) (fun _ => by omega) (fun _ => ?_)
      have es : 8 * k = ((24 - 8 * i : Nat) : Int) := by omega
      have e2 : (M 74 9).toNat = L + i := by omega
      have b4 := z_b8B (z_shr v (8 * k))
      rw [e2]
      refine ih (i + 1) _ _ (by omega) (by omega) (zB_u (zB_u hBM (show 0 ≤ M 74 9 + 1 ∧ M 74 9 + 1 ≤ 80 by omega)) (show -128 ≤ z_b8 (z_shr v (8 * k)) ∧ z_b8 (z_shr v (8 * k)) ≤ 127 from b4)) ((hF.set rfl).set rfl) ?_ (fun t ht => ?_) (fun t ht => ?_)
      · rw [zu_dn (by omega), zu_sm rfl]
        omega
      · rw [zu_off (by omega), zu_dn (by omega)]
        exact hl t ht
      · by_cases e : t = i
        · subst e
          rw [zu_sm rfl, es]
          exact sg4R v (by omega)
        · rw [zu_off (by omega), zu_dn (by omega)]
          exact hs t (by omega)
  exact key 4 0 3 _ (by omega) (by omega) hz (zFr.refl.set rfl) (by rw [zu_off (by omega)]; omega) (fun _ _ => rfl) (fun t ht => by omega)
theorem w_sign (hT : zRules T) {v : Int} (hv : isI v) : Way T 112 195 [(0, zr 1), (1, zi v)] [(0, zr 74), (1, zi v)] 2 2 B B True := by
  rintro D m sc ⟨n, k, hI⟩ κ hκ
  have hI0 := hI
  obtain ⟨i1, i2, i3, i4, i5, i6, i7, i8, i9, i10, i11⟩ := hI
  have b21 : 0 ≤ m 2 1 ∧ m 2 1 ≤ 80 := i1 2 1
  obtain ⟨L, hL⟩ : ∃ L : Nat, m 2 1 = (L : Int) := ⟨(m 2 1).toNat, by omega⟩
  refine zb112_0 hT i1 hv ?_
  refine z_append hT i1 hv hL (fun hl M hBM hF h21 g1 g2 => ?_) (fun hl => ?_)
  · refine zb112_8 hT rfl (by omega) (hκ _ _ (fun D2 κ2 h2 => ?_))
    have e9 : M 74 9 = (L : Int) := by rw [hF 74 9 rfl, i2.1, hL]
    refine z_signR hT hBM hv e9 (fun _ M2 hB2 hF2 h9 g3 g4 => ?_) (fun x => absurd hl x)
    refine h2 _ _ (fun _ => rfl) ⟨n, k, ?_⟩
    have hF1 : zFr (inL [(2, some 1), (3, none), (74, some 9), (74, some 12), (80, none)]) m M2 := (hF.sub (fun c j q => by
      simp only [inL, List.any_cons, Bool.or_eq_true] at q ⊢
      rcases q with q | q | q
      · exact Or.inl q
      · exact Or.inr (Or.inl q)
      · cases q)).trans (hF2.sub (fun c j q => by
      simp only [inL, List.any_cons, Bool.or_eq_true] at q ⊢
      exact Or.inr (Or.inr q)))
    refine ⟨hB2, ⟨?_, fun j hj => ?_⟩, (Agree.of hF1 rfl).law.1 i3, House_fr (.of hF1 rfl) i4, Term_fr (.of hF1 rfl) i5, Undo_fr (.of hF1 rfl) i6, Kept_fr (.of hF1 rfl) i7, Seen_fr (.of hF1 rfl) i8, Job_fr (.of hF1 rfl) i9, Now_fr (.of hF1 rfl) i10, Scr_fr (.of hF1 rfl) i11⟩
    · rw [h9, hF2 2 1 rfl, h21]
    · rw [hF2 2 1 rfl, h21] at hj
      rw [hF2 3 j rfl]
      by_cases q : j < L
      · rw [g1 j q, g3 j q, hF 80 j rfl]
        exact i2.2 j (by omega)
      · obtain ⟨t, ht⟩ : ∃ t, j = L + t := ⟨j - L, by omega⟩
        subst ht
        rw [g2 t (by omega), g4 t (by omega)]
  · refine zb112_8 hT rfl (by omega) (hκ _ _ (fun D2 κ2 h2 => ?_))
    refine z_signR hT i1 hv (i2.1.trans hL) (fun x => absurd x hl) (fun _ hz => ?_)
    exact h2 _ _ (fun _ => rfl) ⟨n, k, Inv_fr (.of (L := [(74, some 12)]) (zFr.refl.set rfl) rfl) hz hI0⟩
end ZSign
end
-- 64.ways2.lean.txt
section
/-! LIGHT, LAW, a year drawn. -/
section ZWays2
variable {T : Nat → Nat → zG → (Option zA → zM → Prop) → Prop} {B : Int}
theorem w_light (hT : zRules T) {p w : Int} (hp : isI p) (hw : isI w) : Way T 119 220 [(0, zr 1), (1, zi p), (2, zi w)] [(0, zr 74), (1, zi p), (2, zi w)] 2 2 B B True := by
  rintro D m sc ⟨n, k, hI⟩ κ hκ
  have hI0 := hI
  obtain ⟨i1, i2, i3, i4, i5, i6, i7, i8, i9, i10, i11⟩ := hI
  have hB1 : zB (zu m 74 12 0) := zB_u i1 trivial
  have hA12 : Agree coreK m (zu m 74 12 0) := .of (L := [(74, some 12)]) (zFr.refl.set rfl) rfl
  have e1 := i3.2.1.1
  have b44 : 0 ≤ m 4 4 ∧ m 4 4 ≤ 4 := i1 4 4
  have no : ¬ (0 ≤ p ∧ p < m 4 4 ∧ 0 ≤ w ∧ w ≤ 9999) → κ (some (zi (-1))) m := by
    intro hno
    refine hκ _ _ (fun D2 κ2 h2 => ?_)
    have fin : κ2 (some (zi (-1))) (zu m 74 12 0) := h2 _ _ (fun _ => rfl) ⟨n, k, Inv_fr hA12 hB1 hI0⟩
    exact zb220_0 hT i1 hp hw (fun _ _ => fin) (fun _ _ _ => fin) (fun _ _ _ _ => fin) (fun _ _ _ _ _ => fin) (fun q1 q2 q3 q4 => absurd ⟨by omega, by omega, by omega, by omega⟩ hno)
  have yes : 0 ≤ p → p < m 4 4 → 0 ≤ w → w ≤ 9999 → κ (some (zi (lgt m p.toNat w))) m := by
    intro q1 q2 q3 q4
    refine hκ _ _ (fun D2 κ2 h2 => ?_)
    obtain ⟨a, rfl⟩ : ∃ a : Nat, p = (a : Int) := ⟨p.toNat, by omega⟩
    rw [Int.toNat_natCast] at h2
    obtain ⟨g1, g2, g3⟩ := lgt_R i1 i3 q2 q3
    have bl : 0 ≤ lgt m a w ∧ lgt m a w ≤ 9 := i1 5 _
    refine zb220_0 hT i1 hp hw (fun x => by omega) (fun _ x => by omega) (fun _ _ x => by omega) (fun _ _ _ x => by omega) (fun _ _ _ _ hz => ?_)
    refine zb213_0 hT hz (by omega) (by omega) ⟨g2, g3⟩ ?_
    have e9 : (zu m 74 12 0) 76 (26 * (a : Int) + Int.tmod w ((zu m 74 12 0) 77 a)).toNat = lgt m a w := g1
    rw [e9]
    exact zb220_32 hT rfl bl (h2 _ _ (fun _ => rfl) ⟨n, k, Inv_fr hA12 hz hI0⟩)
  have wf : 0 ≤ p → p < m 4 4 → 1 ≤ m 6 p.toNat := fun q1 q2 => i3.1.1 p.toNat (by omega)
  have b6 : 0 ≤ m 6 p.toNat ∧ m 6 p.toNat ≤ 26 := i1 6 _
  refine zb119_0 hT i1 hp hw (fun q1 => no (by omega)) (fun q1 q2 => no (by omega)) (fun q1 q2 q3 => no (by omega)) (fun q1 q2 q3 q4 => no (by omega)) (fun q1 q2 q3 q4 q5 => ?_) (fun q1 q2 q3 q4 q5 => ?_) (fun q1 q2 q3 q4 q5 => ?_)
  · have := z_tmodB w (m 6 p.toNat) 25 (by omega) (by omega) (by omega)
    rw [wr_id (by omega) (by omega)]
    omega
  · have hm := z_tmodB w (m 6 p.toNat) 25 (by omega) (by omega) (by omega)
    have hy := yes (by omega) q4 (by omega) (by omega)
    unfold lgt at hy
    rw [wr_id (by omega) (by omega)]
    rw [show ((p.toNat : Nat) : Int) = p by omega] at hy
    exact hy
  · have := wf (by omega) q4
    omega
theorem w_law (hT : zRules T) {i p w : Int} (hi : isI i) (hp : isI p) (hw : isI w) : Way T 120 221 [(0, zr 1), (1, zi i), (2, zi p), (3, zi w)] [(0, zr 74), (1, zi i), (2, zi p), (3, zi w)] 5 171 B B True := by
  rintro D m sc ⟨n, k, hI⟩ κ hκ
  have hI0 := hI
  obtain ⟨i1, i2, i3, i4, i5, i6, i7, i8, i9, i10, i11⟩ := hI
  have hB1 : zB (zu m 74 12 0) := zB_u i1 trivial
  have hA12 : Agree coreK m (zu m 74 12 0) := .of (L := [(74, some 12)]) (zFr.refl.set rfl) rfl
  obtain ⟨n1, n2⟩ := i4.1
  have b17 : 0 ≤ m 17 0 ∧ m 17 0 ≤ 6 := i1 17 0
  have no : ¬ (0 ≤ i ∧ i < n ∧ 0 ≤ p ∧ p ≤ 3 ∧ 0 ≤ w ∧ w ≤ 9999) → κ (some (zi (-1))) m := by
    intro hno
    refine hκ _ _ (fun D2 κ2 h2 => ?_)
    have fin : κ2 (some (zi (-1))) (zu m 74 12 0) := h2 _ _ (fun _ => rfl) ⟨n, k, Inv_fr hA12 hB1 hI0⟩
    exact zb221_0 (D := D2 + 167) hT i1 hi hp hw (fun _ _ => fin) (fun _ _ _ => fin) (fun _ _ _ _ => fin) (fun _ _ _ _ _ => fin) (fun _ _ _ _ _ _ => fin) (fun _ _ _ _ _ _ _ => fin) (fun q1 q2 q3 q4 q5 q6 => absurd ⟨by omega, by omega, by omega, by omega, by omega, by omega⟩ hno)
  refine zb120_0 hT i1 hi hp hw (fun q1 => no (by omega)) (fun q1 q2 => no (by omega)) (fun q1 q2 q3 => no (by omega)) (fun q1 q2 q3 q4 => no (by omega)) (fun q1 q2 q3 q4 q5 => no (by omega)) (fun q1 q2 q3 q4 q5 q6 => no (by omega)) (fun q1 q2 q3 q4 q5 q6 => ?_)
  obtain ⟨a, rfl⟩ : ∃ a : Nat, i = (a : Int) := ⟨i.toNat, by omega⟩
  obtain ⟨pl, rfl⟩ : ∃ a : Nat, p = (a : Int) := ⟨p.toNat, by omega⟩
  obtain ⟨h78, h18⟩ := i4.2.2.1 a (by omega)
  refine z_lawAt hT i1 (by omega) (by omega) (by omega) (by omega) i3.1 (fun m1 hB2 hF => ?_)
  refine zb120_34 hT rfl LWB (hκ _ _ (fun D2 κ2 h2 => ?_))
  have hF1 : zFr (inL [(13, none)]) m m1 := hF.sub (fun c j q => by
    have := Nat.eq_of_beq_eq_true q
    subst this
    rfl)
  have hA1 : Agree coreK m m1 := .of hF1 rfl
  have e4 : m1 74 4 = (n : Int) := by rw [hF 74 4 rfl]; exact n2
  refine zb221_0 (D := D2 + 167) hT hB2 hi hp hw (fun x => by omega) (fun _ x => by omega) (fun _ _ x => by omega) (fun _ _ _ x => by omega) (fun _ _ _ _ x => by omega) (fun _ _ _ _ _ x => by omega) (fun _ _ _ _ _ _ hz => ?_)
  have hA2 : Agree coreK m (zu m1 74 12 0) := hA1.trans (.of (L := [(74, some 12)]) (zFr.refl.set rfl) rfl)
  have hI2 := Inv_fr hA2 hz hI0
  refine z_lawOf hT hz (by omega) (by omega) (by omega) hI2.2.2.1 (fun m2 hB3 hF3 => ?_)
  refine zb221_34 (D := D2 + 167) hT rfl LWB (h2 _ _ (fun _ => ?_) ⟨n, k, ?_⟩)
  · have hL : LW (zu m1 74 12 0) = LW m := (hA2.sub (K2 := KL) (fun q hq => List.mem_append.mpr (Or.inr (List.mem_append.mpr (Or.inl hq))))).law.2
    rw [hL, show (zu m1 74 12 0) 78 a = m 78 a from hA2 78 a rfl, h78]
  · refine Inv_fr (.of (L := [(74, some 13), (74, some 14), (74, some 15), (74, some 16), (74, some 17), (74, some 26), (74, some 27), (74, some 28), (74, some 29), (74, some 30)]) (hF3.sub lbWL) rfl) hB3 hI2
noncomputable def rr (s : Int) : Nat → Int
  | 0 => s
  | t + 1 => rr s t * 1103515245 + 12345
noncomputable def dv (s : Int) (t : Nat) : Int := Int.tmod (z_ush (rr s (t + 1)) 16) 10
theorem dvB (s : Int) (t : Nat) : 0 ≤ dv s t ∧ dv s t ≤ 9 := by
  have h1 := z_ushN (rr s (t + 1)) (n := 16) (by omega)
  have h2 := z_ushB (rr s (t + 1)) 16
  have h3 : z_ush (rr s (t + 1)) 16 % 4294967296 = (rr s (t + 1) % 4294967296) / 65536 := h1
  exact z_tmodB _ _ _ (by omega) (by omega) (by omega)
theorem z_drawOne (hT : zRules T) {D : Nat} {κ : Option zA → zM → Prop} {m : zM} {s : Int} {p n : Nat} (hB : zB m) (hp : p ≤ 3) (hn : n ≤ 26)
    (h : ∀ M, zB M → zFr (inL [(4, some 4), (5, none), (6, none)]) m M → (∀ t, t < n → M 5 (26 * p + t) = dv s t) → (∀ j, (j < 26 * p ∨ 26 * p + n ≤ j) → M 5 j = m 5 j) → M 6 p = (n : Int) → (∀ j, j ≠ p → M 6 j = m 6 j) → M 4 4 = (if m 4 4 < (p : Int) + 1 then (p : Int) + 1 else m 4 4) → κ (some (zi (if m 4 4 < (p : Int) + 1 then (p : Int) + 1 else m 4 4))) M) : T (D + 1) 5 (36, [(0, zr 4), (2, zi (p : Int)), (3, zi (n : Int)), (4, zi s), (5, zi 0)], [], m) κ := by
  have key : ∀ (j t : Nat) (M : zM), t + j = n → zB M → zFr (inL [(4, some 4), (5, none), (6, none)]) m M → (∀ u, u < t → M 5 (26 * p + u) = dv s u) → (∀ u, (u < 26 * p ∨ 26 * p + t ≤ u) → M 5 u = m 5 u) → M 6 = m 6 → M 4 4 = m 4 4 → T (D + 1) 5 (36, [(0, zr 4), (2, zi (p : Int)), (3, zi (n : Int)), (4, zi (rr s t)), (5, zi (t : Int))], [], M) κ := by
    intro j
    induction j with
    | zero =>
      intro t M ht hBM hF h1 h2 h3 h4
      have et : t = n := by omega
      subst et
      have fin : ∀ v, v = (if m 4 4 < (p : Int) + 1 then (p : Int) + 1 else m 4 4) → zB (zu (zu M 6 p (t : Int)) 4 4 v) → κ (some (zi v)) (zu (zu M 6 p (t : Int)) 4 4 v) := by
        intro v hv hz
        have := h _ hz ((hF.set rfl).set rfl) (fun u hu => by rw [zu_dn (by omega), zu_dn (by omega)]; exact h1 u hu) (fun u hu => by rw [zu_dn (by omega), zu_dn (by omega)]; exact h2 u hu) (by rw [zu_dn (by omega), zu_sm rfl]) (fun u hu => by rw [zu_dn (by omega), zu_off hu, h3]) (by rw [zu_sm rfl]; exact hv)
        rw [← hv] at this
        exact this
      refine zb5_36 hT rfl hBM hp hn (by omega) (fun _ q hz => ?_) (fun _ q hz => ?_) (fun q => by omega)
      · exact fin _ (by rw [if_pos (by omega)]) hz
      · exact fin _ (by rw [if_neg (by omega)]; exact h4) hz
    | succ j ih =>
      intro t M ht hBM hF h1 h2 h3 h4
      have bd := dvB s t
      refine zb5_36 hT rfl hBM hp hn (by omega) (fun q => by omega) (fun q => by omega) (fun _ => ?_)
      refine zd5 hT hp (by omega) ?_
      refine ih (t + 1) _ (by omega) (zB_u hBM (show 0 ≤ dv s t ∧ dv s t ≤ 9 from bd)) (hF.set rfl) (fun u hu => ?_) (fun u hu => ?_) ?_ ?_
      · by_cases e : u = t
        · subst e
          rw [zu_sm rfl]
          rfl
        · rw [zu_off (by omega)]
          exact h1 u (by omega)
      · rw [zu_off (by omega)]
        exact h2 u (by omega)
      · rw [zu_dnR (by omega)]
        exact h3
      · rw [zu_dn (by omega)]
        exact h4
  exact key n 0 m (by omega) hB zFr.refl (fun u hu => by omega) (fun _ _ => rfl) rfl rfl
theorem z_drawR (hT : zRules T) {D : Nat} {κ : Option zA → zM → Prop} {m : zM} {s : Int} {p n : Nat} (hB : zB m) (hp : p ≤ 3) (hn : n ≤ 26)
    (h : ∀ M, zB M → zFr (inL [(74, some 1), (76, none), (77, none)]) m M → (∀ t, t < n → M 76 (26 * p + t) = dv s t) → (∀ j, (j < 26 * p ∨ 26 * p + n ≤ j) → M 76 j = m 76 j) → M 77 p = (n : Int) → (∀ j, j ≠ p → M 77 j = m 77 j) → M 74 1 = (if m 74 1 < (p : Int) + 1 then (p : Int) + 1 else m 74 1) → κ (some (zi (if m 74 1 < (p : Int) + 1 then (p : Int) + 1 else m 74 1))) M) : T (D + 2) 286 (38, [(0, zr 74), (2, zi (p : Int)), (3, zi (n : Int)), (4, zi s), (5, zi 0)], [], m) κ := by
  have key : ∀ (j t : Nat) (M : zM), t + j = n → zB M → zFr (inL [(74, some 1), (76, none), (77, none)]) m M → (∀ u, u < t → M 76 (26 * p + u) = dv s u) → (∀ u, (u < 26 * p ∨ 26 * p + t ≤ u) → M 76 u = m 76 u) → M 77 = m 77 → M 74 1 = m 74 1 → T (D + 2) 286 (38, [(0, zr 74), (2, zi (p : Int)), (3, zi (n : Int)), (4, zi (rr s t)), (5, zi (t : Int))], [], M) κ := by
    intro j
    induction j with
    | zero =>
      intro t M ht hBM hF h1 h2 h3 h4
      have et : t = n := by omega
      subst et
      have fin : ∀ v, v = (if m 74 1 < (p : Int) + 1 then (p : Int) + 1 else m 74 1) → zB (zu (zu M 77 p (t : Int)) 74 1 v) → κ (some (zi v)) (zu (zu M 77 p (t : Int)) 74 1 v) := by
        intro v hv hz
        have := h _ hz ((hF.set rfl).set rfl) (fun u hu => by rw [zu_dn (by omega), zu_dn (by omega)]; exact h1 u hu) (fun u hu => by rw [zu_dn (by omega), zu_dn (by omega)]; exact h2 u hu) (by rw [zu_dn (by omega), zu_sm rfl]) (fun u hu => by rw [zu_dn (by omega), zu_off hu, h3]) (by rw [zu_sm rfl]; exact hv)
        rw [← hv] at this
        exact this
      refine zb286_38 hT rfl hBM hp hn (by omega) (fun _ q hz => ?_) (fun _ q hz => ?_) (fun q => by omega)
      · exact fin _ (by rw [if_pos (by omega)]) hz
      · exact fin _ (by rw [if_neg (by omega)]; exact h4) hz
    | succ j ih =>
      intro t M ht hBM hF h1 h2 h3 h4
      have bd := dvB s t
      refine zb286_38 hT rfl hBM hp hn (by omega) (fun q => by omega) (fun q => by omega) (fun _ => ?_)
      refine zd286 hT hp (by omega) ?_
      refine ih (t + 1) _ (by omega) (zB_u hBM (show 0 ≤ dv s t ∧ dv s t ≤ 9 from bd)) (hF.set rfl) (fun u hu => ?_) (fun u hu => ?_) ?_ ?_
      · by_cases e : u = t
        · subst e
          rw [zu_sm rfl]
          rfl
        · rw [zu_off (by omega)]
          exact h1 u (by omega)
      · rw [zu_off (by omega)]
        exact h2 u (by omega)
      · rw [zu_dnR (by omega)]
        exact h3
      · rw [zu_dn (by omega)]
        exact h4
  exact key n 0 m (by omega) hB zFr.refl (fun u hu => by omega) (fun _ _ => rfl) rfl rfl
theorem w_draw (hT : zRules T) {s p nn : Int} (hs : isI s) (hp : isI p) (hn : isI nn) : Way T 158 286 [(0, zr 1), (1, zi s), (2, zi p), (3, zi nn)] [(0, zr 74), (1, zi s), (2, zi p), (3, zi nn)] 2 2 B B True := by
  rintro D m sc ⟨n, k, hI⟩ κ hκ
  have hI0 := hI
  obtain ⟨i1, i2, i3, i4, i5, i6, i7, i8, i9, i10, i11⟩ := hI
  have hB1 : zB (zu m 74 12 0) := zB_u i1 trivial
  have hA12 : Agree coreK m (zu m 74 12 0) := .of (L := [(74, some 12)]) (zFr.refl.set rfl) rfl
  have e1 := i3.2.1.1
  have b44 : 0 ≤ m 4 4 ∧ m 4 4 ≤ 4 := i1 4 4
  have no : ¬ (0 ≤ p ∧ p ≤ m 4 4 ∧ p ≤ 3 ∧ 1 ≤ nn ∧ nn ≤ 26) → T (D + 2) 158 (10, [(0, zr 1), (1, zi s), (2, zi p), (3, zi nn)], [zi (-1)], m) κ := by
    intro hno
    refine zb158_10 hT rfl (by omega) (hκ _ _ (fun D2 κ2 h2 => ?_))
    have fin : κ2 (some (zi (-1))) (zu m 74 12 0) := h2 _ _ (fun _ => rfl) ⟨n, k, Inv_fr hA12 hB1 hI0⟩
    exact zb286_0 hT i1 hs hp hn (fun _ _ => fin) (fun _ _ _ => fin) (fun _ _ _ _ => fin) (fun _ _ _ _ _ => fin) (fun _ _ _ _ _ _ => fin) (fun q1 q2 q3 q4 q5 => absurd ⟨by omega, by omega, by omega, by omega, by omega⟩ hno)
  refine zb158_0 hT i1 hs hp hn ?_
  refine zb5_0 hT i1 hs hp hn (fun q1 => no (by omega)) (fun q1 q2 => no (by omega)) (fun q1 q2 q3 => no (by omega)) (fun q1 q2 q3 q4 => no (by omega)) (fun q1 q2 q3 q4 q5 => ?_) (fun q1 q2 q3 q4 q5 => no (by omega))
  obtain ⟨a, rfl⟩ : ∃ a : Nat, p = (a : Int) := ⟨p.toNat, by omega⟩
  obtain ⟨c, rfl⟩ : ∃ a : Nat, nn = (a : Int) := ⟨nn.toNat, by omega⟩
  refine z_drawOne hT i1 (by omega) (by omega) (fun M hBM hF g1 g2 g3 g4 g5 => ?_)
  have bpl : 0 ≤ (if m 4 4 < (a : Int) + 1 then (a : Int) + 1 else m 4 4) ∧ (if m 4 4 < (a : Int) + 1 then (a : Int) + 1 else m 4 4) ≤ 4 := by
    split <;> omega
  refine zb158_10 hT rfl (by omega) (hκ _ _ (fun D2 κ2 h2 => ?_))
  have e74 : M 74 1 = m 4 4 := by rw [hF 74 1 rfl]; exact e1
  refine zb286_0 hT hBM hs hp hn (fun x => by omega) (fun _ x => by omega) (fun _ _ x => by omega) (fun _ _ _ x => by omega) (fun _ _ _ _ x => by omega) (fun _ _ _ _ _ hz => ?_)
  refine z_drawR hT hz (by omega) (by omega) (fun M2 hB2 hF2 f1 f2 f3 f4 f5 => ?_)
  have e74b : (zu M 74 12 0) 74 1 = m 4 4 := e74
  rw [e74b] at f5 ⊢
  refine h2 _ _ (fun _ => rfl) ⟨n, k, ?_⟩
  have hF1 : zFr (inL [(4, some 4), (5, none), (6, none), (74, some 12), (74, some 1), (76, none), (77, none)]) m M2 := ((hF.sub (inL_sub (by decide))).set rfl).trans (hF2.sub (inL_sub (by decide)))
  have d4 : M2 4 4 = M 4 4 := hF2 4 4 rfl
  have d5 : ∀ j, M2 5 j = M 5 j := fun j => hF2 5 j rfl
  have d6 : ∀ j, M2 6 j = M 6 j := fun j => hF2 6 j rfl
  refine ⟨hB2, Text_fr (.of hF1 rfl) i2, ⟨⟨fun q hq => ?_, ?_⟩, ⟨?_, fun q hq => ?_⟩, ?_⟩, House_fr (.of hF1 rfl) i4, Term_fr (.of hF1 rfl) i5, Undo_fr (.of hF1 rfl) i6, Kept_fr (.of hF1 rfl) i7, Seen_fr (.of hF1 rfl) i8, Job_fr (.of hF1 rfl) i9, Now_fr (.of hF1 rfl) i10, Scr_fr (.of hF1 rfl) i11⟩
  · rw [d4, g5] at hq
    rw [d6]
    by_cases e : q = a
    · subst e
      rw [g3]
      omega
    · rw [g4 q e]
      refine i3.1.1 q ?_
      split at hq <;> omega
  · have ec : ∀ c, (c = 10 ∨ c = 11 ∨ c = 12) → M2 c = m c := fun c hc => by
      rcases hc with rfl | rfl | rfl <;> exact funext fun j => hF1 _ j rfl
    rw [ec 10 (by omega), ec 11 (by omega), ec 12 (by omega), hF1 9 4 rfl]
    exact i3.1.2
  · rw [f5, d4, g5]
  · rw [d4, g5] at hq
    rw [d6]
    by_cases e : q = a
    · subst e
      rw [f3, g3]
      refine ⟨rfl, fun t ht => ?_⟩
      rw [f1 t (by omega), d5, g1 t (by omega)]
    · have hq2 : (q : Int) < m 4 4 := by split at hq <;> omega
      obtain ⟨r1, r2⟩ := i3.2.1.2 q hq2
      have b6 : 0 ≤ m 6 q ∧ m 6 q ≤ 26 := i1 6 q
      rw [f4 q e, g4 q e]
      refine ⟨?_, fun t ht => ?_⟩
      · show (zu M 74 12 0) 77 q = _
        rw [zu_dn (by omega), hF 77 q rfl]
        exact r1
      · rw [f2 _ (by omega), d5, g2 _ (by omega)]
        show (zu M 74 12 0) 76 _ = _
        rw [zu_dn (by omega), hF 76 _ rfl]
        exact r2 t ht
  · have h9 : Agree [(9, some 4), (10, none), (11, none), (12, none), (74, some 25), (86, none)] m M2 := .of hF1 rfl
    have es : sQ M2 = sQ m := by
      funext x
      unfold sQ
      rw [h9 74 25 rfl, h9 86 x rfl]
    have er : ruleV M2 = ruleV m := by
      funext x
      unfold ruleV
      rw [h9 9 4 rfl, show M2 10 = m 10 from funext fun j => h9 10 j rfl, show M2 11 = m 11 from funext fun j => h9 11 j rfl, show M2 12 = m 12 from funext fun j => h9 12 j rfl]
    unfold RuleRel
    rw [h9 9 4 rfl, h9 74 25 rfl, es, er]
    exact i3.2.2
end ZWays2
end
