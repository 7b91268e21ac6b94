/-! THE RULE read by the class into parts. -/
/-- the worth of part k -/
noncomputable def pv (kd lf rg : Nat → Int) (e : zEnv) (k : Nat) : Int := valsN kd lf rg (fun _ => 0) e (k + 1) k
theorem valsN_top {kd lf rg g : Nat → Int} {e : zEnv} {k : Nat} : ∀ t, k < t → valsN kd lf rg g e t k = valsN kd lf rg g e (k + 1) k := by
  intro t
  induction t with
  | zero => intro h; omega
  | succ t ih =>
    intro h
    by_cases ek : k = t
    · subst ek
      rfl
    · rw [valsN, fu_ne ek]
      exact ih (by omega)
theorem valsN_congr {kd lf rg kd2 lf2 rg2 g : Nat → Int} {e : zEnv} : ∀ t, (∀ j, j < t → kd j = kd2 j ∧ lf j = lf2 j ∧ rg j = rg2 j) → valsN kd lf rg g e t = valsN kd2 lf2 rg2 g e t := by
  intro t
  induction t with
  | zero => intro _; rfl
  | succ t ih =>
    intro h
    obtain ⟨h1, h2, h3⟩ := h t (by omega)
    rw [valsN, valsN, ih (fun j hj => h j (by omega)), h1, h2, h3]
theorem pv_congr {kd lf rg kd2 lf2 rg2 : Nat → Int} {e : zEnv} {k : Nat} (h : ∀ j, j < k + 1 → kd j = kd2 j ∧ lf j = lf2 j ∧ rg j = rg2 j) : pv kd lf rg e k = pv kd2 lf2 rg2 e k := by
  unfold pv
  rw [valsN_congr (k + 1) h]
theorem pv_op {kd lf rg : Nat → Int} {e : zEnv} {k i j : Nat} (ho : isOp (kd k)) (hi : lf k = (i : Int)) (hj : rg k = (j : Int)) (hik : i < k) (hjk : j < k) : pv kd lf rg e k = wr (joinV (kd k) (pv kd lf rg e i) (pv kd lf rg e j)) := by
  obtain ⟨h1, h2, h3, h4, h5, h6⟩ := ho
  unfold pv
  rw [valsN, fu_eq rfl]
  unfold nodeV
  rw [if_neg h1, if_neg h2, if_neg h3, if_neg h4, if_neg h5, if_neg h6, hi, hj, Int.toNat_natCast, Int.toNat_natCast, valsN_top k hik, valsN_top k hjk]
theorem pv_thing {kd lf rg : Nat → Int} {e : zEnv} {k : Nat} : pv kd lf rg e k = nodeV (kd k) (lf k) (rg k) (valsN kd lf rg (fun _ => 0) e k) e := by
  unfold pv
  rw [valsN, fu_eq rfl]
/-- the signs that the class reads -/
noncomputable def sgC (m : zM) (a : Nat) : Int := if (a : Int) < m 2 2 then m 3 a else -1
noncomputable def cW (c j : Nat) : Bool := (Nat.beq c 2 && Nat.beq j 3) || (Nat.beq c 14 || (Nat.beq c 15 || (Nat.beq c 16 || (Nat.beq c 9 && Nat.beq j 8))))
noncomputable def DS (M : zM) (n : Nat) : Prop := M 9 8 = (n : Int) ∧ WFp (M 14) (M 15) (M 16) n
noncomputable def sameD (n : Nat) (M M1 : zM) : Prop := ∀ j, j < n → M1 14 j = M 14 j ∧ M1 15 j = M 15 j ∧ M1 16 j = M 16 j
theorem sameD.trans {n n1 : Nat} {M M1 M2 : zM} (h1 : sameD n M M1) (h2 : sameD n1 M1 M2) (h : n ≤ n1) : sameD n M M2 := fun j hj => by
  obtain ⟨a1, a2, a3⟩ := h1 j hj
  obtain ⟨b1, b2, b3⟩ := h2 j (by omega)
  exact ⟨b1.trans a1, b2.trans a2, b3.trans a3⟩
noncomputable def CK (κ : Option zA → zM → Prop) (m M : zM) (n a : Nat) (r : rP) : Prop := match r with
  | .inl x => ∀ (M1 : zM), zB M1 → zFr cW m M1 → M1 2 3 = (x : Int) → κ (some (zi (-1))) M1
  | .inr q => ∀ (k n1 : Nat) (M1 : zM), zB M1 → zFr cW m M1 → M1 2 3 = (q.1 : Int) → DS M1 n1 → n ≤ n1 → sameD n M M1 → n1 = k + 1 → n1 + a ≤ n + q.1 → (∀ e, okE e → pv (M1 14) (M1 15) (M1 16) e k = q.2 e) → κ (some (zi (k : Int))) M1
theorem nx_s {m M : zM} {a : Nat} (hF : zFr cW m M) (h : M 2 3 = (a : Int)) : nxC M = sgC m a := by
  have e1 : M 2 2 = m 2 2 := hF 2 2 rfl
  have e2 : M 3 a = m 3 a := hF 3 a rfl
  unfold nxC sgC
  rw [h, e1, Int.toNat_natCast, e2]
noncomputable def addP (M : zM) (sg v w : Int) : zM := zu (zu (zu (zu M 14 (M 9 8).toNat sg) 15 (M 9 8).toNat v) 16 (M 9 8).toNat w) 9 8 (M 9 8 + 1)
/-- one part more -/
theorem DS.add {M : zM} {n : Nat} {sg v w : Int} (hD : DS M n) (hw : isOp sg → (0 ≤ v ∧ v < n) ∧ (0 ≤ w ∧ w < n)) : DS (addP M sg v w) (n + 1) ∧ sameD n M (addP M sg v w) ∧ (addP M sg v w 14 n = sg ∧ addP M sg v w 15 n = v ∧ addP M sg v w 16 n = w) := by
  obtain ⟨d1, d2⟩ := hD
  have en : (M 9 8).toNat = n := by omega
  unfold addP
  rw [en]
  have hs : ∀ j, j < n → (zu (zu (zu (zu M 14 n sg) 15 n v) 16 n w) 9 8 (M 9 8 + 1)) 14 j = M 14 j ∧ (zu (zu (zu (zu M 14 n sg) 15 n v) 16 n w) 9 8 (M 9 8 + 1)) 15 j = M 15 j ∧ (zu (zu (zu (zu M 14 n sg) 15 n v) 16 n w) 9 8 (M 9 8 + 1)) 16 j = M 16 j := fun j hj => by
    refine ⟨?_, ?_, ?_⟩ <;> simp (disch := omega) only [zu_dn, zu_off]
  have hn : (zu (zu (zu (zu M 14 n sg) 15 n v) 16 n w) 9 8 (M 9 8 + 1)) 14 n = sg ∧ (zu (zu (zu (zu M 14 n sg) 15 n v) 16 n w) 9 8 (M 9 8 + 1)) 15 n = v ∧ (zu (zu (zu (zu M 14 n sg) 15 n v) 16 n w) 9 8 (M 9 8 + 1)) 16 n = w := by
    refine ⟨?_, ?_, ?_⟩ <;> simp (disch := omega) only [zu_dn, zu_sm]
  refine ⟨⟨?_, ?_⟩, hs, hn⟩
  · rw [zu_sm rfl, d1]
    omega
  · intro k hk ho
    by_cases e : k = n
    · subst e
      rw [hn.1] at ho
      rw [hn.2.1, hn.2.2]
      exact hw ho
    · obtain ⟨a1, a2, a3⟩ := hs k (by omega)
      rw [a1] at ho
      rw [a2, a3]
      exact d2 k (by omega) ho
theorem addP_fr {m M : zM} {sg v w : Int} (h : zFr cW m M) : zFr cW m (addP M sg v w) := (((h.set rfl).set rfl).set rfl).set rfl
theorem addP_23 {M : zM} {sg v w : Int} : addP M sg v w 2 3 = M 2 3 := by
  unfold addP
  simp (disch := omega) only [zu_dn]
theorem sameD.refl {n : Nat} {M : zM} : sameD n M M := fun _ _ => ⟨rfl, rfl, rfl⟩
theorem sameD.pv {n k : Nat} {M M1 : zM} {e : zEnv} (h : sameD n M M1) (hk : k < n) : pv (M1 14) (M1 15) (M1 16) e k = pv (M 14) (M 15) (M 16) e k := pv_congr (fun j hj => h j (by omega))
/-- an operation of two parts -/
theorem addOp {M1 : zM} {n1 i j : Nat} {sg : Int} (hD : DS M1 n1) (hi : i < n1) (hj : j < n1) (ho : isOp sg) (e : zEnv) : pv (addP M1 sg (i : Int) (j : Int) 14) (addP M1 sg (i : Int) (j : Int) 15) (addP M1 sg (i : Int) (j : Int) 16) e n1 = wr (joinV sg (pv (M1 14) (M1 15) (M1 16) e i) (pv (M1 14) (M1 15) (M1 16) e j)) := by
  obtain ⟨p1, p2, p3, p4, p5⟩ := hD.add (sg := sg) (v := (i : Int)) (w := (j : Int)) (fun _ => by omega)
  rw [pv_op (by rw [p3]; exact ho) p4 p5 hi hj, p3, p2.pv hi, p2.pv hj]
theorem joinV_42 {x y : Int} : joinV 42 x y = x * y := by
  unfold joinV
  simp
theorem joinV_43 {x y : Int} : joinV 43 x y = x + y := by
  unfold joinV
  simp
theorem joinV_45 {x y : Int} : joinV 45 x y = x - y := by
  unfold joinV
  simp
theorem joinV_47 {x y : Int} : joinV 47 x y = if wr y = 0 then 0 else Int.tdiv (wr x) (wr y) := by
  unfold joinV
  simp
theorem joinV_60 {x y : Int} : joinV 60 x y = if wr x < wr y then 1 else 0 := by
  unfold joinV
  simp
theorem joinV_61 {x y : Int} : joinV 61 x y = if wr x = wr y then 1 else 0 := by
  unfold joinV
  simp
theorem joinV_62 {x y : Int} : joinV 62 x y = if wr y < wr x then 1 else 0 := by
  unfold joinV
  simp
theorem joinV_126 {x y : Int} : joinV 126 x y = -x := by
  unfold joinV
  simp
theorem wr_ite {P : Prop} [Decidable P] : wr (if P then (1 : Int) else 0) = if P then 1 else 0 := by
  by_cases q : P
  · rw [if_pos q]
    rfl
  · rw [if_neg q]
    rfl
noncomputable def Cs (T : Nat → Nat → zG → (Option zA → zM → Prop) → Prop) (m : zM) (s : Nat → Int) (L k kd c x f : Nat) : Prop := ∀ (D dp g a n : Nat) (M : zM) (κ : Option zA → zM → Prop), dp + g = 4 → zB M → zFr cW m M → M 2 3 = (a : Int) → DS M n → n ≤ a → a ≤ L → 4 * (L - a) + c ≤ f → CK κ m M n a (rp s f kd dp a e0f) → T (D + 6 * g + x) k (0, [(0, zr 9), (1, zr 2), (2, zi (dp : Int))], [], M) κ
/-- a rest of a sum or a product: what stood ahead of it is part i, worth acc -/
noncomputable def Cl (T : Nat → Nat → zG → (Option zA → zM → Prop) → Prop) (m : zM) (s : Nat → Int) (L k kd x f : Nat) : Prop := ∀ (D dp g a a0 n n0 i t : Nat) (M M0 : zM) (κ : Option zA → zM → Prop) (acc : zEnv → Int), dp + g = 4 → zB M → zFr cW m M → M 2 3 = (a : Int) → DS M n → n0 ≤ n → sameD n0 M0 M → n = i + 1 → n + a0 ≤ n0 + a → n0 ≤ a0 → a0 ≤ a → a ≤ L → t ≤ a → 4 * (L - a) + 1 ≤ f → (∀ e, wr (acc e) = acc e) → (∀ e, okE e → pv (M 14) (M 15) (M 16) e i = acc e) → CK κ m M0 n0 a0 (rp s f kd dp a acc) → T (D + 6 * g + x) k (10, [(0, zr 9), (1, zr 2), (2, zi (dp : Int)), (3, zi (i : Int)), (4, zi (t : Int))], [], M) κ
section ZRead
variable {T : Nat → Nat → zG → (Option zA → zM → Prop) → Prop} {m : zM} {s : Nat → Int} {L f : Nat}
theorem cr_53 (hT : zRules T) (hL : L ≤ 40) (hs : ∀ a, L ≤ a → s a = -1) (h3 : Cs T m s L 54 3 2 10 f) (h2 : Cl T m s L 53 2 11 f) : Cs T m s L 53 1 3 11 (f + 1) := by
  intro D dp g a n M κ hdp hBM hF h23 hD hna ha hf hκ
  refine zb53_0 (D := D + 6 * g + 8) hT hBM (by omega) (by omega) ?_
  refine h3 D dp g a n M _ hdp hBM hF h23 hD hna ha (by omega) ?_
  rw [rp, if_neg (by omega), if_pos rfl] at hκ
  have hok := rp_ok hs f 3 dp a e0f ha (fun _ => rfl)
  revert hκ hok
  cases rp s f 3 dp a e0f with
  | inl x =>
    intro hκ hok M1 hB1 hF1 hx
    have := hok.2
    refine zb53_6 (D := D + 6 * g + 8) hT rfl hB1 (by omega) (by omega) (by omega) ?_
    exact zb53_10 (k := 0) (D := D + 6 * g + 8) hT rfl hB1 (by omega) (by omega) (by omega) (by omega) (fun q => by omega) (fun _ _ => hκ M1 hB1 hF1 hx) (fun _ q => absurd rfl q) (fun _ q => absurd rfl q) (fun _ q => absurd rfl q)
  | inr y =>
    obtain ⟨b, v⟩ := y
    intro hκ hok i n1 M1 hB1 hF1 g23 hD1 hn1 hs1 hi hnb hv
    obtain ⟨⟨o1, o2, o3⟩, o4⟩ := hok
    have o3 := o3 (by omega) (by omega)
    dsimp only at o1 o2 o3 o4 g23 hnb hv
    refine zb53_6 (D := D + 6 * g + 8) hT rfl hB1 (by omega) (by omega) (by omega) ?_
    exact h2 D dp g b a n1 n i 0 M1 M κ v hdp hB1 hF1 g23 hD1 hn1 hs1 hi hnb hna (by omega) o2 (by omega) (by omega) o4 hv hκ
theorem cr_53L (hT : zRules T) (hsd : s = sgC m) (hL : L ≤ 40) (hs : ∀ a, L ≤ a → s a = -1) (h3 : Cs T m s L 54 3 2 10 f) (h2 : Cl T m s L 53 2 11 f) : Cl T m s L 53 2 11 (f + 1) := by
  intro D dp g a a0 n n0 i t M M0 κ acc hdp hBM hF h23 hD hn0 hs0 hi hna hn00 haa ha ht hf hacc hv hκ
  have hlt : ∀ a, ¬ s a = -1 → a < L := fun a h => by
    rcases Nat.lt_or_ge a L with q | q
    · exact q
    · exact absurd (hs a q) h
  have hr : nxC M = s a := by rw [hsd]; exact nx_s hF h23
  have n23 : (zu M 2 3 (M 2 3 + 1)) 2 3 = ((a + 1 : Nat) : Int) := by rw [zu_sm rfl]; omega
  have hz : zB (zu M 2 3 (M 2 3 + 1)) := zB_u hBM (show -1 ≤ M 2 3 + 1 ∧ M 2 3 + 1 ≤ 100 by omega)
  have hD2 : DS (zu M 2 3 (M 2 3 + 1)) n := hD
  have fin : ¬ s a = 43 → ¬ s a = 45 → κ (some (zi (i : Int))) M := by
    intro c1 c2
    rw [rp, if_neg (by omega), if_neg (by omega), if_pos rfl, if_neg c1, if_neg c2] at hκ
    exact hκ i n M hBM hF h23 hD hn0 hs0 hi hna hv
  have step : ∀ (sg : Int) (op : Int → Int → Int), (sg = 43 ∨ sg = 45) → s a = sg → (∀ x y, wr x = x → wr y = y → wr (joinV sg x y) = op x y) → rp s (f + 1) 2 dp a acc = rb (rp s f 3 dp (a + 1) e0f) (fun b w => rp s f 2 dp b (fun e => op (acc e) (w e))) → T (D + 6 * g + 10) 54 (0, [(0, zr 9), (1, zr 2), (2, zi (dp : Int))], [], zu M 2 3 (M 2 3 + 1)) (fun r m1 => T (D + 6 * g + 11) 53 (60, [(0, zr 9), (1, zr 2), (2, zi (dp : Int)), (3, zi (i : Int)), (4, zi (t : Int)), (5, zi sg)], r.toList ++ [], m1) κ) := by
    intro sg op hsg hsa hop hrp
    rw [hrp] at hκ
    have haL := hlt a (by omega)
    have hok := rp_ok hs f 3 dp (a + 1) e0f haL (fun _ => rfl)
    refine h3 D dp g (a + 1) n _ _ hdp hz (hF.set rfl) n23 hD2 (by omega) haL (by omega) ?_
    revert hκ hok
    cases rp s f 3 dp (a + 1) e0f with
    | inl x =>
      intro hκ hok M1 hB1 hF1 hx
      have := hok.2
      refine zb53_60b (D := D + 6 * g + 8) hT rfl (by omega) (by omega) (by omega) (by omega) ?_
      exact zb53_10 (k := t + 1) (D := D + 6 * g + 8) hT rfl hB1 (by omega) (by omega) (by omega) (by omega) (fun _ => hκ M1 hB1 hF1 hx) (fun _ _ => hκ M1 hB1 hF1 hx) (fun _ q => absurd rfl q) (fun _ q => absurd rfl q) (fun _ q => absurd rfl q)
    | inr y =>
      obtain ⟨b, w⟩ := y
      intro hκ hok j n1 M1 hB1 hF1 g23 hD1 hn1 hs1 hj hnb hw
      obtain ⟨⟨o1, o2, o3⟩, o4⟩ := hok
      have o3 := o3 (by omega) (by omega)
      dsimp only [rb] at hκ
      dsimp only at o1 o2 o3 o4 g23 hnb hw
      have e98 := hD1.1
      have hop2 : isOp sg := by
        rcases hsg with q | q <;> (subst q; exact ⟨by omega, by omega, by omega, by omega, by omega, by omega⟩)
      refine zb53_60 (D := D + 6 * g + 8) hT rfl hB1 (by omega) (by omega) (by omega) (by omega) (by omega) (by omega) (fun _ hz1 => ?_) (fun q => by omega)
      obtain ⟨p1, p2, p3⟩ := hD1.add (sg := sg) (v := (i : Int)) (w := (j : Int)) (fun _ => by omega)
      have p23 : addP M1 sg (i : Int) (j : Int) 2 3 = (b : Int) := by rw [addP_23]; exact g23
      rw [show M1 9 8 + 1 - 1 = (n1 : Int) by omega]
      have hs9 : sameD n M M1 := hs1
      refine h2 D dp g b a0 (n1 + 1) n0 n1 (t + 1) (addP M1 sg (i : Int) (j : Int)) M0 κ _ hdp hz1 (addP_fr hF1) p23 p1 (by omega) ((hs0.trans hs9 hn0).trans p2 (by omega)) (by omega) (by omega) hn00 (by omega) o2 (by omega) (by omega) (fun e => ?_) (fun e he => ?_) hκ
      · rw [← hop _ _ (hacc e) (o4 e)]
        exact wr_wr _
      · rw [addOp hD1 (by omega) (by omega) hop2, hw e he, hs9.pv (by omega), hv e he]
        exact hop _ _ (hacc e) (o4 e)
  by_cases ht40 : t < 40
  · refine zb53_10 (D := D + 6 * g + 8) hT rfl hBM (by omega) (by omega) (by omega) (by omega) (fun q => by omega) (fun _ q => by omega) (fun _ _ c1 => ?_) (fun _ _ c1 c2 => ?_) (fun _ _ c1 c2 => ?_)
    · rw [hr] at c1 ⊢
      rw [c1]
      intro _
      refine step 43 (fun x y => wr (x + y)) (Or.inl rfl) c1 (fun x y hx hy => by rw [joinV_43]) ?_
      rw [rp, if_neg (by omega), if_neg (by omega), if_pos rfl, if_pos c1]
    · rw [hr] at c1 c2 ⊢
      rw [c2]
      intro _
      refine step 45 (fun x y => wr (x - y)) (Or.inr rfl) c2 (fun x y hx hy => by rw [joinV_45]) ?_
      rw [rp, if_neg (by omega), if_neg (by omega), if_pos rfl, if_neg c1, if_pos c2]
    · rw [hr] at c1 c2
      exact fin c1 c2
  · have hsa := hs a (by omega)
    exact zb53_10 (D := D + 6 * g + 8) hT rfl hBM (by omega) (by omega) (by omega) (by omega) (fun _ => fin (by omega) (by omega)) (fun q => absurd q (by omega)) (fun q => absurd q (by omega)) (fun q => absurd q (by omega)) (fun q => absurd q (by omega))
theorem cr_54 (hT : zRules T) (hL : L ≤ 40) (hs : ∀ a, L ≤ a → s a = -1) (h3 : Cs T m s L 55 5 1 9 f) (h2 : Cl T m s L 54 4 10 f) : Cs T m s L 54 3 2 10 (f + 1) := by
  intro D dp g a n M κ hdp hBM hF h23 hD hna ha hf hκ
  refine zb54_0 (D := D + 6 * g + 7) hT hBM (by omega) (by omega) ?_
  refine h3 D dp g a n M _ hdp hBM hF h23 hD hna ha (by omega) ?_
  rw [rp, if_neg (by omega), if_neg (by omega), if_neg (by omega), if_pos rfl] at hκ
  have hok := rp_ok hs f 5 dp a e0f ha (fun _ => rfl)
  revert hκ hok
  cases rp s f 5 dp a e0f with
  | inl x =>
    intro hκ hok M1 hB1 hF1 hx
    have := hok.2
    refine zb54_6 (D := D + 6 * g + 7) hT rfl hB1 (by omega) (by omega) (by omega) ?_
    exact zb54_10 (k := 0) (D := D + 6 * g + 7) hT rfl hB1 (by omega) (by omega) (by omega) (by omega) (fun q => by omega) (fun _ _ => hκ M1 hB1 hF1 hx) (fun _ q => absurd rfl q) (fun _ q => absurd rfl q) (fun _ q => absurd rfl q)
  | inr y =>
    obtain ⟨b, v⟩ := y
    intro hκ hok i n1 M1 hB1 hF1 g23 hD1 hn1 hs1 hi hnb hv
    obtain ⟨⟨o1, o2, o3⟩, o4⟩ := hok
    have o3 := o3 (by omega) (by omega)
    dsimp only at o1 o2 o3 o4 g23 hnb hv
    refine zb54_6 (D := D + 6 * g + 7) hT rfl hB1 (by omega) (by omega) (by omega) ?_
    exact h2 D dp g b a n1 n i 0 M1 M κ v hdp hB1 hF1 g23 hD1 hn1 hs1 hi hnb hna (by omega) o2 (by omega) (by omega) o4 hv hκ
theorem cr_54L (hT : zRules T) (hsd : s = sgC m) (hL : L ≤ 40) (hs : ∀ a, L ≤ a → s a = -1) (h3 : Cs T m s L 55 5 1 9 f) (h2 : Cl T m s L 54 4 10 f) : Cl T m s L 54 4 10 (f + 1) := by
  intro D dp g a a0 n n0 i t M M0 κ acc hdp hBM hF h23 hD hn0 hs0 hi hna hn00 haa ha ht hf hacc hv hκ
  have hlt : ∀ a, ¬ s a = -1 → a < L := fun a h => by
    rcases Nat.lt_or_ge a L with q | q
    · exact q
    · exact absurd (hs a q) h
  have hr : nxC M = s a := by rw [hsd]; exact nx_s hF h23
  have n23 : (zu M 2 3 (M 2 3 + 1)) 2 3 = ((a + 1 : Nat) : Int) := by rw [zu_sm rfl]; omega
  have hz : zB (zu M 2 3 (M 2 3 + 1)) := zB_u hBM (show -1 ≤ M 2 3 + 1 ∧ M 2 3 + 1 ≤ 100 by omega)
  have hD2 : DS (zu M 2 3 (M 2 3 + 1)) n := hD
  have fin : ¬ s a = 42 → ¬ s a = 47 → κ (some (zi (i : Int))) M := by
    intro c1 c2
    rw [rp, if_neg (by omega), if_neg (by omega), if_neg (by omega), if_neg (by omega), if_pos rfl, if_neg c1, if_neg c2] at hκ
    exact hκ i n M hBM hF h23 hD hn0 hs0 hi hna hv
  have step : ∀ (sg : Int) (op : Int → Int → Int), (sg = 42 ∨ sg = 47) → s a = sg → (∀ x y, wr x = x → wr y = y → wr (joinV sg x y) = op x y) → rp s (f + 1) 4 dp a acc = rb (rp s f 5 dp (a + 1) e0f) (fun b w => rp s f 4 dp b (fun e => op (acc e) (w e))) → T (D + 6 * g + 9) 55 (0, [(0, zr 9), (1, zr 2), (2, zi (dp : Int))], [], zu M 2 3 (M 2 3 + 1)) (fun r m1 => T (D + 6 * g + 10) 54 (60, [(0, zr 9), (1, zr 2), (2, zi (dp : Int)), (3, zi (i : Int)), (4, zi (t : Int)), (5, zi sg)], r.toList ++ [], m1) κ) := by
    intro sg op hsg hsa hop hrp
    rw [hrp] at hκ
    have haL := hlt a (by omega)
    have hok := rp_ok hs f 5 dp (a + 1) e0f haL (fun _ => rfl)
    refine h3 D dp g (a + 1) n _ _ hdp hz (hF.set rfl) n23 hD2 (by omega) haL (by omega) ?_
    revert hκ hok
    cases rp s f 5 dp (a + 1) e0f with
    | inl x =>
      intro hκ hok M1 hB1 hF1 hx
      have := hok.2
      refine zb54_60b (D := D + 6 * g + 7) hT rfl (by omega) (by omega) (by omega) (by omega) ?_
      exact zb54_10 (k := t + 1) (D := D + 6 * g + 7) hT rfl hB1 (by omega) (by omega) (by omega) (by omega) (fun _ => hκ M1 hB1 hF1 hx) (fun _ _ => hκ M1 hB1 hF1 hx) (fun _ q => absurd rfl q) (fun _ q => absurd rfl q) (fun _ q => absurd rfl q)
    | inr y =>
      obtain ⟨b, w⟩ := y
      intro hκ hok j n1 M1 hB1 hF1 g23 hD1 hn1 hs1 hj hnb hw
      obtain ⟨⟨o1, o2, o3⟩, o4⟩ := hok
      have o3 := o3 (by omega) (by omega)
      dsimp only [rb] at hκ
      dsimp only at o1 o2 o3 o4 g23 hnb hw
      have e98 := hD1.1
      have hop2 : isOp sg := by
        rcases hsg with q | q <;> (subst q; exact ⟨by omega, by omega, by omega, by omega, by omega, by omega⟩)
      refine zb54_60 (D := D + 6 * g + 7) hT rfl hB1 (by omega) (by omega) (by omega) (by omega) (by omega) (by omega) (fun _ hz1 => ?_) (fun q => by omega)
      obtain ⟨p1, p2, p3⟩ := hD1.add (sg := sg) (v := (i : Int)) (w := (j : Int)) (fun _ => by omega)
      have p23 : addP M1 sg (i : Int) (j : Int) 2 3 = (b : Int) := by rw [addP_23]; exact g23
      rw [show M1 9 8 + 1 - 1 = (n1 : Int) by omega]
      have hs9 : sameD n M M1 := hs1
      refine h2 D dp g b a0 (n1 + 1) n0 n1 (t + 1) (addP M1 sg (i : Int) (j : Int)) M0 κ _ hdp hz1 (addP_fr hF1) p23 p1 (by omega) ((hs0.trans hs9 hn0).trans p2 (by omega)) (by omega) (by omega) hn00 (by omega) o2 (by omega) (by omega) (fun e => ?_) (fun e he => ?_) hκ
      · rw [← hop _ _ (hacc e) (o4 e)]
        exact wr_wr _
      · rw [addOp hD1 (by omega) (by omega) hop2, hw e he, hs9.pv (by omega), hv e he]
        exact hop _ _ (hacc e) (o4 e)
  by_cases ht40 : t < 40
  · refine zb54_10 (D := D + 6 * g + 7) hT rfl hBM (by omega) (by omega) (by omega) (by omega) (fun q => by omega) (fun _ q => by omega) (fun _ _ c1 => ?_) (fun _ _ c1 c2 => ?_) (fun _ _ c1 c2 => ?_)
    · rw [hr] at c1 ⊢
      rw [c1]
      intro _
      refine step 42 (fun x y => wr (x * y)) (Or.inl rfl) c1 (fun x y hx hy => by rw [joinV_42]) ?_
      rw [rp, if_neg (by omega), if_neg (by omega), if_neg (by omega), if_neg (by omega), if_pos rfl, if_pos c1]
    · rw [hr] at c1 c2 ⊢
      rw [c2]
      intro _
      refine step 47 (fun x y => if y = 0 then 0 else wr (Int.tdiv x y)) (Or.inr rfl) c2 (fun x y hx hy => by
        rw [joinV_47, hx, hy]
        by_cases q : y = 0
        · rw [if_pos q, if_pos q]
          rfl
        · rw [if_neg q, if_neg q]) ?_
      rw [rp, if_neg (by omega), if_neg (by omega), if_neg (by omega), if_neg (by omega), if_pos rfl, if_neg c1, if_pos c2]
    · rw [hr] at c1 c2
      exact fin c1 c2
  · have hsa := hs a (by omega)
    exact zb54_10 (D := D + 6 * g + 7) hT rfl hBM (by omega) (by omega) (by omega) (by omega) (fun _ => fin (by omega) (by omega)) (fun q => absurd q (by omega)) (fun q => absurd q (by omega)) (fun q => absurd q (by omega)) (fun q => absurd q (by omega))
theorem cr_52 (hT : zRules T) (hsd : s = sgC m) (hL : L ≤ 40) (hs : ∀ a, L ≤ a → s a = -1) (h1 : Cs T m s L 53 1 3 11 f) : Cs T m s L 52 0 4 12 (f + 1) := by
  intro D dp g a n M κ hdp hBM hF h23 hD hna ha hf hκ
  have hlt : ∀ a, ¬ s a = -1 → a < L := fun a h => by
    rcases Nat.lt_or_ge a L with q | q
    · exact q
    · exact absurd (hs a q) h
  refine zb52_0 (D := D + 6 * g + 9) hT hBM (by omega) (by omega) ?_
  refine h1 D dp g a n M _ hdp hBM hF h23 hD hna ha (by omega) ?_
  rw [rp, if_pos rfl] at hκ
  have hok := rp_ok hs f 1 dp a e0f ha (fun _ => rfl)
  revert hκ hok
  cases rp s f 1 dp a e0f with
  | inl x =>
    intro hκ hok M1 hB1 hF1 hx
    have := hok.2
    exact zb52_6 (D := D + 6 * g + 9) hT rfl hB1 (by omega) (by omega) (by omega) (fun _ => hκ M1 hB1 hF1 hx) (fun q => absurd rfl q) (fun q => absurd rfl q) (fun q => absurd rfl q) (fun q => absurd rfl q)
  | inr y =>
    obtain ⟨b, v⟩ := y
    intro hκ hok i n1 M1 hB1 hF1 g23 hD1 hn1 hs1 hi hnb hv
    dsimp only [rb] at hκ
    obtain ⟨⟨o1, o2, o3⟩, o4⟩ := hok
    have o3 := o3 (by omega) (by omega)
    dsimp only at o1 o2 o3 o4 g23 hnb hv
    have hr : nxC M1 = s b := by rw [hsd]; exact nx_s hF1 g23
    have n23 : (zu M1 2 3 (M1 2 3 + 1)) 2 3 = ((b + 1 : Nat) : Int) := by rw [zu_sm rfl]; omega
    have hz : zB (zu M1 2 3 (M1 2 3 + 1)) := zB_u hB1 (show -1 ≤ M1 2 3 + 1 ∧ M1 2 3 + 1 ≤ 100 by omega)
    have hD2 : DS (zu M1 2 3 (M1 2 3 + 1)) n1 := hD1
    have step : ∀ (sg : Int) (op : Int → Int → Int), (sg = 60 ∨ sg = 62 ∨ sg = 61) → s b = sg → (∀ x y, wr x = x → wr y = y → wr (joinV sg x y) = op x y) → CK κ m M n a (rb (rp s f 1 dp (b + 1) e0f) (fun c w => .inr (c, fun e => op (v e) (w e)))) → T (D + 6 * g + 11) 53 (0, [(0, zr 9), (1, zr 2), (2, zi (dp : Int))], [], zu M1 2 3 (M1 2 3 + 1)) (fun r m1 => T (D + 6 * g + 12) 52 (57, [(0, zr 9), (1, zr 2), (2, zi (dp : Int)), (3, zi (i : Int)), (4, zi sg)], r.toList ++ [], m1) κ) := by
      intro sg op hsg hsb hop hκ
      have hbL := hlt b (by omega)
      have hok2 := rp_ok hs f 1 dp (b + 1) e0f hbL (fun _ => rfl)
      refine h1 D dp g (b + 1) n1 _ _ hdp hz (hF1.set rfl) n23 hD2 (by omega) hbL (by omega) ?_
      revert hκ hok2
      cases rp s f 1 dp (b + 1) e0f with
      | inl x =>
        intro hκ hok2 M2 hB2 hF2 hx
        exact zb52_57b (D := D + 6 * g + 9) hT rfl (by omega) (by omega) (hκ M2 hB2 hF2 hx)
      | inr y =>
        obtain ⟨c, w⟩ := y
        intro hκ hok2 j n2 M2 hB2 hF2 i23 hD3 hn2 hs2 hj hnc hw
        obtain ⟨⟨r1, r2, r3⟩, r4⟩ := hok2
        have r3 := r3 (by omega) (by omega)
        dsimp only [rb] at hκ
        dsimp only at r1 r2 r3 r4 i23 hnc hw
        have e98 := hD3.1
        have hop2 : isOp sg := by
          rcases hsg with q | q | q <;> (subst q; exact ⟨by omega, by omega, by omega, by omega, by omega, by omega⟩)
        refine zb52_57 (D := D + 6 * g + 9) hT rfl hB2 (by omega) (by omega) (by omega) (by omega) (fun _ hz1 => ?_) (fun q => by omega)
        obtain ⟨p1, p2, p3⟩ := hD3.add (sg := sg) (v := (i : Int)) (w := (j : Int)) (fun _ => by omega)
        have p23 : addP M2 sg (i : Int) (j : Int) 2 3 = (c : Int) := by rw [addP_23]; exact i23
        rw [show M2 9 8 + 1 - 1 = (n2 : Int) by omega]
        have hs9 : sameD n1 M1 M2 := hs2
        refine hκ n2 (n2 + 1) (addP M2 sg (i : Int) (j : Int)) hz1 (addP_fr hF2) p23 p1 (by omega) ((hs1.trans hs9 hn1).trans p2 (by omega)) (by omega) (by dsimp only; omega) (fun e he => ?_)
        rw [addOp hD3 (by omega) (by omega) hop2, hw e he, hs9.pv (by omega), hv e he]
        exact hop _ _ (o4 e) (r4 e)
    refine zb52_6 (D := D + 6 * g + 9) hT rfl hB1 (by omega) (by omega) (by omega) (fun q => by omega) (fun _ c1 => ?_) (fun _ c1 c2 => ?_) (fun _ c1 c2 c3 => ?_) (fun _ c1 c2 c3 => ?_)
    · rw [hr] at c1 ⊢
      rw [if_pos c1] at hκ
      rw [c1]
      intro _
      exact step 60 (fun x y => if x < y then 1 else 0) (Or.inl rfl) c1 (fun x y hx hy => by rw [joinV_60, hx, hy]; exact wr_ite) hκ
    · rw [hr] at c1 c2 ⊢
      rw [if_neg c1, if_pos c2] at hκ
      rw [c2]
      intro _
      exact step 62 (fun x y => if y < x then 1 else 0) (Or.inr (Or.inl rfl)) c2 (fun x y hx hy => by rw [joinV_62, hx, hy]; exact wr_ite) hκ
    · rw [hr] at c1 c2 c3 ⊢
      rw [if_neg c1, if_neg c2, if_pos c3] at hκ
      rw [c3]
      intro _
      exact step 61 (fun x y => if x = y then 1 else 0) (Or.inr (Or.inr rfl)) c3 (fun x y hx hy => by rw [joinV_61, hx, hy]; exact wr_ite) hκ
    · rw [hr] at c1 c2 c3
      rw [if_neg c1, if_neg c2, if_neg c3] at hκ
      exact hκ i n1 M1 hB1 hF1 g23 hD1 hn1 hs1 hi hnb hv
end ZRead
