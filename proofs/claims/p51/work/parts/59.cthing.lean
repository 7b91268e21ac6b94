/-! A thing, signs ahead of it, an EXPRESSION within: read by the class. -/
section ZThingC
variable {T : Nat → Nat → zG → (Option zA → zM → Prop) → Prop} {m : zM} {s : Nat → Int} {L f : Nat}
theorem sC_fr {m M : zM} (hF : zFr cW m M) : sgC M = sgC m := by
  funext a
  have e1 : M 2 2 = m 2 2 := hF 2 2 rfl
  have e2 : M 3 a = m 3 a := hF 3 a rfl
  unfold sgC
  rw [e1, e2]
/-- what is read of a thing that has no - ahead of it -/
noncomputable def Ct (T : Nat → Nat → zG → (Option zA → zM → Prop) → Prop) (m : zM) (s : Nat → Int) (L f : Nat) : Prop := ∀ (D dp g a n : Nat) (M : zM) (κ : Option zA → zM → Prop), dp + g = 4 → zB M → zFr cW m M → M 2 3 = (a : Int) → DS M n → n ≤ a → a ≤ L → 4 * (L - a) + 1 ≤ f → ¬ s a = 45 → CK κ m M n a (rp s f 5 dp a e0f) → T (D + 6 * g + 8) 56 (0, [(0, zr 9), (1, zr 2), (2, zi (dp : Int))], [], M) κ
theorem cr_56 (hT : zRules T) (hsd : s = sgC m) (hL : L ≤ 40) (hs : ∀ a, L ≤ a → s a = -1) (h0 : Cs T m s L 52 0 4 12 f) : Ct T m s L (f + 1) := by
  intro D dp g a n M κ hdp hBM hF h23 hD hna ha hf h45 hκ
  have hlt : ∀ a, ¬ s a = -1 → a < L := fun a h => by
    rcases Nat.lt_or_ge a L with q | q
    · exact q
    · exact absurd (hs a q) h
  have hr : nxC M = s a := by rw [hsd]; exact nx_s hF h23
  have e98 := hD.1
  have n23 : (zu M 2 3 (M 2 3 + 1)) 2 3 = ((a + 1 : Nat) : Int) := by rw [zu_sm rfl]; omega
  rw [rp, if_neg (by omega), if_neg (by omega), if_neg (by omega), if_neg (by omega), if_neg (by omega), if_neg h45] at hκ
  have hD2 : DS (zu M 2 3 (M 2 3 + 1)) n := hD
  have letter : ∀ (sg : Int) (v : zEnv → Int), ¬ isOp sg → s a = sg → (∀ e, okE e → nodeV sg 0 0 (valsN (addP (zu M 2 3 (M 2 3 + 1)) sg 0 0 14) (addP (zu M 2 3 (M 2 3 + 1)) sg 0 0 15) (addP (zu M 2 3 (M 2 3 + 1)) sg 0 0 16) (fun _ => 0) e n) e = v e) → CK κ m M n a (.inr (a + 1, v)) → zB (addP (zu M 2 3 (M 2 3 + 1)) sg 0 0) → κ (some (zi (M 9 8 + 1 - 1))) (addP (zu M 2 3 (M 2 3 + 1)) sg 0 0) := by
    intro sg v hop hsa hv hκ hz
    have haL := hlt a (by intro q; rw [hsa] at q; subst q; exact hop ⟨by omega, by omega, by omega, by omega, by omega, by omega⟩)
    obtain ⟨p1, p2, p3, p4, p5⟩ := hD2.add (sg := sg) (v := 0) (w := 0) (fun q => absurd q hop)
    rw [show M 9 8 + 1 - 1 = (n : Int) by omega]
    refine hκ n (n + 1) _ hz (addP_fr (hF.set rfl)) (by rw [addP_23]; exact n23) p1 (by omega) p2 (by omega) (by dsimp only; omega) (fun e he => ?_)
    rw [pv_thing, p3, p4, p5]
    exact hv e he
  refine zb56_0 (D := D + 6 * g + 5) hT hBM (by omega) (by omega) ?_ ?_ ?_ ?_ ?_ ?_ ?_ ?_ ?_ ?_ ?_ ?_ ?_ ?_
  all_goals rw [hr]
  · intro c1 c2
    simp (disch := omega) only [if_neg] at hκ
    exact hκ M hBM hF h23
  · intro c1 c2
    rw [if_pos c2] at hκ
    have haL := hlt a (by omega)
    rcases Nat.lt_or_ge dp 4 with hd | hd
    · obtain ⟨g1, rfl⟩ : ∃ g1, g = g1 + 1 := ⟨g - 1, by omega⟩
      rw [if_pos hd] at hκ
      show T (D + 6 * g1 + 10 + 3) 57 (0, [(0, zr 9), (1, zr 2), (2, zi ((dp + 1 : Nat) : Int))], [], M) _
      refine zb57_0 (D := D + 6 * g1 + 10) hT hBM (by omega) (by omega) (fun _ hz => ?_) (fun q => by omega)
      have hok := rp_ok hs f 0 (dp + 1) (a + 1) e0f haL (fun _ => rfl)
      refine h0 D (dp + 1) g1 (a + 1) n _ _ (by omega) hz (hF.set rfl) n23 hD2 (by omega) haL (by omega) ?_
      revert hκ hok
      cases rp s f 0 (dp + 1) (a + 1) e0f with
      | inl x =>
        intro hκ hok M1 hB1 hF1 hx
        have := hok.2
        refine zb57_23 (D := D + 6 * g1 + 10) hT rfl hB1 (by omega) (by omega) (fun _ => ?_) (fun q => absurd rfl q) (fun q => absurd rfl q)
        exact zb56_44 (D := D + 6 * (g1 + 1) + 5) hT rfl (by omega) (hκ M1 hB1 hF1 hx)
      | inr y =>
        obtain ⟨b, w⟩ := y
        intro hκ hok j n1 M1 hB1 hF1 g23 hD1 hn1 hs1 hj hnb hw
        obtain ⟨⟨o1, o2, o3⟩, o4⟩ := hok
        dsimp only [rb] at hκ
        dsimp only at o1 o2 o3 o4 g23 hnb hw
        have hr1 : nxC M1 = s b := by rw [hsd]; exact nx_s hF1 g23
        refine zb57_23 (D := D + 6 * g1 + 10) hT rfl hB1 (by omega) (by omega) (fun q => by omega) (fun _ q hz1 => ?_) (fun _ q => ?_)
        · rw [hr1] at q
          rw [if_pos q] at hκ
          refine zb56_44 (D := D + 6 * (g1 + 1) + 5) hT rfl (by omega) ?_
          refine hκ j n1 _ hz1 (hF1.set rfl) ?_ hD1 (by omega) hs1 hj (by dsimp only; omega) hw
          rw [zu_sm rfl]
          dsimp only
          omega
        · rw [hr1] at q
          rw [if_neg q] at hκ
          exact zb56_44 (D := D + 6 * (g1 + 1) + 5) hT rfl (by omega) (hκ M1 hB1 hF1 g23)
    · rw [if_neg (by omega)] at hκ
      show T (D + 6 * g + 4 + 3) 57 (0, [(0, zr 9), (1, zr 2), (2, zi ((dp + 1 : Nat) : Int))], [], M) _
      refine zb57_0 (D := D + 6 * g + 4) hT hBM (by omega) (by omega) (fun q => by omega) (fun _ => ?_)
      exact zb56_44 (D := D + 6 * g + 5) hT rfl (by omega) (hκ M hBM hF h23)
  · intro c1 c2  c3 c4 hz
    rw [if_neg (by omega), if_neg (by omega), if_pos c3] at hκ
    rw [c3] at hz ⊢
    refine letter 104 _ (fun q => q.2.1 rfl) c3 (fun e he => ?_) hκ hz
    unfold nodeV
    simp (disch := omega) only [if_neg, if_pos]
    exact (he.1).symm
  · intro c1 c2  c3 c4
    have := hlt a (by omega)
    omega
  · intro c1 c2 d104 c3 c4 hz
    rw [if_neg (by omega), if_neg (by omega), if_neg d104, if_pos c3] at hκ
    rw [c3] at hz ⊢
    refine letter 108 _ (fun q => q.2.2.2.1 rfl) c3 (fun e he => ?_) hκ hz
    unfold nodeV
    simp (disch := omega) only [if_neg, if_pos]
    exact (he.2.1).symm
  · intro c1 c2 d104 c3 c4
    have := hlt a (by omega)
    omega
  · intro c1 c2 d104 d108 c3 c4 hz
    rw [if_neg (by omega), if_neg (by omega), if_neg d104, if_neg d108, if_pos c3] at hκ
    rw [c3] at hz ⊢
    refine letter 119 _ (fun q => q.2.2.2.2.2 rfl) c3 (fun e he => ?_) hκ hz
    unfold nodeV
    simp (disch := omega) only [if_neg, if_pos]
    exact (he.2.2.1).symm
  · intro c1 c2 d104 d108 c3 c4
    have := hlt a (by omega)
    omega
  · intro c1 c2 d104 d108 d119 c3 c4 hz
    rw [if_neg (by omega), if_neg (by omega), if_neg d104, if_neg d108, if_neg d119, if_pos c3] at hκ
    rw [c3] at hz ⊢
    refine letter 112 _ (fun q => q.2.2.2.2.1 rfl) c3 (fun e he => ?_) hκ hz
    unfold nodeV
    simp (disch := omega) only [if_neg, if_pos]
    exact (he.2.2.2.1).symm
  · intro c1 c2 d104 d108 d119 c3 c4
    have := hlt a (by omega)
    omega
  · intro c1 c2 d104 d108 d119 d112 c3 c4 hz
    rw [if_neg (by omega), if_neg (by omega), if_neg d104, if_neg d108, if_neg d119, if_neg d112, if_pos c3] at hκ
    rw [c3] at hz ⊢
    refine letter 105 _ (fun q => q.2.2.1 rfl) c3 (fun e he => ?_) hκ hz
    unfold nodeV
    simp (disch := omega) only [if_neg, if_pos]
    exact (he.2.2.2.2).symm
  · intro c1 c2 d104 d108 d119 d112 c3 c4
    have := hlt a (by omega)
    omega
  · intro c1 c2 c3 c4 c5 c6 c7
    simp (disch := omega) only [if_neg] at hκ
    exact hκ M hBM hF h23
  · intro c1 c2
    have haL := hlt a (by omega)
    rw [if_neg (by omega), if_pos (by omega)] at hκ
    have hsM : sgC M = s := by rw [sC_fr hF, hsd]
    refine z_num_3 (D := D + 6 * g + 4) hT hBM h23 (by omega) (fun q1 q2 hz => ?_) (fun q => absurd (by rw [hsM]; omega) q)
    rw [hsM] at hz ⊢
    obtain ⟨g1, g2⟩ := rNum1 hs (a := a) (by omega)
    have g3 := rNumV (s := s) a
    have hD3 : DS (zu M 2 3 ((rNum s 3 a 0).1 : Int)) n := hD
    have e98b : (zu M 2 3 ((rNum s 3 a 0).1 : Int)) 9 8 = (n : Int) := e98
    refine zb56_25 (D := D + 6 * g + 5) hT rfl hz g3 (by omega) (fun hz1 => ?_)
    obtain ⟨p1, p2, p3, p4, p5⟩ := hD3.add (sg := 48) (v := (rNum s 3 a 0).2) (w := 0) (fun q => absurd rfl q.1)
    rw [show (zu M 2 3 ((rNum s 3 a 0).1 : Int)) 9 8 + 1 - 1 = (n : Int) by omega]
    refine hκ n (n + 1) _ hz1 (addP_fr (hF.set rfl)) (by show addP _ _ _ _ 2 3 = _; rw [addP_23, zu_sm rfl]) p1 (by omega) p2 (by omega) (by dsimp only; omega) (fun e he => ?_)
    rw [pv_thing]
    show nodeV (addP _ 48 _ 0 14 n) (addP _ 48 _ 0 15 n) (addP _ 48 _ 0 16 n) _ e = _
    rw [p3, p4, p5]
    rfl
/-- a negation of what is read -/
noncomputable def ngP (x : rP) : rP := rb x (fun b v => .inr (b, fun e => wr (-(v e))))
theorem ngP2 {L kd a : Nat} {x : rP} (h : rOK L kd a x) : ngP (ngP x) = x := by
  rcases x with x | ⟨b, v⟩
  · rfl
  · show Sum.inr (b, fun e => wr (-(wr (-(v e))))) = Sum.inr (b, v)
    have e : (fun e => wr (-(wr (-(v e))))) = v := by
      funext e
      have h1 := h.2 e
      dsimp only at h1
      have h2 : wr (0 - wr (-(v e))) = wr (0 - -(v e)) := wr_sub2 rfl (wr_wr _)
      rw [show -(wr (-(v e))) = 0 - wr (-(v e)) by omega, h2, show (0 : Int) - -(v e) = v e by omega, h1]
    rw [e]
theorem cr_55 (hT : zRules T) (hsd : s = sgC m) (hL : L ≤ 40) (hs : ∀ a, L ≤ a → s a = -1) (h5 : ∀ f1, f1 ≤ f → Ct T m s L f1) : Cs T m s L 55 5 1 9 f := by
  have hlt : ∀ a, ¬ s a = -1 → a < L := fun a h => by
    rcases Nat.lt_or_ge a L with q | q
    · exact q
    · exact absurd (hs a q) h
  -- ng: whether it is negated so far; a0, n0: where it began
  have key : ∀ (f1 : Nat), f1 ≤ f → ∀ (D dp g a a0 n t : Nat) (ng : Bool) (M M0 : zM) (κ : Option zA → zM → Prop), dp + g = 4 → zB M → zFr cW m M → M 2 3 = (a : Int) → DS M n → n ≤ a0 → a0 + t = a → sameD n M0 M → a ≤ L → 4 * (L - a) + 1 ≤ f1 → (ng = true → 1 ≤ t) → CK κ m M0 n a0 (bif ng then ngP (rp s f1 5 dp a e0f) else rp s f1 5 dp a e0f) → T (D + 6 * g + 9) 55 (5, [(0, zr 9), (1, zr 2), (2, zi (dp : Int)), (3, zi (bif ng then 1 else 0)), (4, zi (t : Int))], [], M) κ := by
    intro f1
    induction f1 with
    | zero => intro _ D dp g a a0 n t ng M M0 κ _ _ _ _ _ _ _ _ _ h; omega
    | succ f1 ih =>
      intro hf1 D dp g a a0 n t ng M M0 κ hdp hBM hF h23 hD hn0 hat hs0 ha hf hng hκ
      have hr : nxC M = s a := by rw [hsd]; exact nx_s hF h23
      have n23 : (zu M 2 3 (M 2 3 + 1)) 2 3 = ((a + 1 : Nat) : Int) := by rw [zu_sm rfl]; omega
      have hb01 : 0 ≤ (bif ng then (1 : Int) else 0) ∧ (bif ng then (1 : Int) else 0) ≤ 1 := by cases ng <;> exact ⟨by decide, by decide⟩
      have thing : ¬ s a = 45 → T (D + 6 * g + 8) 56 (0, [(0, zr 9), (1, zr 2), (2, zi (dp : Int))], [], M) (fun r m1 => T (D + 6 * g + 9) 55 (43, [(0, zr 9), (1, zr 2), (2, zi (dp : Int)), (3, zi (bif ng then 1 else 0)), (4, zi (t : Int))], r.toList ++ [], m1) κ) := by
        intro h45
        refine h5 (f1 + 1) hf1 D dp g a n M _ hdp hBM hF h23 hD (by omega) ha hf h45 ?_
        have hok := rp_ok hs (f1 + 1) 5 dp a e0f ha (fun _ => rfl)
        revert hκ hok
        cases rp s (f1 + 1) 5 dp a e0f with
        | inl x =>
          intro hκ hok M1 hB1 hF1 hx
          refine zb55_43b (D := D + 6 * g + 6) hT rfl hb01 (fun _ => ?_) (fun _ => ?_)
          · cases ng <;> exact hκ M1 hB1 hF1 hx
          · cases ng <;> exact hκ M1 hB1 hF1 hx
        | inr y =>
          obtain ⟨b, w⟩ := y
          intro hκ hok j n1 M1 hB1 hF1 g23 hD1 hn1 hs1 hj hnb hw
          obtain ⟨⟨o1, o2, o3⟩, o4⟩ := hok
          dsimp only at o1 o2 o3 o4 g23 hnb hw
          have e98 := hD1.1
          cases ng with
          | false =>
            by_cases h40 : n1 ≤ 39
            · refine zb55_43 (D := D + 6 * g + 6) hT rfl hB1 hb01 (by omega) (by omega) (fun _ => ?_) (fun q => absurd rfl q) (fun q => absurd rfl q)
              exact hκ j n1 M1 hB1 hF1 g23 hD1 hn1 (hs0.trans hs1 (Nat.le_refl n)) hj (by dsimp only; omega) hw
            · refine zb55_43c (D := D + 6 * g + 6) hT rfl (by omega) ?_
              exact hκ j n1 M1 hB1 hF1 g23 hD1 hn1 (hs0.trans hs1 (Nat.le_refl n)) hj (by dsimp only; omega) hw
          | true =>
            have ht := hng rfl
            refine zb55_43 (D := D + 6 * g + 6) hT rfl hB1 hb01 (by omega) (by omega) (fun q => absurd q (by decide)) (fun _ q => by omega) (fun _ _ hz1 => ?_)
            obtain ⟨p1, p2, p3, p4, p5⟩ := hD1.add (sg := 126) (v := (j : Int)) (w := (j : Int)) (fun _ => by omega)
            have p23 : addP M1 126 (j : Int) (j : Int) 2 3 = (b : Int) := by rw [addP_23]; exact g23
            rw [show M1 9 8 + 1 - 1 = (n1 : Int) by omega]
            have ho : isOp 126 := ⟨by omega, by omega, by omega, by omega, by omega, by omega⟩
            refine hκ n1 (n1 + 1) (addP M1 126 (j : Int) (j : Int)) hz1 (addP_fr hF1) p23 p1 (by omega) ((hs0.trans hs1 (Nat.le_refl n)).trans p2 hn1) (by omega) (by dsimp only; omega) (fun e he => ?_)
            rw [addOp hD1 (by omega) (by omega) ho, hw e he]
            rw [joinV_126]
      by_cases ht40 : t < 40
      · refine zb55_5 (D := D + 6 * g + 6) hT rfl hBM (by omega) hb01 (by omega) (by omega) (fun q => by omega) (fun _ c1 c2 hz => ?_) (fun _ c1 c2 hz => ?_) (fun _ c1 => ?_)
        · rw [hr] at c1
          have haL := hlt a (by omega)
          have e45 : rp s (f1 + 1) 5 dp a e0f = ngP (rp s f1 5 dp (a + 1) e0f) := by
            rw [rp, if_neg (by omega), if_neg (by omega), if_neg (by omega), if_neg (by omega), if_neg (by omega), if_pos c1]
            rfl
          have hng1 : ng = true := by
            cases ng
            · exact absurd rfl c2
            · rfl
          subst hng1
          rw [e45, cond_true, ngP2 (rp_ok hs f1 5 dp (a + 1) e0f haL (fun _ => rfl))] at hκ
          exact ih (by omega) D dp g (a + 1) a0 n (t + 1) false _ M0 κ hdp hz (hF.set rfl) n23 hD hn0 (by omega) hs0 haL (by omega) (fun q => by cases q) hκ
        · rw [hr] at c1
          have haL := hlt a (by omega)
          have e45 : rp s (f1 + 1) 5 dp a e0f = ngP (rp s f1 5 dp (a + 1) e0f) := by
            rw [rp, if_neg (by omega), if_neg (by omega), if_neg (by omega), if_neg (by omega), if_neg (by omega), if_pos c1]
            rfl
          have hng1 : ng = false := by
            cases ng
            · rfl
            · exact absurd c2 (by decide)
          subst hng1
          rw [e45, cond_false] at hκ
          exact ih (by omega) D dp g (a + 1) a0 n (t + 1) true _ M0 κ hdp hz (hF.set rfl) n23 hD hn0 (by omega) hs0 haL (by omega) (fun _ => by omega) hκ
        · rw [hr] at c1
          exact thing c1
      · have hsa := hs a (by omega)
        exact zb55_5 (D := D + 6 * g + 6) hT rfl hBM (by omega) hb01 (by omega) (by omega) (fun _ => thing (by omega)) (fun q => absurd q (by omega)) (fun q => absurd q (by omega)) (fun q => absurd q (by omega))
  intro D dp g a n M κ hdp hBM hF h23 hD hna ha hf hκ
  exact zb55_0 (D := D + 6 * g + 6) hT (by omega) (key f (Nat.le_refl f) D dp g a a n 0 false M M κ hdp hBM hF h23 hD hna (by omega) sameD.refl ha hf (fun q => by cases q) hκ)
theorem cr_all (hT : zRules T) (hsd : s = sgC m) (hL : L ≤ 40) (hs : ∀ a, L ≤ a → s a = -1) : ∀ f, Cs T m s L 52 0 4 12 f ∧ Cs T m s L 53 1 3 11 f ∧ Cl T m s L 53 2 11 f ∧ Cs T m s L 54 3 2 10 f ∧ Cl T m s L 54 4 10 f ∧ Cs T m s L 55 5 1 9 f ∧ ∀ f1, f1 ≤ f → Ct T m s L f1 := by
  intro f
  induction f with
  | zero =>
    have h5 : ∀ f1, f1 ≤ 0 → Ct T m s L f1 := fun f1 h1 D dp g a n M κ _ _ _ _ _ _ _ h => by omega
    exact ⟨fun D dp g a n M κ _ _ _ _ _ _ _ h => by omega, fun D dp g a n M κ _ _ _ _ _ _ _ h => by omega, fun D dp g a a0 n n0 i t M M0 κ acc _ _ _ _ _ _ _ _ _ _ _ _ _ h => by omega, fun D dp g a n M κ _ _ _ _ _ _ _ h => by omega, fun D dp g a a0 n n0 i t M M0 κ acc _ _ _ _ _ _ _ _ _ _ _ _ _ h => by omega, cr_55 hT hsd hL hs h5, h5⟩
  | succ f ih =>
    obtain ⟨i0, i1, i2, i3, i4, i5, i6⟩ := ih
    have h6 : ∀ f1, f1 ≤ f + 1 → Ct T m s L f1 := fun f1 h1 => by
      rcases Nat.lt_or_ge f1 (f + 1) with q | q
      · exact i6 f1 (by omega)
      · have e : f1 = f + 1 := by omega
        subst e
        exact cr_56 hT hsd hL hs i0
    exact ⟨cr_52 hT hsd hL hs i1, cr_53 hT hL hs i3 i2, cr_53L hT hsd hL hs i3 i2, cr_54 hT hL hs i5 i4, cr_54L hT hsd hL hs i5 i4, cr_55 hT hsd hL hs h6, h6⟩
end ZThingC
