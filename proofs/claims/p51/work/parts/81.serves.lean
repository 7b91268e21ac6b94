/-! serves(), best(), ahead(). -/
/-- rows are the same as far as they go -/
noncomputable def Eq59 (a b : zS) : Prop := (∀ j, j < 59 → a.1 j = b.1 j) ∧ a.2 = b.2
theorem fu_59 {g g2 : Nat → Int} {i : Nat} {x : Int} (h : ∀ j, j < 59 → g j = g2 j) : ∀ j, j < 59 → fu g i x j = fu g2 i x j := fun j hj => by
  unfold fu
  split
  · rfl
  · exact h j hj
theorem mkA_59 {h : Int} {a b : zS} {c : Nat} {v : Int} (hc : c ≤ 7) (e : Eq59 a b) : Eq59 (mkA h a c v) (mkA h b c v) := by
  obtain ⟨a1, a2, a3, a4⟩ := a
  obtain ⟨b1, b2, b3, b4⟩ := b
  obtain ⟨e1, e2⟩ := e
  cases e2
  dsimp only at e1
  unfold mkA
  dsimp only
  have x1 := e1 (c + 12) (by omega)
  have x2 := e1 (c + 20) (by omega)
  have x3 := e1 (c + 28) (by omega)
  have x4 := e1 56 (by omega)
  by_cases q1 : a1 (c + 12) = v
  · rw [if_pos q1, if_pos (show b1 (c + 12) = v by omega)]
    exact ⟨e1, rfl⟩
  · rw [if_neg q1, if_neg (show ¬ b1 (c + 12) = v by omega)]
    by_cases q2 : a1 (c + 12) + a1 (c + 20) < v
    · rw [if_pos q2, if_pos (show b1 (c + 12) + b1 (c + 20) < v by omega), x1, x2, x3]
      exact ⟨fu_59 (fu_59 (fu_59 e1)), rfl⟩
    · rw [if_neg q2, if_neg (show ¬ b1 (c + 12) + b1 (c + 20) < v by omega)]
      by_cases q3 : v + h < a1 (c + 12) + a1 (c + 20)
      · rw [if_pos q3, if_pos (show v + h < b1 (c + 12) + b1 (c + 20) by omega)]
        by_cases q4 : a1 56 = 20
        · rw [if_pos q4, if_pos (show b1 56 = 20 by omega), x1, x2]
          exact ⟨fu_59 (fu_59 e1), rfl⟩
        · rw [if_neg q4, if_neg (show ¬ b1 56 = 20 by omega), x1, x2, x4]
          exact ⟨fu_59 (fu_59 (fu_59 (fu_59 e1))), rfl⟩
      · rw [if_neg q3, if_neg (show ¬ v + h < b1 (c + 12) + b1 (c + 20) by omega), x1, x2]
        exact ⟨fu_59 (fu_59 e1), rfl⟩
theorem wkP_59 {L : Nat → Int → Int → Int} {h : Int} {n k : Nat} (hn : n ≤ 6) (hk : k ≤ 8) (hh : 0 ≤ h) : ∀ (j p : Nat) (a b : zS), okRow n k a.1 → p + j = n → Eq59 a b → Eq59 (wkP L h a p j) (wkP L h b p j) := by
  intro j
  induction j with
  | zero => intro p a b _ _ e; exact e
  | succ j ih =>
    intro p a b ho hp e
    have x1 := e.1 (p + 6) (by omega)
    rw [wkP, wkP]
    by_cases q : a.1 (p + 6) = -1
    · rw [if_pos q, if_pos (by omega)]
      exact ih (p + 1) a b ho (by omega) e
    · rw [if_neg q, if_neg (show ¬ b.1 (p + 6) = -1 by omega), ← x1, ← e.1 p (by omega), ← e.1 57 (by omega)]
      have hw := (ho.1 p (by omega)).2
      exact ih (p + 1) _ _ (ho.mk hn hk hh (by omega)) (by omega) (mkA_59 (by omega) e)
theorem wksA_59 {L : Nat → Int → Int → Int} {h : Int} {n k : Nat} (hn : n ≤ 6) (hk : k ≤ 8) (hh : 0 ≤ h) : ∀ (t : Nat) (a b : zS), okRow n k a.1 → Eq59 a b → Eq59 (wksA L h n a t) (wksA L h n b t) := by
  intro t
  induction t with
  | zero => intro a b _ e; exact e
  | succ t ih =>
    intro a b ho e
    rw [wksA, wksA]
    have h1 := wkP_59 (L := L) (h := h) hn hk hh n 0 a b ho (by omega) e
    refine ih _ _ (wkA_ok hn hk hh ho).1 ⟨?_, h1.2⟩
    unfold wkA
    rw [h1.1 57 (by omega)]
    exact fu_59 h1.1
section ZServes
variable {T : Nat → Nat → zG → (Option zA → zM → Prop) → Prop} {B : Int}
theorem z_srvR (hT : zRules T) {D : Nat} {κ : Option zA → zM → Prop} {m M0 : zM} {sc : zSc} {n k p pl nn : Nat} {l : Int} (hI : Inv B sc n k m) (hA : Agree coreK0 m M0) (h72 : M0 72 1 = 1) (hp : p < n) (hpl : m 75 p = (pl : Int)) (hnn : nn ≤ 60) (hl : -2 ≤ l ∧ l ≤ 108) (hB0 : zB M0)
    (hk : ∀ M1, zB M1 → Agree coreK0 m M1 → RowP M1 → κ (some (zi (svc (laF m p pl) l (m 24 0) nn))) M1) : T (D + 172) 253 (63, [(0, zr 74), (2, zi (p : Int)), (3, zi (nn : Int)), (4, zi l), (5, zi 0), (6, zi (-1)), (7, zi 0)], [], M0) κ := by
  have b17 : 0 ≤ m 17 0 ∧ m 17 0 ≤ 6 := hI.1 17 0
  have n1 := hI.2.2.2.1.1.1
  have e79 : m 79 0 = m 24 0 := hI.2.2.2.2.1 0 (by omega)
  have key : ∀ (j t s : Nat) (fv : Int) (M : zM), t + j = nn → (-1 ≤ fv ∧ fv ≤ 60) → zB M → zFr (inL lbL) M0 M → svc (laF m p pl) l (m 24 0) t = (s : Int) → T (D + 172) 253 (63, [(0, zr 74), (2, zi (p : Int)), (3, zi (nn : Int)), (4, zi l), (5, zi (s : Int)), (6, zi fv), (7, zi (t : Int))], [], M) κ := by
    intro j
    induction j with
    | zero =>
      intro t s fv M ht hfv hBM hF hs
      have et : t = nn := by omega
      subst et
      have := svcB (f := laF m p pl) (l := l) (h := m 24 0) t
      refine zb253_63 (D := D + 168) hT rfl hBM (by omega) hnn hl (by omega) hfv (by omega) (fun _ hz => ?_) (fun q => by omega)
      rw [← hs]
      exact hk _ hz (hA.trans ((Agree.of hF rfl).trans (.of (L := [(74, some 11), (81, none)]) (((zFr.refl.set rfl).set rfl).set rfl) rfl))) (RowP.len (by simp (disch := decide) only [zu_sm, zu_off, zu_dn, (hF 72 1 rfl).trans h72] <;> rfl))
    | succ j ih =>
      intro t s fv M ht hfv hBM hF hs
      have hAM : Agree coreK0 m M := hA.trans (.of hF rfl)
      have := svcB (f := laF m p pl) (l := l) (h := m 24 0) t
      refine zb253_63 (D := D + 168) hT rfl hBM (by omega) hnn hl (by omega) hfv (by omega) (fun q => by omega) (fun _ => ?_)
      refine z_lawInF (pl := pl) hT hI hBM (hAM.sub (fun q hq => List.mem_append.mpr (Or.inr (List.mem_append.mpr (Or.inl hq))))) (funext fun j => hAM 78 j rfl) (hAM 75 57 rfl) hp ((hAM 75 p rfl).trans hpl) (by omega) (fun M1 hB1 hF1 => ?_)
      have e790 : M1 79 0 = m 24 0 := by rw [hF1 79 0 rfl, hAM 79 0 rfl, e79]
      refine zb253_76 (D := D + 168) hT rfl hB1 (by omega) hnn hl (by omega) hfv (by omega) laFB (fun q1 q2 => ?_) (fun q1 q2 => ?_) (fun q1 q2 q3 => ?_) (fun q1 q2 q3 => ?_) (fun q1 q2 => ?_)
      · rw [show (s : Int) + 0 = (s : Int) by omega]
        exact ih (t + 1) s fv M1 (by omega) hfv hB1 (hF.trans hF1) (by rw [svc, if_pos (Or.inl q1), hs]; omega)
      · rw [show (s : Int) + 0 = (s : Int) by omega]
        exact ih (t + 1) s (t : Int) M1 (by omega) (by omega) hB1 (hF.trans hF1) (by rw [svc, if_pos (Or.inl q1), hs]; omega)
      · rw [e790] at q2
        rw [show (s : Int) + 0 = (s : Int) by omega]
        exact ih (t + 1) s fv M1 (by omega) hfv hB1 (hF.trans hF1) (by rw [svc, if_pos (Or.inr q2), hs]; omega)
      · rw [e790] at q2
        rw [show (s : Int) + 0 = (s : Int) by omega]
        exact ih (t + 1) s (t : Int) M1 (by omega) (by omega) hB1 (hF.trans hF1) (by rw [svc, if_pos (Or.inr q2), hs]; omega)
      · rw [e790] at q2
        exact ih (t + 1) (s + 1) fv M1 (by omega) hfv hB1 (hF.trans hF1) (by rw [svc, if_neg (by omega), hs]; omega)
  exact key nn 0 0 (-1) M0 (by omega) (by omega) hB0 zFr.refl rfl
theorem w_serves (hT : zRules T) {c p v : Int} (hc : isI c) (hp : isI p) (hv : isI v) : Way T 137 253 [(0, zr 1), (1, zi c), (2, zi p), (3, zi v)] [(0, zr 74), (1, zi c), (2, zi p), (3, zi v)] 6 172 B B True := by
  rintro D m sc ⟨n, k, hI⟩ κ hκ
  have hI0 := hI
  obtain ⟨i1, i2, i3, i4, i5, i6, i7, i8, i9, i10, i11⟩ := hI
  have hB1 : zB (zu m 74 12 0) := zB_u i1 trivial
  have hA12 : Agree coreK m (zu m 74 12 0) := .of (L := [(74, some 12)]) (zFr.refl.set rfl) rfl
  obtain ⟨⟨n1, n2⟩, ⟨k1, k2⟩, hh, hRel, hok⟩ := i4
  have b17 : 0 ≤ m 17 0 ∧ m 17 0 ≤ 6 := i1 17 0
  have b171 : 0 ≤ m 17 1 ∧ m 17 1 ≤ 8 := i1 17 1
  have no : ¬ (0 ≤ c ∧ c < k ∧ 0 ≤ p ∧ p < n ∧ 0 ≤ v ∧ v ≤ 60) → κ (some (zi (-1))) m := by
    intro hno
    refine hκ _ _ (fun D2 κ2 h2 => ?_)
    have fin : κ2 (some (zi (-1))) (zu m 74 12 0) := h2 _ _ (fun _ => rfl) ⟨n, k, Inv_fr hA12 hB1 hI0⟩
    refine zb253_0 (D := D2 + 168) hT i1 hc hp hv ?_ ?_ ?_ ?_ ?_ ?_ ?_ ?_ ?_
    · exact fun _ _ => fin
    · exact fun _ _ _ => fin
    · exact fun _ _ _ _ => fin
    · exact fun _ _ _ _ _ => fin
    · exact fun _ _ _ _ _ _ => fin
    · exact fun _ _ _ _ _ _ _ => fin
    · exact fun q1 q2 q3 q4 q5 q6 => absurd ⟨by omega, by omega, by omega, by omega, by omega, by omega⟩ hno
    · exact fun q1 q2 q3 q4 q5 q6 => absurd ⟨by omega, by omega, by omega, by omega, by omega, by omega⟩ hno
    · exact fun q1 q2 q3 q4 q5 q6 => absurd ⟨by omega, by omega, by omega, by omega, by omega, by omega⟩ hno
  refine zb137_0 hT i1 hc hp hv (fun _ => no (by omega)) (fun _ _ => no (by omega)) (fun _ _ _ => no (by omega)) (fun _ _ _ _ => no (by omega)) (fun _ _ _ _ _ => no (by omega)) (fun q1 q2 q3 q4 q5 q6 => ?_) (fun _ _ _ _ _ _ => no (by omega))
  obtain ⟨a, rfl⟩ : ∃ a : Nat, p = (a : Int) := ⟨p.toNat, by omega⟩
  obtain ⟨cc, rfl⟩ : ∃ a : Nat, c = (a : Int) := ⟨c.toNat, by omega⟩
  obtain ⟨nn, rfl⟩ : ∃ a : Nat, v = (a : Int) := ⟨v.toNat, by omega⟩
  obtain ⟨h78, h18⟩ := hh a (by omega)
  obtain ⟨r1, r2⟩ := hRel.1 a (by omega)
  obtain ⟨s1, s2, s3⟩ := hRel.2.1 cc (by omega)
  have bpl := (hok.1 a (by omega)).1
  obtain ⟨pl, hpl⟩ : ∃ pl : Nat, m 75 a = (pl : Int) := ⟨(m 75 a).toNat, by omega⟩
  rw [Int.toNat_natCast, r1, hpl]
  have b12 : -1 ≤ m 75 (cc + 12) ∧ m 75 (cc + 12) ≤ 99 := zSg i1 75 12 20 (-1) 99 rfl (cc + 12) (by omega) (by omega)
  have b20 : -1 ≤ m 75 (cc + 20) ∧ m 75 (cc + 20) ≤ 9 := zSg i1 75 20 28 (-1) 9 rfl (cc + 20) (by omega) (by omega)
  have b24 : 0 ≤ m 24 0 ∧ m 24 0 ≤ 9 := i1 24 0
  refine z_lookAhead hT i1 (by omega) (by omega) (by omega) (by omega) i3 (fun m1 hB2 hF1 g1 g2 => ?_)
  have hA1 : Agree coreK m m1 := .of hF1 rfl
  refine zb137_49 (c := cc) hT rfl hB2 (by omega) ?_
  rw [hA1 21 cc rfl, hA1 22 cc rfl, hA1 24 0 rfl, s1, s2]
  refine z_firstUnserved (D := D + 3) hT hB2 (by omega) (by omega) (fun v hv => ?_)
  refine zb137_79 hT rfl hB2 (by omega) hv (fun hz => ?_)
  rw [hA1 24 0 rfl]
  refine z_countServed (D := D + 3) (n := nn) hT hz (by omega) (by omega) g1 ?_
  rw [show (zu (zu m1 72 1 1) 73 0 v) 53 = m1 53 by rw [zu_dnR (by omega), zu_dnR (by omega)], svc_congr nn g2]
  have bs := svcB (f := laF m a pl) (l := m 75 (cc + 12) + m 75 (cc + 20)) (h := m 24 0) nn
  refine zb137_98 hT rfl (by omega) (hκ _ _ (fun D2 κ2 h2 => ?_))
  have x72 : (zu (zu m1 72 1 1) 73 0 v) 72 1 = 1 := by simp (disch := decide) only [zu_sm, zu_off, zu_dn] <;> rfl
  have hAM : Agree coreK0 m (zu (zu m1 72 1 1) 73 0 v) := hA1.w0.trans (.of (L := [(72, some 1), (73, none)]) ((zFr.refl.set rfl).set rfl) rfl)
  generalize hM : zu (zu m1 72 1 1) 73 0 v = M at hz hAM x72 ⊢
  have e4 : M 74 4 = (n : Int) := (hAM 74 4 rfl).trans n2
  have e6 : M 74 6 = (k : Int) := (hAM 74 6 rfl).trans k2
  refine zb253_0n (c := cc) (p := a) (n := nn) (D := D2 + 168) hT hz (by omega) (by omega) (by omega) (fun x => by omega) (fun _ x => by omega) (fun _ _ hz2 => ?_)
  rw [hAM 75 (cc + 12) rfl, hAM 75 (cc + 20) rfl]
  exact z_srvR hT hI0 (hAM.trans (.of (L := [(74, some 12)]) (zFr.refl.set rfl) rfl)) ((zu_dn (by decide)).trans x72) (by omega) hpl (by omega) (by omega) hz2 (fun M1 hB3 hA3 hr => h2 _ _ (fun _ => rfl) ⟨n, k, Inv_row hA3 hB3 hr hI0⟩)
theorem z_bestR (hT : zRules T) {D : Nat} {κ : Option zA → zM → Prop} {m M0 : zM} {sc : zSc} {n k p pl nn : Nat} (hI : Inv B sc n k m) (hA : Agree coreK0 m M0) (h72 : M0 72 1 = 1) (hp : p < n) (hpl : m 75 p = (pl : Int)) (hnn : nn ≤ 60) (hB0 : zB M0)
    (hk : ∀ M1, zB M1 → Agree coreK0 m M1 → RowP M1 → κ (some (zi (mxI (fun x => tly (laF m p pl) (m 24 0) x nn) 109 : Int))) M1) : T (D + 172) 254 (30, [(0, zr 74), (1, zi (p : Int)), (2, zi (nn : Int)), (3, zi 0), (4, zi (-1)), (5, zi 0)], [], M0) κ := by
  have b17 : 0 ≤ m 17 0 ∧ m 17 0 ≤ 6 := hI.1 17 0
  have n1 := hI.2.2.2.1.1.1
  have e79 : m 79 0 = m 24 0 := hI.2.2.2.2.1 0 (by omega)
  have inner : ∀ (b : Nat) (mo : Int) (l : Nat) (κ2 : Option zA → zM → Prop), b ≤ 108 → (-1 ≤ mo ∧ mo ≤ 60) → l ≤ 108 → (∀ M, zB M → zFr (inL lbL) M0 M → (mo < tly (laF m p pl) (m 24 0) l nn → T (D + 172) 254 (30, [(0, zr 74), (1, zi (p : Int)), (2, zi (nn : Int)), (3, zi (l : Int)), (4, zi (tly (laF m p pl) (m 24 0) l nn)), (5, zi ((l + 1 : Nat) : Int))], [], M) κ2) ∧ (¬ mo < tly (laF m p pl) (m 24 0) l nn → T (D + 172) 254 (30, [(0, zr 74), (1, zi (p : Int)), (2, zi (nn : Int)), (3, zi (b : Int)), (4, zi mo), (5, zi ((l + 1 : Nat) : Int))], [], M) κ2)) →
      ∀ (j t s : Nat) (M : zM), t + j = nn → zB M → zFr (inL lbL) M0 M → tly (laF m p pl) (m 24 0) l t = (s : Int) → T (D + 172) 254 (43, [(0, zr 74), (1, zi (p : Int)), (2, zi (nn : Int)), (3, zi (b : Int)), (4, zi mo), (5, zi (l : Int)), (6, zi (s : Int)), (7, zi (t : Int))], [], M) κ2 := by
    intro b mo l κ2 hb hmo hl hnx j
    induction j with
    | zero =>
      intro t s M ht hBM hF hs
      have et : t = nn := by omega
      subst et
      have := tlyB (f := laF m p pl) (h := m 24 0) (a := (l : Int)) t
      obtain ⟨x1, x2⟩ := hnx M hBM hF
      rw [hs] at x1 x2
      exact zb254_43 (D := D + 168) hT rfl hBM (by omega) hnn hb hmo hl (by omega) (by omega) (fun _ q => x1 q) (fun _ q => x2 q) (fun q => by omega)
    | succ j ih =>
      intro t s M ht hBM hF hs
      have hAM : Agree coreK0 m M := hA.trans (.of hF rfl)
      have := tlyB (f := laF m p pl) (h := m 24 0) (a := (l : Int)) t
      refine zb254_43 (D := D + 168) hT rfl hBM (by omega) hnn hb hmo hl (by omega) (by omega) (fun q => by omega) (fun q => by omega) (fun _ => ?_)
      refine z_lawInF (pl := pl) hT hI hBM (hAM.sub (fun q hq => List.mem_append.mpr (Or.inr (List.mem_append.mpr (Or.inl hq))))) (funext fun j => hAM 78 j rfl) (hAM 75 57 rfl) hp ((hAM 75 p rfl).trans hpl) (by omega) (fun M1 hB1 hF1 => ?_)
      have e790 : M1 79 0 = m 24 0 := by rw [hF1 79 0 rfl, hAM 79 0 rfl, e79]
      refine zb254_61 (s := s) (D := D + 168) hT rfl hB1 (by omega) hnn hb hmo hl (by omega) (by omega) laFB (fun q1 => ?_) (fun q1 q2 => ?_) (fun q1 q2 => ?_)
      · rw [show (s : Int) + 0 = (s : Int) by omega]
        exact ih (t + 1) s M1 (by omega) hB1 (hF.trans hF1) (by rw [tly, if_neg (by omega), hs]; omega)
      · rw [e790] at q2
        rw [show (s : Int) + 0 = (s : Int) by omega]
        exact ih (t + 1) s M1 (by omega) hB1 (hF.trans hF1) (by rw [tly, if_neg (by omega), hs]; omega)
      · rw [e790] at q2
        exact ih (t + 1) (s + 1) M1 (by omega) hB1 (hF.trans hF1) (by rw [tly, if_pos (by omega), hs]; omega)
  have outer : ∀ (j l : Nat) (M : zM), (l + 1) + j = 109 → zB M → zFr (inL lbL) M0 M → T (D + 172) 254 (30, [(0, zr 74), (1, zi (p : Int)), (2, zi (nn : Int)), (3, zi (mxI (fun x => tly (laF m p pl) (m 24 0) x nn) (l + 1) : Int)), (4, zi (tly (laF m p pl) (m 24 0) ((mxI (fun x => tly (laF m p pl) (m 24 0) x nn) (l + 1) : Nat) : Int) nn)), (5, zi ((l + 1 : Nat) : Int))], [], M) κ := by
    intro j
    induction j with
    | zero =>
      intro l M hl hBM hF
      have el : l = 108 := by omega
      subst el
      have hmx := mxI_le (f := fun x : Nat => tly (laF m p pl) (m 24 0) x nn) 108
      have := tlyB (f := laF m p pl) (h := m 24 0) (a := ((mxI (fun x : Nat => tly (laF m p pl) (m 24 0) x nn) (108 + 1) : Nat) : Int)) nn
      refine zb254_30 (D := D + 168) hT rfl hBM (by omega) hnn (by omega) (by omega) (by omega) (fun _ hz => ?_) (fun q => by omega)
      exact hk _ hz (hA.trans ((Agree.of hF rfl).trans (.of (L := [(74, some 11), (81, none)]) (((zFr.refl.set rfl).set rfl).set rfl) rfl))) (RowP.len (by simp (disch := decide) only [zu_sm, zu_off, zu_dn, (hF 72 1 rfl).trans h72] <;> rfl))
    | succ j ih =>
      intro l M hl hBM hF
      have hmx := mxI_le (f := fun x : Nat => tly (laF m p pl) (m 24 0) x nn) l
      have := tlyB (f := laF m p pl) (h := m 24 0) (a := ((mxI (fun x : Nat => tly (laF m p pl) (m 24 0) x nn) (l + 1) : Nat) : Int)) nn
      refine zb254_30 (D := D + 168) hT rfl hBM (by omega) hnn (by omega) (by omega) (by omega) (fun q => by omega) (fun _ => ?_)
      refine inner _ _ (l + 1) κ (by omega) (by omega) (by omega) (fun M1 hB1 hF1 => ?_) nn 0 0 M (by omega) hBM hF rfl
      have ih2 := ih (l + 1) M1 (by omega) hB1 hF1
      have em : mxI (fun x : Nat => tly (laF m p pl) (m 24 0) x nn) (l + 1 + 1) = if tly (laF m p pl) (m 24 0) ((mxI (fun x : Nat => tly (laF m p pl) (m 24 0) x nn) (l + 1) : Nat) : Int) nn < tly (laF m p pl) (m 24 0) ((l + 1 : Nat) : Int) nn then l + 1 else mxI (fun x : Nat => tly (laF m p pl) (m 24 0) x nn) (l + 1) := rfl
      rw [em] at ih2
      refine ⟨fun q => ?_, fun q => ?_⟩
      · rw [if_pos q] at ih2
        exact ih2
      · rw [if_neg q] at ih2
        exact ih2
  refine zb254_30 (b := 0) (l := 0) (D := D + 168) hT rfl hB0 (by omega) hnn (by omega) (by omega) (by omega) (fun q => by omega) (fun _ => ?_)
  refine inner 0 (-1) 0 κ (by omega) (by omega) (by omega) (fun M1 hB1 hF1 => ?_) nn 0 0 M0 (by omega) hB0 zFr.refl rfl
  have := tlyB (f := laF m p pl) (h := m 24 0) (a := ((0 : Nat) : Int)) nn
  refine ⟨fun q => ?_, fun q => by omega⟩
  have h0 := outer 108 0 M1 (by omega) hB1 hF1
  have e0 : mxI (fun x : Nat => tly (laF m p pl) (m 24 0) x nn) (0 + 1) = 0 := by
    have := mxI_le (f := fun x : Nat => tly (laF m p pl) (m 24 0) x nn) 0
    omega
  rw [e0] at h0
  exact h0
theorem w_best (hT : zRules T) {p v : Int} (hp : isI p) (hv : isI v) : Way T 138 254 [(0, zr 1), (1, zi p), (2, zi v)] [(0, zr 74), (1, zi p), (2, zi v)] 6 172 B B True := by
  rintro D m sc ⟨n, k, hI⟩ κ hκ
  have hI0 := hI
  obtain ⟨i1, i2, i3, i4, i5, i6, i7, i8, i9, i10, i11⟩ := hI
  have hB1 : zB (zu m 74 12 0) := zB_u i1 trivial
  have hA12 : Agree coreK m (zu m 74 12 0) := .of (L := [(74, some 12)]) (zFr.refl.set rfl) rfl
  obtain ⟨⟨n1, n2⟩, ⟨k1, k2⟩, hh, hRel, hok⟩ := i4
  have b17 : 0 ≤ m 17 0 ∧ m 17 0 ≤ 6 := i1 17 0
  have no : ¬ (0 ≤ p ∧ p < n ∧ 1 ≤ v ∧ v ≤ 60) → κ (some (zi (-1))) m := by
    intro hno
    refine hκ _ _ (fun D2 κ2 h2 => ?_)
    have fin : κ2 (some (zi (-1))) (zu m 74 12 0) := h2 _ _ (fun _ => rfl) ⟨n, k, Inv_fr hA12 hB1 hI0⟩
    exact zb254_0 (D := D2 + 168) hT i1 hp hv (fun _ _ => fin) (fun _ _ _ => fin) (fun _ _ _ _ => fin) (fun _ _ _ _ _ => fin) (fun q1 q2 q3 q4 => absurd ⟨by omega, by omega, by omega, by omega⟩ hno)
  refine zb138_0 hT i1 hp hv (fun _ => no (by omega)) (fun _ _ => no (by omega)) (fun _ _ _ => no (by omega)) (fun q1 q2 q3 q4 => ?_) (fun _ _ _ _ => no (by omega))
  obtain ⟨a, rfl⟩ : ∃ a : Nat, p = (a : Int) := ⟨p.toNat, by omega⟩
  obtain ⟨nn, rfl⟩ : ∃ a : Nat, v = (a : Int) := ⟨v.toNat, by omega⟩
  obtain ⟨h78, h18⟩ := hh a (by omega)
  obtain ⟨r1, r2⟩ := hRel.1 a (by omega)
  have bpl := (hok.1 a (by omega)).1
  obtain ⟨pl, hpl⟩ : ∃ pl : Nat, m 75 a = (pl : Int) := ⟨(m 75 a).toNat, by omega⟩
  rw [Int.toNat_natCast, r1, hpl]
  have b24 : 0 ≤ m 24 0 ∧ m 24 0 ≤ 9 := i1 24 0
  refine z_lookAhead hT i1 (by omega) (by omega) (by omega) (by omega) i3 (fun m1 hB2 hF1 g1 g2 => ?_)
  have hA1 : Agree coreK m m1 := .of hF1 rfl
  refine zb138_39 hT rfl hB2 ?_
  rw [hA1 24 0 rfl]
  refine z_tally (n := nn) hT hB2 b24 g1 (fun m2 hB3 hF2 g3 => ?_)
  have hg : ∀ x : Nat, x ≤ 108 → m2 54 x = tly (laF m a pl) (m 24 0) x nn ∧ 0 ≤ tly (laF m a pl) (m 24 0) x nn ∧ tly (laF m a pl) (m 24 0) x nn ≤ 60 := fun x hx => by
    have := tlyB (f := laF m a pl) (h := m 24 0) (a := (x : Int)) nn
    exact ⟨by rw [g3 x hx, tly_congr nn g2], by omega, by omega⟩
  refine zb138_53 hT rfl hB3 ?_
  refine z_mostT (g := fun x => tly (laF m a pl) (m 24 0) x nn) hT hB3 hg ?_
  have hmx := mxI_le (f := fun x : Nat => tly (laF m a pl) (m 24 0) x nn) 108
  refine zb138_60 hT rfl hB3 (by omega) (fun hz => hκ _ _ (fun D2 κ2 h2 => ?_))
  have x72 : (zu (zu m2 72 1 1) 73 0 (m2 54 (mxI (fun x : Nat => tly (laF m a pl) (m 24 0) x nn) 109))) 72 1 = 1 := by simp (disch := decide) only [zu_sm, zu_off, zu_dn] <;> rfl
  have hAM : Agree coreK0 m (zu (zu m2 72 1 1) 73 0 (m2 54 (mxI (fun x : Nat => tly (laF m a pl) (m 24 0) x nn) 109))) := hA1.w0.trans ((Agree.of hF2 rfl).trans (.of (L := [(72, some 1), (73, none)]) ((zFr.refl.set rfl).set rfl) rfl))
  generalize hM : zu (zu m2 72 1 1) 73 0 (m2 54 (mxI (fun x : Nat => tly (laF m a pl) (m 24 0) x nn) 109)) = M at hz hAM x72 ⊢
  have e4 : M 74 4 = (n : Int) := (hAM 74 4 rfl).trans n2
  refine zb254_0 (D := D2 + 168) hT hz hp hv (fun x => by omega) (fun _ x => by omega) (fun _ _ x => by omega) (fun _ _ _ x => by omega) (fun _ _ _ _ hz2 => ?_)
  exact z_bestR hT hI0 (hAM.trans (.of (L := [(74, some 12)]) (zFr.refl.set rfl) rfl)) ((zu_dn (by decide)).trans x72) (by omega) hpl (by omega) hz2 (fun M1 hB3 hA3 hr => h2 _ _ (fun _ => rfl) ⟨n, k, Inv_row hA3 hB3 hr hI0⟩)
noncomputable def telR (M : zM) : zM := (zu (zu (zu (zu (zu (zu (zu M 74 11 0) 81 0 (M 74 31)) 74 11 1) 81 1 (M 74 32)) 74 11 2) 81 2 (M 74 33)) 74 11 3)
theorem z_weeksL91 (hT : zRules T) {D : Nat} {κ : Option zA → zM → Prop} {m0 : zM} {n k nn : Nat} (hn : m0 74 4 = (n : Int)) (hn6 : n ≤ 6) (hk8 : k ≤ 8) (hLR : LawRel m0) (hnn : nn ≤ 60) : ∀ (j t : Nat) (b : zS) (M : zM), t + j = nn → zB M → zFr (inL (mkL 91 ++ lbL)) m0 M → RelR 91 M b → okRow n k b.1 → b.1 57 + j ≤ 400000 → (∀ M1, zB M1 → zFr (inL (mkL 91 ++ lbL)) m0 M1 → RelR 91 M1 (wksA (lawR m0) (m0 79 0) n b j) → zB (telR M1) → κ (some (zi (costR M1))) (telR M1)) → T (D + 172) 249 (35, [(0, zr 74), (1, zi (nn : Int)), (2, zi (t : Int))], [], M) κ := by
  intro j
  induction j with
  | zero =>
    intro t b M ht hBM hF hR ho hb hk
    exact zb249_35 (D := D + 169) (n := nn) (k := t) hT rfl hBM hnn (by omega) (fun _ hz => hk M hBM hF hR hz) (fun q => by omega)
  | succ j ih =>
    intro t b M ht hBM hF hR ho hb hk
    have hA : Agree KL m0 M := .of hF rfl
    have e78 : M 78 = m0 78 := funext fun j => hF 78 j rfl
    have eL : lawR M = lawR m0 := by
      unfold lawR
      rw [hA.law.2, e78]
    have hok := wkA_ok (L := lawR m0) (h := m0 79 0) hn6 hk8 (by have := (hBM 79 0).1; rw [hF 79 0 rfl] at this; exact this) ho
    refine zb249_35 (D := D + 169) (n := nn) (k := t) hT rfl hBM hnn (by omega) (fun q => by omega) (fun _ => ?_)
    refine z_goWeek_91 (D := D) (n := n) (k := k) hT hBM ((hF 74 4 rfl).trans hn) hk8 (hA.law.1 hLR) hR ho (by omega) (fun M1 hB1 hF1 hR1 => ?_)
    rw [eL, hF 79 0 rfl] at hR1
    refine zb249_48 (D := D + 169) (n := nn) (k := t) hT rfl hB1 hnn (by omega) ?_
    exact ih (t + 1) _ M1 (by omega) hB1 (hF.trans (hF1.sub gwWL)) hR1 hok.1 (by rw [hok.2]; omega) (fun M2 h1 h2 h3 h4 => hk M2 h1 h2 (by rw [wksA]; exact h3) h4)
theorem w_ahead (hT : zRules T) (hB4 : B + 60 ≤ 400000) {v : Int} (hv : isI v) : Way T 134 249 [(0, zr 1), (1, zi v)] [(0, zr 74), (1, zi v)] 6 172 B B True := by
  rintro D m sc ⟨n, k, hI⟩ κ hκ
  have hI0 := hI
  obtain ⟨i1, i2, i3, i4, i5, i6, i7, i8, i9, i10, i11⟩ := hI
  have i40 := i4
  have hB1 : zB (zu m 74 12 0) := zB_u i1 trivial
  have hA12 : Agree coreK m (zu m 74 12 0) := .of (L := [(74, some 12)]) (zFr.refl.set rfl) rfl
  obtain ⟨⟨n1, n2⟩, ⟨k1, k2⟩, hh, hRel, hok⟩ := i4
  have b17 : 0 ≤ m 17 0 ∧ m 17 0 ≤ 6 := i1 17 0
  have b171 : 0 ≤ m 17 1 ∧ m 17 1 ≤ 8 := i1 17 1
  have h75 : 0 ≤ m 75 57 := hok.2.2.1
  have no : ¬ (0 ≤ v ∧ v ≤ 60) → κ (some (zi (-1))) m := by
    intro hno
    refine hκ _ _ (fun D2 κ2 h2 => ?_)
    have fin : κ2 (some (zi (-1))) (zu m 74 12 0) := h2 _ _ (fun _ => rfl) ⟨n, k, Inv_fr hA12 hB1 hI0⟩
    exact zb249_0 (D := D2 + 169) hT i1 hv (fun _ _ => fin) (fun _ _ _ => fin) (fun q1 q2 => absurd ⟨by omega, by omega⟩ hno)
  refine zb134_0 hT i1 hv (fun q => no (by omega)) (fun q1 q2 => ?_) (fun q1 q2 => no (by omega))
  obtain ⟨nn, rfl⟩ : ∃ a : Nat, v = (a : Int) := ⟨v.toNat, by omega⟩
  refine z_mark hT i1 (fun m1 hB2 hF1 h1 => ?_)
  obtain ⟨hFm, hMk⟩ := z_markF i1 hF1
  refine zb134_23 (n := nn) hT rfl hB2 (by omega) (fun hz => ?_)
  generalize hm2 : (zu (zu (zu m1 17 12 0) 17 13 0) 17 14 0) = m2 at hz ⊢
  have hF2 : zFr (inL (remCL ++ [(17, some 12), (17, some 13), (17, some 14)])) m m2 := by
    rw [← hm2]
    exact (((hFm.sub (inL_sub (by decide))).set rfl).set rfl).set rfl
  have hR2 : RelA n k m2 (m 75, 0, 0, 0) := ⟨hRel.fr (.of hF2 rfl), by rw [← hm2]; simp (disch := omega) only [zu_off, zu_sm], by rw [← hm2]; simp (disch := omega) only [zu_off, zu_sm], by rw [← hm2]; simp (disch := omega) only [zu_sm]⟩
  have hA2 : Agree KL m m2 := .of hF2 rfl
  have eL : lawM m2 = lawM m := by
    unfold lawM
    rw [hA2.law.2, show m2 18 = m 18 from funext fun j => hF2 18 j rfl]
  have e1711 : m2 17 11 = m 75 57 := (hF2 17 11 rfl).trans hRel.2.2.2.2.1
  refine z_passWeeks (n := n) (k := k) (a := (m 75, 0, 0, 0)) hT hz (by omega) ((hF2 17 0 rfl).trans n1) ((hF2 17 1 rfl).trans k1) (fun p hp => by rw [hF2 18 p rfl]; have := (hh p hp).2; omega) (hA2.law.1 i3).1 hR2 hok (by omega) (fun m3 hB3 hF3 hR3 hA0 hA57 => ?_)
  rw [eL, hF2 24 0 rfl] at hR3
  have eLL : wksA (lawM m) (m 24 0) n (m 75, 0, 0, 0) nn = wksA (lawR m) (m 24 0) n (m 75, 0, 0, 0) nn := wksA_congr (fun i hi => by
    unfold lawM lawR
    rw [(hh i hi).1]) nn _
  obtain ⟨-, d1, d2, d3⟩ := hR3
  generalize hA : wksA (lawM m) (m 24 0) n (m 75, 0, 0, 0) nn = A at d1 d2 d3 eLL
  have hF3b : zFr (inL (remCL ++ pwLs)) m m3 := (hF2.sub (inL_sub (by decide))).trans ((hF3.sub pwWL).sub (inL_sub (by decide)))
  have t13 : zFr (inL pwLs) m1 m3 := by
    have t1 : zFr (inL pwLs) m1 m2 := by
      rw [← hm2]
      exact ((zFr.refl.set rfl).set rfl).set rfl
    exact t1.trans (hF3.sub pwWL)
  have efr : frs m3 = frs m := by
    unfold frs
    rw [t13 28 4 rfl, t13 28 5 rfl, hMk.1, hMk.2.1]
  have hsl : frs m < 13 := by rw [frsE i1]; omega
  have e30 : m3 (30 + frs m) = m1 (30 + frs m) := funext fun j => t13 _ j (dj_ok (K := momL) rfl (momL_in hsl j))
  refine zb134_35 hT rfl hB3 ?_
  refine z_back hT hB3 (fun m4 hB4 hF4 hb => ?_)
  rw [efr, e30] at hb
  have hRM : RelM n k (m1 (30 + frs m)) (m 75) := RelM.of (by omega) (by omega) hok.2.1.2 hRel h1
  have hF4b : zFr (inL rtL) m3 m4 := hF4.sub rtWL
  have f1 : m4 17 12 = A.2.1 := (hF4b 17 12 rfl).trans d1
  have f2 : m4 17 13 = A.2.2.1 := (hF4b 17 13 rfl).trans d2
  have e24 : ∀ j, m4 24 j = m 24 j := fun j => (hF4b 24 j rfl).trans (hF3b 24 j rfl)
  refine zb134_46 hT rfl hB4 (fun hz5 => ?_)
  rw [f1, f2] at hz5 ⊢
  rw [e24, e24]
  refine hκ _ _ (fun D2 κ2 h2 => ?_)
  generalize hm5 : (zu (zu (zu (zu m4 72 1 3) 73 0 A.2.1) 73 1 A.2.2.1) 73 2 (m4 17 14)) = m5 at hz5 ⊢
  have t45 : zFr (inL [(72, some 1), (73, none)]) m4 m5 := by
    rw [← hm5]
    exact (((zFr.refl.set rfl).set rfl).set rfl).set rfl
  have hF5 : zFr (inL (remCL ++ (pwLs ++ [(17, some 10), (19, none), (20, none), (72, some 1), (73, none)]))) m m5 := ((hF3b.sub (inL_sub (by decide))).trans (hF4b.sub (inL_sub (by decide)))).trans (t45.sub (inL_sub (by decide)))
  refine zb249_0 (D := D2 + 169) hT hz5 hv (fun x => by omega) (fun _ x => by omega) (fun _ _ hz6 => ?_)
  refine z_lay_75_91 (k := 0) hT (by omega) ?_
  generalize hm6 : z_cp (zu m5 74 12 0) 75 91 0 0 59 = m6
  have hz7 : zB m6 := by
    rw [← hm6]
    exact zB_cpB hz6 rfl
  have t56 : zFr (inL [(74, some 12), (91, none)]) m5 m6 := by
    rw [← hm6]
    exact (zFr.refl.set rfl).cp (fun _ => rfl)
  refine zb249_29 (n := nn) (D := D2 + 169) hT rfl hz7 (by omega) (fun hz8 => ?_)
  generalize hm7 : (zu (zu (zu m6 74 31 0) 74 32 0) 74 33 0) = m7 at hz8 ⊢
  have t57 : zFr (inL [(74, some 12), (74, some 31), (74, some 32), (74, some 33), (91, none)]) m5 m7 := by
    rw [← hm7]
    exact (((t56.sub (inL_sub (by decide))).set rfl).set rfl).set rfl
  have hF7 : zFr (inL (remCL ++ (pwLs ++ [(17, some 10), (19, none), (20, none), (72, some 1), (73, none), (74, some 12), (74, some 31), (74, some 32), (74, some 33), (91, none)]))) m m7 := (hF5.sub (inL_sub (by decide))).trans (t57.sub (inL_sub (by decide)))
  have e91 : ∀ j, j < 59 → m7 91 j = m 75 j := fun j hj => by
    rw [← hm7, zu_dn (by omega), zu_dn (by omega), zu_dn (by omega), ← hm6, z_cp_in (by omega), show 0 + (j - 0) = j by omega, zu_dn (by omega)]
    exact hF5 75 j rfl
  have hok91 : okRow n k (m7 91) := hok.congr (by omega) (by omega) (fun j hj => e91 j (by omega))
  have hA7 : Agree KL m m7 := .of hF7 rfl
  have eL7 : lawR m7 = lawR m := by
    unfold lawR
    rw [hA7.law.2, show m7 78 = m 78 from funext fun j => hF7 78 j rfl]
  have e79 : ∀ j, j < 3 → m7 79 j = m 24 j := fun j hj => by
    rw [hF7 79 j rfl]
    exact i5 j hj
  have hR7 : RelR 91 m7 (m7 91, 0, 0, 0) := ⟨rfl, by rw [← hm7]; simp (disch := omega) only [zu_off, zu_sm], by rw [← hm7]; simp (disch := omega) only [zu_off, zu_sm], by rw [← hm7]; simp (disch := omega) only [zu_sm]⟩
  refine z_weeksL91 hT ((hF7 74 4 rfl).trans n2) (by omega) (by omega) (hA7.law.1 i3) (by omega) nn 0 (m7 91, 0, 0, 0) m7 (by omega) hz8 zFr.refl hR7 hok91 (by dsimp only; rw [e91 57 (by omega)]; omega) (fun m8 hB8 hF8 hR8 hz9 => ?_)
  rw [eL7, e79 0 (by omega)] at hR8
  obtain ⟨-, g2, g3, g4⟩ := hR8
  have e59 := wksA_59 (L := lawR m) (h := m 24 0) (n := n) (k := k) (by omega) (by omega) (i1 24 0).1 nn (m 75, 0, 0, 0) (m7 91, 0, 0, 0) hok ⟨fun j hj => (e91 j hj).symm, rfl⟩
  rw [← e59.2, ← eLL] at g2 g3
  have f79 : ∀ j, j < 3 → m8 79 j = m 24 j := fun j hj => by rw [hF8 79 j rfl, e79 j hj]
  have ecost2 : costR m8 = wr (A.2.1 * m 24 1 + A.2.2.1 * m 24 2) := by
    unfold costR
    rw [f79 1 (by omega), f79 2 (by omega), g2, g3, Int.mul_comm (m 24 1), Int.mul_comm (m 24 2)]
  rw [ecost2]
  have t8 : zFr (inL [(74, some 11), (81, none)]) m8 (telR m8) := ((((((zFr.refl.set rfl).set rfl).set rfl).set rfl).set rfl).set rfl).set rfl
  have hFr : zFr (inL ([(74, some 11), (74, some 12), (74, some 31), (74, some 32), (74, some 33), (81, none), (91, none)] ++ lbL)) m5 (telR m8) := (t57.sub (inL_sub (by decide))).trans ((hF8.sub (inL_sub (by decide))).trans (t8.sub (inL_sub (by decide))))
  have hFall : zFr (inL (remCL ++ (pwLs ++ ([(17, some 10), (19, none), (20, none), (72, some 1), (73, none), (74, some 11), (74, some 12), (74, some 31), (74, some 32), (74, some 33), (81, none), (91, none)] ++ lbL)))) m (telR m8) := (hF5.sub (inL_sub (by decide))).trans (hFr.sub (inL_sub (by decide)))
  have a4 : Agree KRel m4 (telR m8) := (Agree.of t45 rfl).trans (.of hFr rfl)
  have a1 : Agree remCL m1 (telR m8) := (Agree.of t13 rfl).trans ((Agree.of hF4b rfl).trans ((Agree.of t45 rfl).trans (.of hFr rfl)))
  exact h2 _ _ (fun _ => rfl) ⟨n, k, Inv_huR hI0 hz9 (.of hFall rfl) (House_back (by omega) (by omega) i40 (.of hFall rfl) hb a4 hRM hok (fun j _ => hFall 75 j rfl)) (Undo_mark i1 (by omega) (by omega) i6 hMk a1 (.of hFall rfl)) (by rw [hFall 75 57 rfl]; exact i10) (RowP.len (by
    have x72 : m5 72 1 = 3 := by
      rw [← hm5]
      simp (disch := decide) only [zu_sm, zu_off, zu_dn]
    rw [hFr 72 1 rfl, x72]
    unfold telR
    simp (disch := decide) only [zu_sm]))⟩
end ZServes
