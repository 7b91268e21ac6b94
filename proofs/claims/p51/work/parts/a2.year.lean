/-! year(): the acts done by both. -/
noncomputable def doA (L : Nat → Int → Int → Int) (h : Int) (n k : Nat) (a : zS) (kd f g : Int) : Option zS :=
  if kd = 107 then some (wksA L h n a f.toNat)
  else if kd = 119 then (if wfV n k (fun p => a.1 (p + 6)) f g = 0 then some (fu a.1 (f.toNat + 6) g, a.2) else none)
  else if kd = 103 then (if 0 ≤ f ∧ f < n then some (fu a.1 f.toNat g, a.2) else none)
  else if 0 ≤ f ∧ f < k then some (mkA h a f.toNat g) else none
theorem doA_congr {L L2 : Nat → Int → Int → Int} {h : Int} {n k : Nat} {a : zS} {kd f g : Int} (he : ∀ i, i < n → L i = L2 i) : doA L h n k a kd f g = doA L2 h n k a kd f g := by
  unfold doA
  rw [wksA_congr he]
/-- what may stand in an act -/
noncomputable def okA (kd f g : Int) : Prop := (kd = 107 ∨ kd = 119 ∨ kd = 103 ∨ kd = 109) ∧ (0 ≤ f ∧ f ≤ 9) ∧ (kd = 119 → -1 ≤ g ∧ g ≤ 9) ∧ (kd = 103 → 0 ≤ g ∧ g ≤ 3) ∧ (kd = 109 → 0 ≤ g ∧ g ≤ 99)
theorem okRow.wear {n k : Nat} {g : Nat → Int} {p : Nat} {v : Int} (ho : okRow n k g) (hn : n ≤ 6) (hp : p < n) (hv : v = -1 ∨ (0 ≤ v ∧ v < k)) : okRow n k (fu g (p + 6) v) := by
  obtain ⟨o1, o2, o3, o4⟩ := ho
  refine ⟨fun q hq => ?_, ?_, ?_, fun c hc => ?_⟩
  · rw [fu_ne (by omega)]
    by_cases e : q = p
    · rw [e, fu_eq rfl]
      exact ⟨(o1 p hp).1, hv⟩
    · rw [fu_ne (by omega)]
      exact o1 q hq
  · rw [fu_ne (by omega)]
    exact o2
  · rw [fu_ne (by omega)]
    exact o3
  · rw [fu_ne (by omega)]
    exact o4 c hc
theorem okRow.go {n k : Nat} {g : Nat → Int} {p : Nat} {v : Int} (ho : okRow n k g) (hn : n ≤ 6) (hp : p < n) (hv : 0 ≤ v ∧ v ≤ 3) : okRow n k (fu g p v) := by
  obtain ⟨o1, o2, o3, o4⟩ := ho
  refine ⟨fun q hq => ?_, ?_, ?_, fun c hc => ?_⟩
  · rw [fu_ne (show q + 6 ≠ p by omega)]
    by_cases e : q = p
    · rw [e, fu_eq rfl]
      exact ⟨hv, (o1 p hp).2⟩
    · rw [fu_ne e]
      exact o1 q hq
  · rw [fu_ne (by omega)]
    exact o2
  · rw [fu_ne (by omega)]
    exact o3
  · rw [fu_ne (by omega)]
    exact o4 c hc
noncomputable def ydL : zLs := (19, none) :: (20, none) :: pwLs
section ZDoAct
variable {T : Nat → Nat → zG → (Option zA → zM → Prop) → Prop} {D : Nat} {κ : Option zA → zM → Prop}
theorem z_doAct (hT : zRules T) {M : zM} {n k : Nat} {a : zS} {kd f g : Int} (hB : zB M) (n1 : M 17 0 = (n : Int)) (k1 : M 17 1 = (k : Int)) (h18 : ∀ p, p < n → 0 ≤ M 18 p) (hWF : WFr M) (hR : RelA n k M a) (ho : okRow n k a.1) (h57 : a.1 57 + 9 ≤ 400000) (hok : okA kd f g)
    (h0 : doA (lawM M) (M 24 0) n k a kd f g = none → κ (some (zi 0)) M)
    (h1 : ∀ b M1, doA (lawM M) (M 24 0) n k a kd f g = some b → zB M1 → zFr (inL ydL) M M1 → RelA n k M1 b → okRow n k b.1 → (a.1 57 ≤ b.1 57 ∧ b.1 57 ≤ a.1 57 + 9) → κ (some (zi 1)) M1) : T (D + 6) 176 (0, [(0, zr 1), (1, zi kd), (2, zi f), (3, zi g)], [], M) κ := by
  have b17 : 0 ≤ M 17 0 ∧ M 17 0 ≤ 6 := hB 17 0
  have b171 : 0 ≤ M 17 1 ∧ M 17 1 ≤ 8 := hB 17 1
  obtain ⟨hkd, hf, g1, g2, g3⟩ := hok
  obtain ⟨p, rfl⟩ : ∃ p : Nat, f = (p : Int) := ⟨f.toNat, by omega⟩
  have ep : ((p : Nat) : Int).toNat = p := by omega
  rcases hkd with rfl | rfl | rfl | rfl
  · refine zb176_0k hT hB (by omega) ?_
    refine z_passWeeks (D := D) (n := n) (k := k) hT hB (by omega) n1 k1 h18 hWF hR ho (by rw [hR.1.2.2.2.2.1]; omega) (fun M1 hB1 hF1 hR1 ho1 e57 => ?_)
    refine zb176_41 (lo := [(0, zr 1), (1, zi 107), (2, zi (p : Int)), (3, zi g)]) hT rfl ?_
    refine h1 _ M1 (by unfold doA; rw [if_pos rfl, ep]) hB1 ?_ hR1 ho1 (by omega)
    exact (hF1.sub pwWL).sub (fun c j q => by
      unfold inL at q ⊢
      unfold ydL
      simp only [List.any_cons, Bool.or_eq_true] at q ⊢
      exact Or.inr (Or.inr q))
  · obtain ⟨v1, v2⟩ := g1 rfl
    refine zb176_0w hT hB (by omega) ⟨v1, v2⟩ ?_
    have ew : wfV n k (M 20) (p : Int) g = wfV n k (fun q => a.1 (q + 6)) (p : Int) g := by
      unfold wfV
      rw [wIx_congr n 0 (f := M 20) (g := fun q => a.1 (q + 6)) (fun i _ hi => (hR.1.1 i (by omega)).2)]
    have hvb := wfVB (n := n) (k := k) (g := M 20) (p := (p : Int)) (c := g)
    refine z_wearFault (D := D + 2) (n := n) (k := k) hT hB (by unfold isI; omega) (by unfold isI; omega) n1 k1 ?_
    by_cases e0 : wfV n k (M 20) (p : Int) g = 0
    · obtain ⟨c1, c2⟩ := wfV_0 e0
      rw [e0]
      refine zb176_52a (f := p) (g := g) hT rfl hB (by omega) (by omega) (fun hz => ?_)
      refine h1 (fu a.1 (p + 6) g, a.2) _ (by unfold doA; rw [if_neg (by decide), if_pos rfl, if_pos (by rw [← ew]; exact e0), ep]) hz (zFr.refl.set rfl) ?_ (ho.wear (by omega) (by omega) c2) (by dsimp only; rw [fu_ne (by omega)]; omega)
      obtain ⟨⟨r1, r2, r3, r4, r5, r6⟩, d1, d2, d3⟩ := hR
      refine ⟨⟨fun q hq => ?_, fun c hc => ?_, ?_, fun i hi => ?_, ?_, ?_⟩, ?_, ?_, ?_⟩
      · obtain ⟨s1, s2⟩ := r1 q hq
        dsimp only
        rw [zu_dn (by omega), fu_ne (show q ≠ p + 6 by omega), zu_at]
        refine ⟨s1, ?_⟩
        by_cases e : q = p
        · rw [if_pos e, fu_eq (by omega)]
        · rw [if_neg e, fu_ne (by omega)]
          exact s2
      · dsimp only
        rw [zu_dn (by omega), zu_dn (by omega), zu_dn (by omega), fu_ne (by omega), fu_ne (by omega), fu_ne (by omega)]
        exact r2 c hc
      · dsimp only
        rw [zu_dn (by omega), fu_ne (by omega)]
        exact r3
      · dsimp only at hi ⊢
        rw [fu_ne (by omega)] at hi
        rw [zu_dn (by omega), fu_ne (by omega)]
        exact r4 i hi
      · dsimp only
        rw [zu_dn (by omega), fu_ne (by omega)]
        exact r5
      · dsimp only
        rw [zu_dn (by omega), fu_ne (by omega)]
        exact r6
      · rw [zu_dn (by omega)]
        exact d1
      · rw [zu_dn (by omega)]
        exact d2
      · rw [zu_dn (by omega)]
        exact d3
    · refine zb176_52b (f := p) (g := g) hT rfl hB (by omega) ⟨v1, v2⟩ (by omega) ?_
      exact h0 (by unfold doA; rw [if_neg (by decide), if_pos rfl, if_neg (by rw [← ew]; exact e0)])
  · obtain ⟨v1, v2⟩ := g2 rfl
    refine zb176_0g hT hB (by omega) ⟨v1, v2⟩ (fun q => ?_) (fun q hz => ?_)
    · exact h0 (by unfold doA; rw [if_neg (by decide), if_neg (by decide), if_pos rfl, if_neg (by omega)])
    · refine h1 (fu a.1 p g, a.2) _ (by unfold doA; rw [if_neg (by decide), if_neg (by decide), if_pos rfl, if_pos (by omega), ep]) hz (zFr.refl.set rfl) ?_ (ho.go (by omega) (by omega) ⟨v1, v2⟩) (by dsimp only; rw [fu_ne (by omega)]; omega)
      obtain ⟨⟨r1, r2, r3, r4, r5, r6⟩, d1, d2, d3⟩ := hR
      refine ⟨⟨fun q hq => ?_, fun c hc => ?_, ?_, fun i hi => ?_, ?_, ?_⟩, ?_, ?_, ?_⟩
      · obtain ⟨s1, s2⟩ := r1 q hq
        dsimp only
        rw [zu_at, zu_dn (by omega), fu_ne (show q + 6 ≠ p by omega)]
        refine ⟨?_, s2⟩
        by_cases e : q = p
        · rw [if_pos e, fu_eq e]
        · rw [if_neg e, fu_ne e]
          exact s1
      · dsimp only
        rw [zu_dn (by omega), zu_dn (by omega), zu_dn (by omega), fu_ne (by omega), fu_ne (by omega), fu_ne (by omega)]
        exact r2 c hc
      · dsimp only
        rw [zu_dn (by omega), fu_ne (by omega)]
        exact r3
      · dsimp only at hi ⊢
        rw [fu_ne (by omega)] at hi
        rw [zu_dn (by omega), fu_ne (by omega)]
        exact r4 i hi
      · dsimp only
        rw [zu_dn (by omega), fu_ne (by omega)]
        exact r5
      · dsimp only
        rw [zu_dn (by omega), fu_ne (by omega)]
        exact r6
      · rw [zu_dn (by omega)]
        exact d1
      · rw [zu_dn (by omega)]
        exact d2
      · rw [zu_dn (by omega)]
        exact d3
  · obtain ⟨v1, v2⟩ := g3 rfl
    refine zb176_0m hT hB (by omega) ⟨v1, v2⟩ (fun q => ?_) (fun q => ?_)
    · exact h0 (by unfold doA; rw [if_neg (by decide), if_neg (by decide), if_neg (by decide), if_neg (by omega)])
    · refine z_tailor (D := D + 3) (n := n) (k := k) (a := a) hT hB (by omega) (by omega) (by omega) ⟨v1, v2⟩ hR (fun M1 hB1 hF1 hR1 => ?_)
      refine zb176_116 (lo := [(0, zr 1), (1, zi 109), (2, zi (p : Int)), (3, zi g)]) hT rfl ?_
      refine h1 _ M1 (by unfold doA; rw [if_neg (by decide), if_neg (by decide), if_neg (by decide), if_pos (by omega), ep]) hB1 ((hF1.sub tlWL).sub (inL_sub (by decide))) hR1 (ho.mk (by omega) (by omega) (hB 24 0).1 (by omega)) ?_
      rw [mkA_keep (by omega) ho.2.1 (by omega)]
      omega
noncomputable def ydRL : zLs := mkL 75 ++ lbL
theorem z_actDo (hT : zRules T) {M : zM} {n k q : Nat} {a : zS} {kd f g : Int} (hB : zB M) (n2 : M 74 4 = (n : Int)) (k2 : M 74 6 = (k : Int)) (hLR : LawRel M) (hR : RelR 75 M a) (ho : okRow n k a.1) (h57 : a.1 57 + 9 ≤ 400000) (hok : okA kd f g) (hq : q ≤ 87) (e0 : M 89 q = kd) (e1 : M 89 (q + 1) = f) (e2 : ¬ kd = 107 → M 89 (q + 2) = g)
    (h0 : doA (lawR M) (M 79 0) n k a kd f g = none → κ (some (zi 0)) M)
    (h1 : ∀ b M1, doA (lawR M) (M 79 0) n k a kd f g = some b → zB M1 → zFr (inL ydRL) M M1 → RelR 75 M1 b → okRow n k b.1 → (a.1 57 ≤ b.1 57 ∧ b.1 57 ≤ a.1 57 + 9) → κ (some (zi 1)) M1) : T (D + 172) 240 (0, [(0, zr 74), (1, zi (q : Int))], [], M) κ := by
  have b17 : 0 ≤ M 74 4 ∧ M 74 4 ≤ 6 := hB 74 4
  have b171 : 0 ≤ M 74 6 ∧ M 74 6 ≤ 8 := hB 74 6
  obtain ⟨hkd, hf, g1, g2, g3⟩ := hok
  obtain ⟨p, rfl⟩ : ∃ p : Nat, f = (p : Int) := ⟨f.toNat, by omega⟩
  have ep : ((p : Nat) : Int).toNat = p := by omega
  have w0 : wr (M 89 q) = kd := by rw [e0]; exact wr_id (by omega) (by omega)
  have w1 : wr (M 89 (q + 1)) = (p : Int) := by rw [e1]; exact wr_id (by omega) (by omega)
  have key := zb240_0 (D := D + 168) (κ := κ) (m := M) (k := q) hT hB hq
  rw [w0, w1, e1, ep] at key
  rcases hkd with rfl | rfl | rfl | rfl
  · refine key (fun x => absurd x (by decide)) (fun x => absurd x (by decide)) (fun x => absurd x (by decide)) (fun _ _ => ?_) (fun _ x => absurd rfl x) (fun _ x => absurd rfl x) (fun _ x => absurd rfl x) (fun _ x => absurd rfl x)
    have loop : ∀ (j i : Nat) (b : zS) (M1 : zM), i + j = p → zB M1 → zFr (inL ydRL) M M1 → RelR 75 M1 b → okRow n k b.1 → b.1 57 = a.1 57 + i → wksA (lawR M) (M 79 0) n b j = wksA (lawR M) (M 79 0) n a p → T (D + 172) 240 (63, [(0, zr 74), (2, zi (p : Int)), (4, zi (i : Int))], [], M1) κ := by
      intro j
      induction j with
      | zero =>
        intro i b M1 hi hB1 hF1 hR1 ho1 e57 hw
        rw [wksA] at hw
        exact zb240_63 (D := D + 168) hT rfl hB1 (by omega) (by omega) (fun _ => h1 b M1 (by unfold doA; rw [if_pos rfl, ep, hw]) hB1 hF1 hR1 ho1 (by omega)) (fun x => by omega)
      | succ j ih =>
        intro i b M1 hi hB1 hF1 hR1 ho1 e57 hw
        have hA : Agree KL M M1 := .of hF1 rfl
        have e78 : M1 78 = M 78 := funext fun j => hF1 78 j rfl
        have eL : lawR M1 = lawR M := by
          unfold lawR
          rw [hA.law.2, e78]
        have hok2 := wkA_ok (L := lawR M) (h := M 79 0) (n := n) (k := k) (b := b) (by omega) (by omega) (hB 79 0).1 ho1
        refine zb240_63 (D := D + 168) hT rfl hB1 (by omega) (by omega) (fun x => by omega) (fun _ => ?_)
        refine z_goWeek_75 (D := D) (n := n) (k := k) hT hB1 ((hF1 74 4 rfl).trans n2) (by omega) (hA.law.1 hLR) hR1 ho1 (by omega) (fun M2 hB2 hF2 hR2 => ?_)
        rw [eL, hF1 79 0 rfl] at hR2
        refine zb240_77 (D := D + 168) hT rfl hB2 (by omega) (by omega) ?_
        refine ih (i + 1) _ M2 (by omega) hB2 (hF1.trans (hF2.sub gwWL)) hR2 hok2.1 (by rw [hok2.2]; omega) ?_
        rw [← hw, wksA]
    exact loop p 0 a M (by omega) hB zFr.refl hR ho (by omega) rfl
  · obtain ⟨v1, v2⟩ := g1 rfl
    have f2 := e2 (by decide)
    refine key (fun x => absurd x (by decide)) (fun x => absurd x (by decide)) (fun x => absurd x (by decide)) (fun _ x => absurd x (by decide)) (fun _ _ _ => ?_) (fun _ _ x => absurd rfl x) (fun _ _ x => absurd rfl x) (fun _ _ x => absurd rfl x)
    rw [f2]
    have er : (fun q => M 75 (q + 6)) = (fun q => a.1 (q + 6)) := by rw [hR.1]
    have hvb := wfVB (n := n) (k := k) (g := fun q => M 75 (q + 6)) (p := (p : Int)) (c := g)
    refine z_refusesWear (D := D + 168) (n := n) (k := k) hT hB (by unfold isI; omega) (by unfold isI; omega) n2 k2 ?_
    by_cases e0 : wfV n k (fun q => M 75 (q + 6)) (p : Int) g = 0
    · obtain ⟨c1, c2⟩ := wfV_0 e0
      rw [e0]
      refine zb240_91a (D := D + 168) (a := p) (b := g) hT rfl hB (by omega) (by omega) (fun hz => ?_)
      refine h1 (fu a.1 (p + 6) g, a.2) _ (by unfold doA; rw [if_neg (by decide), if_pos rfl, if_pos (by rw [← er]; exact e0), ep]) hz (zFr.refl.set rfl) ?_ (ho.wear (by omega) (by omega) c2) (by dsimp only; rw [fu_ne (by omega)]; omega)
      obtain ⟨r1, r2, r3, r4⟩ := hR
      exact ⟨by rw [zu_row, r1], by rw [zu_dn (by omega)]; exact r2, by rw [zu_dn (by omega)]; exact r3, by rw [zu_dn (by omega)]; exact r4⟩
    · refine zb240_91b (D := D + 168) (a := p) (b := g) hT rfl hB (by omega) ⟨v1, v2⟩ (by omega) ?_
      exact h0 (by unfold doA; rw [if_neg (by decide), if_pos rfl, if_neg (by rw [← er]; exact e0)])
  · obtain ⟨v1, v2⟩ := g2 rfl
    have f2 := e2 (by decide)
    refine key (fun _ x => by omega) (fun _ _ x => ?_) (fun _ _ x => ?_) (fun x => absurd rfl x) (fun x => absurd rfl x) (fun x => absurd rfl x) (fun x => absurd rfl x) (fun x => absurd rfl x)
    · exact h0 (by unfold doA; rw [if_neg (by decide), if_neg (by decide), if_pos rfl, if_neg (by omega)])
    · rw [f2]
      refine h1 (fu a.1 p g, a.2) _ (by unfold doA; rw [if_neg (by decide), if_neg (by decide), if_pos rfl, if_pos (by omega), ep]) (zB_u hB (zbSg 75 0 6 0 3 rfl p g (by omega) (by omega) ⟨v1, v2⟩)) (zFr.refl.set rfl) ?_ (ho.go (by omega) (by omega) ⟨v1, v2⟩) (by dsimp only; rw [fu_ne (by omega)]; omega)
      obtain ⟨r1, r2, r3, r4⟩ := hR
      exact ⟨by rw [zu_row, r1], by rw [zu_dn (by omega)]; exact r2, by rw [zu_dn (by omega)]; exact r3, by rw [zu_dn (by omega)]; exact r4⟩
  · obtain ⟨v1, v2⟩ := g3 rfl
    have f2 := e2 (by decide)
    refine key (fun x => absurd x (by decide)) (fun x => absurd x (by decide)) (fun x => absurd x (by decide)) (fun _ x => absurd x (by decide)) (fun _ _ x => absurd x (by decide)) (fun _ _ _ x => by omega) (fun _ _ _ _ x => ?_) (fun _ _ _ _ x => ?_)
    · exact h0 (by unfold doA; rw [if_neg (by decide), if_neg (by decide), if_neg (by decide), if_neg (by omega)])
    · rw [f2]
      refine z_makes_75 (D := D + 169) (c := p) (a := a) hT hB (by omega) ⟨v1, v2⟩ hR (fun M1 hB1 hF1 hR1 => ?_)
      refine zb240_147 (D := D + 168) (lo := [(0, zr 74), (1, zi (q : Int)), (2, zi (p : Int)), (3, zi g)]) hT rfl ?_
      refine h1 _ M1 (by unfold doA; rw [if_neg (by decide), if_neg (by decide), if_neg (by decide), if_pos (by omega), ep]) hB1 ((hF1.sub mkWL).sub (inL_sub (by decide))) hR1 (ho.mk (by omega) (by omega) (hB 79 0).1 (by omega)) ?_
      rw [mkA_keep (by omega) ho.2.1 (by omega)]
      omega
end ZDoAct
/-- how many acts are done, and what comes of it -/
noncomputable def yrun (L : Nat → Int → Int → Int) (h : Int) (n k : Nat) (act : Nat → Int × Int × Int) : Nat → Nat → zS → Nat × zS
  | 0, d, a => (d, a)
  | j + 1, d, a => match doA L h n k a (act d).1 (act d).2.1 (act d).2.2 with
    | none => (d, a)
    | some b => yrun L h n k act j (d + 1) b
theorem yrun_congr {L L2 : Nat → Int → Int → Int} {h : Int} {n k : Nat} {act : Nat → Int × Int × Int} (he : ∀ i, i < n → L i = L2 i) : ∀ (j d : Nat) (a : zS), yrun L h n k act j d a = yrun L2 h n k act j d a
  | 0, _, _ => rfl
  | j + 1, d, a => by
    rw [yrun, yrun, doA_congr he]
    cases doA L2 h n k a (act d).1 (act d).2.1 (act d).2.2 with
    | none => rfl
    | some b => exact yrun_congr he j (d + 1) b
theorem yrun_d {L : Nat → Int → Int → Int} {h : Int} {n k : Nat} {act : Nat → Int × Int × Int} : ∀ (j d : Nat) (a : zS), d ≤ (yrun L h n k act j d a).1 ∧ (yrun L h n k act j d a).1 ≤ d + j
  | 0, d, _ => ⟨Nat.le_refl d, Nat.le_refl d⟩
  | j + 1, d, a => by
    rw [yrun]
    cases doA L h n k a (act d).1 (act d).2.1 (act d).2.2 with
    | none =>
      dsimp only
      exact ⟨Nat.le_refl d, by omega⟩
    | some b =>
      have := yrun_d (L := L) (h := h) (n := n) (k := k) (act := act) j (d + 1) b
      dsimp only
      exact ⟨by omega, by omega⟩
/-- the act that begins at a -/
noncomputable def actV (s : Nat → Int) (i : Nat) : Int × Int × Int := match actS s (stY s i) with
  | .inl _ => (0, 0, 0)
  | .inr q => (s (stY s i), q.1, q.2.1)
theorem actV_ok {s : Nat → Int} {L : Nat} (hs : ∀ a, L ≤ a → s a = -1) {i b : Nat} {f v : Int} (e : actS s (stY s i) = .inr (f, v, b)) : actV s i = (s (stY s i), f, v) ∧ okA (s (stY s i)) f v := by
  refine ⟨by unfold actV; rw [e], ?_⟩
  rcases Nat.lt_or_ge L (stY s i) with h | h
  · have h1 := hs (stY s i) (by omega)
    rw [actS_0 (by omega) (by omega) (by omega) (by omega)] at e
    cases e
  · obtain ⟨b1, b2, b3, b4, b5, b6, b7⟩ := (actS_b hs h).2 f v b e
    exact ⟨b3, b4, b5, b6, b7⟩
