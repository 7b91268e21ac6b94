/-! rule(). -/
theorem pWL : ∀ c j, pW c j = true → inL [(74, some 16), (74, some 17)] c j = true := by
  intro c j h
  simp only [pW, Bool.and_eq_true, Bool.or_eq_true] at h
  obtain ⟨h1, h2⟩ := h
  have e := Nat.eq_of_beq_eq_true h1
  subst e
  rcases h2 with q | q
  · have := Nat.eq_of_beq_eq_true q
    subst this
    rfl
  · have := Nat.eq_of_beq_eq_true q
    subst this
    rfl
theorem cWL : ∀ c j, cW c j = true → inL [(2, some 3), (9, some 8), (14, none), (15, none), (16, none)] c j = true := by
  intro c j h
  simp only [cW, Bool.and_eq_true, Bool.or_eq_true] at h
  rcases h with ⟨a, b⟩ | a | a | a | ⟨a, b⟩
  · have e1 := Nat.eq_of_beq_eq_true a
    have e2 := Nat.eq_of_beq_eq_true b
    subst e1 e2
    rfl
  · have e1 := Nat.eq_of_beq_eq_true a
    subst e1
    rfl
  · have e1 := Nat.eq_of_beq_eq_true a
    subst e1
    rfl
  · have e1 := Nat.eq_of_beq_eq_true a
    subst e1
    rfl
  · have e1 := Nat.eq_of_beq_eq_true a
    have e2 := Nat.eq_of_beq_eq_true b
    subst e1 e2
    rfl
theorem ruleV_of {M N : zM} {k : Nat} {e : zEnv} (h94 : N 9 4 = ((k + 1 : Nat) : Int)) (hc : ∀ j, j < k + 1 → N 10 j = M 14 j ∧ N 11 j = M 15 j ∧ N 12 j = M 16 j) : ruleV N e = wr (pv (M 14) (M 15) (M 16) e k) := by
  unfold ruleV pv
  rw [if_neg (by omega), h94, Int.toNat_natCast, valsN_congr (k + 1) hc]
  rfl
/-- what a text of L signs is, as a RULE: at fault, none, or what it is worth -/
noncomputable def ruO (s : Nat → Int) (L : Nat) : Nat ⊕ Option (zEnv → Int) := if L = 0 then .inr none else match rp s 164 0 0 0 e0f with
  | .inl x => .inl x
  | .inr q => if q.1 = L then .inr (some q.2) else .inl q.1
theorem ruO_0 {s : Nat → Int} : ruO s 0 = .inr none := rfl
theorem ruO_l {s : Nat → Int} {L x : Nat} (hL : ¬ L = 0) (h : rp s 164 0 0 0 e0f = .inl x) : ruO s L = .inl x := by
  unfold ruO
  rw [if_neg hL, h]
theorem ruO_b {s : Nat → Int} {L b : Nat} {v : zEnv → Int} (hL : ¬ L = 0) (h : rp s 164 0 0 0 e0f = .inr (b, v)) (hb : ¬ b = L) : ruO s L = .inl b := by
  unfold ruO
  rw [if_neg hL, h]
  exact if_neg hb
theorem ruO_r {s : Nat → Int} {L b : Nat} {v : zEnv → Int} (hL : ¬ L = 0) (h : rp s 164 0 0 0 e0f = .inr (b, v)) (hb : b = L) : ruO s L = .inr (some v) := by
  unfold ruO
  rw [if_neg hL, h]
  exact if_pos hb
section ZRuleW
variable {T : Nat → Nat → zG → (Option zA → zM → Prop) → Prop} {B : Int}
theorem z_ruleCopy (hT : zRules T) {D : Nat} {κ : Option zA → zM → Prop} {n : Nat} {M : zM} (hn : n ≤ 40) (hB : zB M)
    (h : ∀ M1, zB M1 → zFr (inL [(74, some 25), (86, none)]) M M1 → M1 74 25 = (n : Int) → (∀ u, u < n → M1 86 u = M 80 u) → κ (some (zi 0)) M1) : T (D + 5) 212 (73, [(0, zr 74), (1, zi (n : Int)), (2, zi 0)], [], M) κ := by
  have key : ∀ (j k : Nat) (N : zM), k + j = n → zB N → zFr (inL [(74, some 25), (86, none)]) M N → (∀ u, u < k → N 86 u = M 80 u) → T (D + 5) 212 (73, [(0, zr 74), (1, zi (n : Int)), (2, zi (k : Int))], [], N) κ := by
    intro j
    induction j with
    | zero =>
      intro k N hk hBN hF g
      refine zb212_73 hT rfl hBN hn (by omega) (fun _ hz => h _ hz (hF.set rfl) (by rw [zu_sm rfl]) (fun u hu => ?_)) (fun q => by omega)
      rw [zu_dn (by omega)]
      exact g u (by omega)
    | succ j ih =>
      intro k N hk hBN hF g
      refine zb212_73 hT rfl hBN hn (by omega) (fun q => by omega) (fun _ hz => ?_)
      refine ih (k + 1) _ (by omega) hz (hF.set rfl) (fun u hu => ?_)
      by_cases e : u = k
      · subst e
        rw [zu_sm rfl, hF 80 _ rfl]
      · rw [zu_off e]
        exact g u (by omega)
  exact key n 0 M (by omega) hB zFr.refl (fun u hu => by omega)
theorem w_rule (hT : zRules T) : Way T 116 212 [(0, zr 1)] [(0, zr 74)] 38 169 B B True := by
  rintro D m sc ⟨n, k, hI⟩ κ hκ
  have hI0 := hI
  obtain ⟨i1, i2, i3, i4, i5, i6, i7, i8, i9, i10, i11⟩ := hI
  have b21 : 0 ≤ m 2 1 ∧ m 2 1 ≤ 80 := i1 2 1
  obtain ⟨L, hL⟩ : ∃ L : Nat, m 2 1 = (L : Int) := ⟨(m 2 1).toNat, by omega⟩
  obtain ⟨Lm, hm1, hm2⟩ : ∃ Lm : Nat, (L ≤ 40 → Lm = L) ∧ (40 < L → Lm = 40) := by
    rcases Nat.lt_or_ge 40 L with q | q
    · exact ⟨40, fun x => by omega, fun _ => rfl⟩
    · exact ⟨L, fun _ => rfl, fun x => by omega⟩
  have hLm : Lm ≤ 40 ∧ Lm ≤ L := by
    rcases Nat.lt_or_ge 40 L with q | q
    · have := hm2 q
      omega
    · have := hm1 q
      omega
  have hs : ∀ a, Lm ≤ a → sgT m 40 a = -1 := fun a ha => by
    unfold sgT
    rw [if_neg (fun x => by
      obtain ⟨x1, x2⟩ := x
      rcases Nat.lt_or_ge 40 L with q | q
      · have := hm2 q
        omega
      · have := hm1 q
        omega)]
  have hok := rp_ok hs 164 0 0 0 e0f (Nat.zero_le Lm) (fun _ => rfl)
  -- the reference behind the class
  have ref : ∀ (r : Option zA) (M1 : zM), zB M1 → zFr (inL [(2, some 1), (2, some 2), (2, some 3), (9, some 4), (9, some 8), (10, none), (11, none), (12, none), (14, none), (15, none), (16, none)]) m M1 → M1 2 1 = 0 →
      (∀ x, ruO (sgT m 40) L = .inl x → r = some (zi (-1 - (x : Int))) ∧ Agree KL m M1) →
      (∀ o, ruO (sgT m 40) L = .inr o → r = some (zi 0) ∧ ((o = none ∧ M1 9 4 = 0) ∨ ∃ (v : zEnv → Int) (q : Nat), o = some v ∧ M1 9 4 = ((q + 1 : Nat) : Int) ∧ WFp (M1 10) (M1 11) (M1 12) (q + 1) ∧ ∀ e, okE e → ruleV M1 e = v e)) → κ r M1 := by
    intro r M1 hB1 hF1 h21 hx hq
    refine hκ _ _ (fun D2 κ2 h2 => ?_)
    have e9 : M1 74 9 = (L : Int) := by rw [hF1 74 9 rfl, i2.1, hL]
    -- what is at fault
    have bad : ∀ (x : Nat) (M2 : zM), ruO (sgT m 40) L = .inl x → zB M2 → M2 74 9 = 0 → zFr (inL [(74, some 9), (74, some 12), (74, some 13), (74, some 14), (74, some 15), (74, some 16), (74, some 17), (74, some 26)]) M1 M2 → κ2 (some (zi (-1 - (x : Int)))) M2 := by
      intro x M2 hal hB2 h9 hF2
      obtain ⟨hr, hAL⟩ := hx x hal
      have hF : zFr (inL [(2, some 1), (2, some 2), (2, some 3), (9, some 4), (9, some 8), (10, none), (11, none), (12, none), (14, none), (15, none), (16, none), (74, some 9), (74, some 12), (74, some 13), (74, some 14), (74, some 15), (74, some 16), (74, some 17), (74, some 26)]) m M2 := (hF1.sub (inL_sub (by decide))).trans (hF2.sub (inL_sub (by decide)))
      have hAL2 : Agree KL m M2 := hAL.trans (.of hF2 rfl)
      refine h2 _ _ (fun _ => hr) ⟨n, k, hB2, ⟨?_, fun j hj => ?_⟩, hAL2.law.1 i3, House_fr (.of hF rfl) i4, Term_fr (.of hF rfl) i5, Undo_fr (.of hF rfl) i6, Kept_fr (.of hF rfl) i7, Seen_fr (.of hF rfl) i8, Job_fr (.of hF rfl) i9, Now_fr (.of hF rfl) i10, Scr_fr (.of hF rfl) i11⟩
      · rw [h9, hF2 2 1 rfl, h21]
      · rw [hF2 2 1 rfl, h21] at hj
        omega
    -- what is fine
    have good : ∀ (o : Option (zEnv → Int)) (M2 M3 : zM), ruO (sgT m 40) L = .inr o → (∀ v, o = some v → ¬ L = 0 ∧ rp (sgT m 40) 164 0 0 0 e0f = .inr (L, v)) → (o = none → L = 0) → L ≤ 40 → zB M3 → M3 74 9 = 0 → zFr (inL [(74, some 9), (74, some 12), (74, some 13), (74, some 14), (74, some 15), (74, some 16), (74, some 17), (74, some 26)]) M1 M2 → zFr (inL [(74, some 25), (86, none)]) M2 M3 → M3 74 25 = (L : Int) → (∀ u, u < L → M3 86 u = M2 80 u) → κ2 (some (zi 0)) M3 := by
      intro o M2 M3 hal ho ho0 hL40 hB3 h9 hF2 hF3 h25 h86
      obtain ⟨hr, hcl⟩ := hq o hal
      have hF : zFr (inL [(2, some 1), (2, some 2), (2, some 3), (9, some 4), (9, some 8), (10, none), (11, none), (12, none), (14, none), (15, none), (16, none), (74, some 9), (74, some 12), (74, some 13), (74, some 14), (74, some 15), (74, some 16), (74, some 17), (74, some 25), (74, some 26), (86, none)]) m M3 := ((hF1.sub (inL_sub (by decide))).trans (hF2.sub (inL_sub (by decide)))).trans (hF3.sub (inL_sub (by decide)))
      have hA3 : Agree [(9, some 4), (10, none), (11, none), (12, none)] M1 M3 := (Agree.of hF2 rfl).trans (.of hF3 rfl)
      have c10 : M3 10 = M1 10 := funext fun j => hA3 10 j rfl
      have c11 : M3 11 = M1 11 := funext fun j => hA3 11 j rfl
      have c12 : M3 12 = M1 12 := funext fun j => hA3 12 j rfl
      have c94 : M3 9 4 = M1 9 4 := hA3 9 4 rfl
      have hAl : Agree [(4, some 4), (5, none), (6, none), (74, some 1), (76, none), (77, none)] m M3 := .of hF rfl
      have a44 : M3 4 4 = m 4 4 := hAl 4 4 rfl
      have a5 : M3 5 = m 5 := funext fun j => hAl 5 j rfl
      have a6 : M3 6 = m 6 := funext fun j => hAl 6 j rfl
      have a741 : M3 74 1 = m 74 1 := hAl 74 1 rfl
      have a76 : M3 76 = m 76 := funext fun j => hAl 76 j rfl
      have a77 : M3 77 = m 77 := funext fun j => hAl 77 j rfl
      have hAlm : AlmRel M3 := by
        unfold AlmRel
        rw [a44, a5, a6, a741, a76, a77]
        exact i3.2.1
      have hW1 : ∀ p : Nat, (p : Int) < M3 4 4 → 1 ≤ M3 6 p := by
        rw [a44, a6]
        exact i3.1.1
      have hsQ : sQ M3 = sgT m 40 := by
        funext a
        unfold sQ sgT
        rw [h25, hL]
        by_cases q : a < L
        · rw [if_pos (by omega), if_pos ⟨by omega, by omega⟩, h86 a q, hF2 80 a rfl, hF1 80 a rfl, z_and255, i2.2 a (by omega)]
        · rw [if_neg (by omega), if_neg (fun x => by omega)]
      have hlaw : LawRel M3 := by
        rcases hcl with ⟨rfl, e94⟩ | ⟨v, q, rfl, e94, hW, hv⟩
        · refine ⟨⟨hW1, ?_⟩, hAlm, Or.inl ⟨by rw [c94, e94]; omega, by rw [h25, ho0 rfl]; rfl⟩⟩
          rw [c94, e94]
          intro k hk
          exact absurd hk (Nat.not_lt_zero k)
        · obtain ⟨hL0, hrp⟩ := ho v rfl
          refine ⟨⟨hW1, ?_⟩, hAlm, Or.inr ⟨by rw [c94, e94]; omega, by rw [h25]; omega, v, ?_, fun e he => ?_⟩⟩
          · rw [c94, e94, Int.toNat_natCast, c10, c11, c12]
            exact hW
          · rw [hsQ, h25, Int.toNat_natCast]
            exact hrp
          · rw [← hv e he]
            unfold ruleV
            rw [c94, c10, c11, c12]
      refine h2 _ _ (fun _ => hr) ⟨n, k, hB3, ⟨?_, fun j hj => ?_⟩, hlaw, House_fr (.of hF rfl) i4, Term_fr (.of hF rfl) i5, Undo_fr (.of hF rfl) i6, Kept_fr (.of hF rfl) i7, Seen_fr (.of hF rfl) i8, Job_fr (.of hF rfl) i9, Now_fr (.of hF rfl) i10, Scr_fr (.of hF rfl) i11⟩
      · rw [h9, hF3 2 1 rfl, hF2 2 1 rfl, h21]
      · rw [hF3 2 1 rfl, hF2 2 1 rfl, h21] at hj
        omega
    refine zb212_0 (D := D2 + 164) hT hB1 (fun q hz => ?_) (fun q hz => ?_)
    · rw [e9] at hz ⊢
      have eL : L = 0 := by omega
      subst eL
      refine z_ruleCopy (n := 0) (D := D2 + 164) hT (by omega) hz (fun M3 hB3 hF3 h25 h86 => ?_)
      refine good none _ M3 ruO_0 (fun v hv => by cases hv) (fun _ => rfl) (by omega) hB3 ?_ (((((((zFr.refl.set rfl).set rfl).set rfl).set rfl).set rfl).set rfl).set rfl |>.set rfl) hF3 h25 h86
      rw [hF3 74 9 rfl]
      simp (disch := omega) only [zu_off, zu_sm]
    · rw [e9] at hz ⊢
      have hL0 : ¬ L = 0 := by omega
      generalize hN : (zu (zu (zu (zu (zu (zu (zu (zu M1 74 12 0) 74 13 80) 74 14 (L : Int)) 74 15 40) 74 16 0) 74 17 (-1)) 74 9 0) 74 26 0) = N at hz ⊢
      have f13 : N 74 13 = 80 := by rw [← hN]; simp (disch := omega) only [zu_off, zu_sm]
      have f14 : N 74 14 = m 2 1 := by rw [← hN, hL]; simp (disch := omega) only [zu_off, zu_sm]
      have f15 : N 74 15 = 40 := by rw [← hN]; simp (disch := omega) only [zu_off, zu_sm]
      have f16 : N 74 16 = 0 := by rw [← hN]; simp (disch := omega) only [zu_off, zu_sm]
      have f17 : N 74 17 = -1 := by rw [← hN]; simp (disch := omega) only [zu_off, zu_sm]
      have f9 : N 74 9 = 0 := by rw [← hN]; simp (disch := omega) only [zu_off, zu_sm]
      have f26 : N 74 26 = 0 := by rw [← hN]; simp (disch := omega) only [zu_sm]
      have hFN : zFr (inL [(74, some 9), (74, some 12), (74, some 13), (74, some 14), (74, some 15), (74, some 16), (74, some 17), (74, some 26)]) M1 N := by
        rw [← hN]
        exact (((((((zFr.refl.set rfl).set rfl).set rfl).set rfl).set rfl).set rfl).set rfl).set rfl
      have e80 : ∀ j, N 80 j = m 80 j := fun j => (hFN 80 j rfl).trans (hF1 80 j rfl)
      have hsR := sT_R i2 e80 f14 f15
      have key := (rr_all_80 (m := N) (s := sgT m 40) (L := Lm) hT f13 hsR.symm (by omega) (by omega) hs (Or.inl f26) 164).1
      refine key D2 0 0 N _ (by omega) hz zFr.refl f16 f17 (by omega) (by omega) ?_
      revert hok
      cases hr : rp (sgT m 40) 164 0 0 0 e0f with
      | inl x =>
        intro hok v M2 hv hB2 hF2 h17
        have hx2 := hok.2
        have hF3 := hFN.trans ((hF2.sub pWL).sub (inL_sub (L := [(74, some 16), (74, some 17)]) (K := [(74, some 9), (74, some 12), (74, some 13), (74, some 14), (74, some 15), (74, some 16), (74, some 17), (74, some 26)]) (by decide)))
        have fin : κ2 (some (zi (-1 - M2 74 17))) M2 := by
          rw [h17]
          exact bad x M2 (ruO_l hL0 hr) hB2 (by rw [hF2 74 9 rfl, f9]) hF3
        exact zb212_40f (n := L) (v := v) (D := D2 + 164) hT rfl hB2 (by omega) (by omega) (fun _ => fin) (fun _ => fin)
      | inr y =>
        obtain ⟨b, w⟩ := y
        intro hok M2 hB2 hF2 h16 h17
        obtain ⟨⟨o1, o2, o3⟩, o4⟩ := hok
        dsimp only at o1 o2 o3 h16
        have hF3 := hFN.trans ((hF2.sub pWL).sub (inL_sub (L := [(74, some 16), (74, some 17)]) (K := [(74, some 9), (74, some 12), (74, some 13), (74, some 14), (74, some 15), (74, some 16), (74, some 17), (74, some 26)]) (by decide)))
        refine zb212_40 (n := L) (v := w (envR N)) (D := D2 + 164) hT rfl hB2 (by omega) (by omega) (by omega) (fun q => ?_) (fun q hz2 => ?_)
        · have eb : b = L := by omega
          refine z_ruleCopy (n := L) (D := D2 + 164) hT (by omega) hB2 (fun M3 hB3 hF4 h25 h86 => ?_)
          refine good (some w) M2 M3 (ruO_r hL0 hr eb) (fun v hv => ?_) (fun x => by cases x) (by omega) hB3 ?_ hF3 hF4 h25 h86
          · cases hv
            rw [eb] at hr
            exact ⟨hL0, hr⟩
          · rw [hF4 74 9 rfl, hF2 74 9 rfl, f9]
        · rw [h16]
          refine bad b _ (ruO_b hL0 hr (by omega)) (by rw [← h16]; exact hz2) ?_ (hF3.set rfl)
          rw [zu_off (by omega), hF2 74 9 rfl, f9]
  -- the class
  have cls : ∀ top : Int, top = (if m 2 1 < 40 then m 2 1 else 40) → zB (zu (zu m 2 3 0) 2 2 top) → T (D + 37) 50 (0, [(0, zr 9), (1, zr 2)], [], zu (zu m 2 3 0) 2 2 top) (fun r m1 => T (D + 38) 116 (21, [(0, zr 1)], r.toList ++ [zr 1], m1) κ) := by
    intro top htop hz
    generalize hN : zu (zu m 2 3 0) 2 2 top = N at hz ⊢
    have f21 : N 2 1 = (L : Int) := by rw [← hN]; simp (disch := omega) only [zu_off]; exact hL
    have f22 : N 2 2 = top := by rw [← hN]; simp (disch := omega) only [zu_sm]
    have f23 : N 2 3 = 0 := by rw [← hN]; simp (disch := omega) only [zu_off, zu_sm]
    have hFN : zFr (inL [(2, some 2), (2, some 3)]) m N := by
      rw [← hN]
      exact (zFr.refl.set rfl).set rfl
    refine zb50_0 (D := D + 24) hT hz (fun q hz1 => ?_) (fun q hz1 => ?_)
    · have hL0 : ¬ L = 0 := by omega
      have hs1 : sgC (zu N 9 8 0) = sgT m 40 := sT_C (fun j => by rw [zu_dn (by omega)]; exact hFN 3 j rfl) (by rw [zu_dn (by omega), f22, htop])
      have key := (cr_all (m := zu N 9 8 0) (s := sgT m 40) (L := Lm) hT hs1.symm (by omega) hs 164).1
      refine key D 0 4 0 0 (zu N 9 8 0) _ (by omega) hz1 zFr.refl (by rw [zu_dn (by omega), f23]; rfl) ⟨by rw [zu_sm rfl]; rfl, fun k hk => absurd hk (Nat.not_lt_zero k)⟩ (by omega) (by omega) (by omega) ?_
      have hF0 : zFr (inL [(2, some 2), (2, some 3), (9, some 8)]) m (zu N 9 8 0) := (hFN.sub (inL_sub (by decide))).set rfl
      revert hok
      cases hr : rp (sgT m 40) 164 0 0 0 e0f with
      | inl x =>
        intro hok M1 hB1 hF1 h23
        have hx2 := hok.2
        have hF2 : zFr (inL [(2, some 1), (2, some 2), (2, some 3), (9, some 8), (14, none), (15, none), (16, none)]) m (zu M1 2 1 0) := ((hF0.sub (inL_sub (by decide))).trans ((hF1.sub cWL).sub (inL_sub (by decide)))).set rfl
        refine zb50_18 (v := -1) (D := D + 24) hT rfl hB1 (by omega) (hB1 9 8) (by omega) (fun _ => ?_) (fun q => absurd rfl q) (fun q => absurd rfl q)
        refine zb116_21 (v := -1) (D := D + 24) hT rfl hB1 (by omega) (fun q => by omega) (fun _ hz2 => ?_)
        rw [h23]
        refine ref _ _ hz2 (hF2.sub (inL_sub (by decide))) (by rw [zu_sm rfl]) (fun y hy => ?_) (fun y hy => ?_)
        · rw [ruO_l hL0 hr] at hy
          cases hy
          exact ⟨rfl, .of hF2 rfl⟩
        · rw [ruO_l hL0 hr] at hy
          cases hy
      | inr y =>
        obtain ⟨b, w⟩ := y
        intro hok j n1 M1 hB1 hF1 h23 hD1 hn1 hs2 hj hnb hw
        obtain ⟨⟨o1, o2, o3⟩, o4⟩ := hok
        dsimp only at o1 o2 o3 o4 h23 hnb hw
        have e98 := hD1.1
        have c21 : M1 2 1 = (L : Int) := by rw [hF1 2 1 rfl, zu_dn (by omega), f21]
        have hF2 : zFr (inL [(2, some 1), (2, some 2), (2, some 3), (9, some 8), (14, none), (15, none), (16, none)]) m M1 := (hF0.sub (inL_sub (by decide))).trans ((hF1.sub cWL).sub (inL_sub (by decide)))
        have hb : b ≤ 40 := by omega
        refine zb50_18 (v := (j : Int)) (D := D + 24) hT rfl hB1 (by omega) (hB1 9 8) (by omega) (fun q => by omega) (fun _ q2 => ?_) (fun _ q2 => ?_)
        · refine zb116_21 (v := -1) (D := D + 24) hT rfl hB1 (by omega) (fun q => by omega) (fun _ hz2 => ?_)
          rw [h23]
          refine ref _ _ hz2 ((hF2.set rfl).sub (inL_sub (by decide))) (by rw [zu_sm rfl]) (fun y hy => ?_) (fun y hy => ?_)
          · rw [ruO_b hL0 hr (by omega)] at hy
            cases hy
            exact ⟨rfl, .of (hF2.set rfl) rfl⟩
          · rw [ruO_b hL0 hr (by omega)] at hy
            cases hy
        · have eb : b = L := by omega
          have hz2 : zB (zu (z_cp (z_cp (z_cp M1 14 10 0 0 ((M1 9 8).toNat)) 15 11 0 0 ((M1 9 8).toNat)) 16 12 0 0 ((M1 9 8).toNat)) 9 4 (M1 9 8)) := by
            refine zB_u (zB_cp (zB_cp (zB_cp hB1 (fun j _ _ => ?_)) (fun j _ _ => ?_)) (fun j _ _ => ?_)) (show 0 ≤ M1 9 8 ∧ M1 9 8 ≤ 40 from hB1 9 8)
            · exact hB1 14 _
            · rw [z_cp_dn (by omega)]
              exact hB1 15 _
            · rw [z_cp_dn (by omega), z_cp_dn (by omega)]
              exact hB1 16 _
          refine zb116_21 (v := 0) (D := D + 24) hT rfl hz2 (by omega) (fun _ hz3 => ?_) (fun q => by omega)
          have en : (M1 9 8).toNat = n1 := by omega
          rw [en, e98] at hz3 ⊢
          have hF4 : zFr (inL [(2, some 1), (2, some 2), (2, some 3), (9, some 4), (9, some 8), (10, none), (11, none), (12, none), (14, none), (15, none), (16, none)]) m (zu (zu (z_cp (z_cp (z_cp M1 14 10 0 0 n1) 15 11 0 0 n1) 16 12 0 0 n1) 9 4 (n1 : Int)) 2 1 0) := (((((hF2.sub (inL_sub (by decide))).cp (fun _ => rfl)).cp (fun _ => rfl)).cp (fun _ => rfl)).set rfl).set rfl
          refine ref _ _ hz3 hF4 (by rw [zu_sm rfl]) (fun y hy => ?_) (fun y hy => ?_)
          · rw [ruO_r hL0 hr eb] at hy
            cases hy
          · rw [ruO_r hL0 hr eb] at hy
            cases hy
            generalize hQ : (zu (zu (z_cp (z_cp (z_cp M1 14 10 0 0 n1) 15 11 0 0 n1) 16 12 0 0 n1) 9 4 (n1 : Int)) 2 1 0) = Q at hz3 hF4 ⊢
            have q94 : Q 9 4 = ((j + 1 : Nat) : Int) := by
              rw [← hQ, zu_dn (by omega), zu_sm rfl]
              omega
            have qc : ∀ t, t < j + 1 → Q 10 t = M1 14 t ∧ Q 11 t = M1 15 t ∧ Q 12 t = M1 16 t := fun t ht => by
              rw [← hQ]
              refine ⟨?_, ?_, ?_⟩
              · rw [zu_dn (by omega), zu_dn (by omega), z_cp_dn (by omega), z_cp_dn (by omega), z_cp_in (by omega), Nat.zero_add, Nat.sub_zero]
              · rw [zu_dn (by omega), zu_dn (by omega), z_cp_dn (by omega), z_cp_in (by omega), z_cp_dn (by omega), Nat.zero_add, Nat.sub_zero]
              · rw [zu_dn (by omega), zu_dn (by omega), z_cp_in (by omega), z_cp_dn (by omega), z_cp_dn (by omega), Nat.zero_add, Nat.sub_zero]
            refine ⟨rfl, Or.inr ⟨w, j, rfl, q94, fun x hx ho => ?_, fun e he => ?_⟩⟩
            · obtain ⟨t1, t2, t3⟩ := qc x hx
              rw [t1] at ho
              rw [t2, t3]
              exact hD1.2 x (by omega) ho
            · rw [ruleV_of q94 qc, hw e he, o4 e]
    · have hL0 : L = 0 := by omega
      refine zb116_21 (v := 0) (D := D + 24) hT rfl hz1 (by omega) (fun _ hz2 => ?_) (fun q => by omega)
      have hF2 : zFr (inL [(2, some 1), (2, some 2), (2, some 3), (9, some 4), (9, some 8), (10, none), (11, none), (12, none), (14, none), (15, none), (16, none)]) m (zu (zu (z_cp (z_cp (z_cp (zu N 9 8 0) 14 10 0 0 0) 15 11 0 0 0) 16 12 0 0 0) 9 4 0) 2 1 0) := ((((((((hFN.sub (inL_sub (by decide))).set rfl)).cp (fun _ => rfl)).cp (fun _ => rfl)).cp (fun _ => rfl)).set rfl)).set rfl
      refine ref _ _ hz2 hF2 (by rw [zu_sm rfl]) (fun y hy => ?_) (fun y hy => ?_)
      · rw [hL0, ruO_0] at hy
        cases hy
      · rw [hL0, ruO_0] at hy
        cases hy
        refine ⟨rfl, Or.inl ⟨rfl, ?_⟩⟩
        rw [zu_dn (by omega), zu_sm rfl]
  exact zb116_0 (D := D + 24) hT i1 (fun q hz => cls 40 (by rw [if_neg (by omega)]) hz) (fun q hz => cls (m 2 1) (by split <;> omega) hz)
end ZRuleW
