section Body2
variable {l : Launch} {dC : Nat → ClassId} {dI : Nat → Nat → Nat} {dA : FieldType → ClassId} {Hb : Heap} {ad : Nat → Nat}
theorem s_okZS {n0 : Nat} {cuts : List sCut} {ms : Option (List sF)} {ends : List sN} {z : Option sZ} (h : s_okZ n0 cuts ms ends z = true) : ∃ os, z = some (0, 0, os) ∧ ∀ o ∈ os, s_okO n0 cuts ms ends o = true := by
  unfold s_okZ at h
  split at h
  · cases h
  · rename_i c s os
    rw [Bool.and_eq_true, Bool.and_eq_true] at h
    have e1 := Nat.eq_of_beq_eq_true h.1.1
    have e2 := Nat.eq_of_beq_eq_true h.1.2
    subst e1
    subst e2
    exact ⟨os, rfl, fun o ho => List.all_eq_true.mp h.2 o ho⟩
set_option maxHeartbeats 4000000 in
theorem q_body {tab : Nat → List sK} {k n L K : Nat} {C : sK} {cuts : List sCut} (h0 : s_chk0 tab k C cuts n = true) (h1 : ∀ q ∈ cuts, s_chk1 tab k C cuts n L q = true) (ih : ∀ D, D < K → ∀ c, ∀ C' ∈ tab c, q_KOK l dC dI dA Hb ad c C' D) : q_KOK l dC dI dA Hb ad k C K := by
  obtain ⟨dp, as, E, h, ends⟩ := C
  intro rv0 H0 vs hdp hL hE hG
  dsimp only at hdp hL hE hG
  unfold s_chk0 at h0
  dsimp only at h0
  rw [Bool.and_eq_true, Bool.and_eq_true, Bool.and_eq_true] at h0
  obtain ⟨⟨⟨c1, c2⟩, c3⟩, c4⟩ := h0
  have hX : q_XOK l dC dI dA Hb ad K dp (s_X tab 8) := q_xok 8 K dp ih
  have hlen : rv0.length = E.2.1.length := hE.1
  generalize hn0 : E.2.1.length = n0 at *
  refine q_metW (Nat.le_of_ble_eq_true c1) c2 (Nat.le_of_ble_eq_true c3) hL hE hG (fun p e s m below meth c ls Cx hret hlocks F => ?_)
  -- where a body ends
  have endW : ∀ (o : sO) (y : List Int) (ls1 : Array Slot) (vs1 : List Value) (H1 : Heap) (locs1 : List Loc), o.1 = 0 → s_step k o.2.2.1 o.2.2.2.1 o.2.2.2.2.1 o.2.2.2.2.2.1 o.2.2.2.2.2.2 = some (.inr (.inr (o.1, o.2.1))) → ends.any (s_okN n0 o.2.1 o.2.2.2.2.2.1 o.2.2.2.2.2.2) = true → q_Fr dC dI dA (rv0 ++ y) ad Hb H0 (mL k) o.2.2 ls1 vs1 H1 locs1 →
      W p l e (q_rm K 0 0) s m vs.toArray below meth c H1 locs1 0 0 (MQ below (q_Qc dC dI dA rv0 ad Hb H0 (ends.map s_nO)) vs.toArray s 0 0 (fun q => Hb.size ≤ q)) (F0 m o.2.2.1 ls1 vs1) := by
    intro o y ls1 vs1 H1 locs1 ho ht hok F1
    obtain ⟨e0, ret0, pc, lo, st, E1, h1'⟩ := o
    dsimp only at ho ht hok F1 ⊢
    subst ho
    refine q_leave Cx hret hlocks ht F1 (fun v hv t htH _ => ?_)
    obtain ⟨nn, hn, hok⟩ := List.any_eq_true.mp hok
    obtain ⟨x, x1, x2, x3⟩ := s_okNS hlen F1.2.2.1 F1.2.2.2.1 hv hok
    exact ⟨v, rfl, _, List.mem_map.mpr ⟨nn, hn, rfl⟩, x, rfl, x1, x2, by rw [htH]; exact x3⟩
  -- where a run ends
  have oneW : ∀ (ms : Option (List sF)) (y : List Int) (os : List sO), (∀ o ∈ os, s_okO n0 cuts ms ends o = true) → (∀ (q : sCut) (S : sG) (z y' : List Int) (th : List sF) (ls1 : Array Slot) (vs1 : List Value) (H1 : Heap) (locs1 : List Loc), q ∈ cuts → q_E (rv0 ++ z) S.2.2.2.1 → q_Th (rv0 ++ z) th (rv0 ++ y') → (∃ x, z = y ++ x) → (∀ a, ms = some a → ∃ b, s_sbM th q.2 = some b ∧ s_lex S.2.2.2.1 a b = true) → q_Fr dC dI dA (rv0 ++ y') ad Hb H0 (mL k) q.1 ls1 vs1 H1 locs1 → W p l e (q_rm K 0 0) s m vs.toArray below meth c H1 locs1 0 0 (MQ below (q_Qc dC dI dA rv0 ad Hb H0 (ends.map s_nO)) vs.toArray s 0 0 (fun q => Hb.size ≤ q)) (F0 m q.1.1 ls1 vs1)) →
      ∀ o ∈ os, q_Term k (s_stp cuts) o → ∀ (x : List Int) (ls1 : Array Slot) (vs1 : List Value) (H1 : Heap) (locs1 : List Loc) (cells' slots' : Nat), q_Fr dC dI dA (rv0 ++ y ++ x) ad Hb H0 (mL k) o.2.2 ls1 vs1 H1 locs1 → cells' + (bif Nat.beq o.1 1 then 1 else 0) ≤ 0 + 0 → slots' + (bif Nat.beq o.1 1 then 6 else 0) ≤ 0 + 0 → W p l e (q_rm K 0 0) s m vs.toArray below meth c H1 locs1 cells' slots' (MQ below (q_Qc dC dI dA rv0 ad Hb H0 (ends.map s_nO)) vs.toArray s 0 0 (fun q => Hb.size ≤ q)) (F0 m o.2.2.1 ls1 vs1) := by
    intro ms y os hok hcut o ho ht x ls1 vs1 H1 locs1 cells' slots' F1 z1 z2
    have e1 : cells' = 0 := by omega
    have e2 : slots' = 0 := by omega
    subst e1
    subst e2
    rw [List.append_assoc] at F1
    have hk := hok o ho
    unfold s_okO at hk
    cases hb : Nat.beq o.1 2 with
    | true =>
      rw [hb] at hk
      simp only [cond_true] at hk
      obtain ⟨q, hq, hk⟩ := List.any_eq_true.mp hk
      unfold s_okT at hk
      split at hk
      · cases hk
      · rename_i th hth
        obtain ⟨y', k1, k2, k3⟩ := s_toTS hlen F1 hth
        rw [← k3]
        refine hcut q o.2.2 (y ++ x) y' th ls1 vs1 H1 locs1 hq F1.2.2.1 k1 ⟨x, rfl⟩ (fun a ha => ?_) k2
        subst ha
        dsimp only at hk
        split at hk
        · cases hk
        · rename_i b hb2
          exact ⟨b, hb2, hk⟩
    | false =>
      rw [hb] at hk
      simp only [cond_false] at hk
      rw [Bool.and_eq_true] at hk
      rcases ht with ⟨ht, -⟩ | ht
      · rw [ht] at hb
        cases hb
      · exact endW o (y ++ x) ls1 vs1 H1 locs1 (Nat.eq_of_beq_eq_true hk.1) ht hk.2 F1
  -- at the heads
  have cutW : ∀ (M : Nat) (q : sCut) (y : List Int) (ls1 : Array Slot) (vs1 : List Value) (H1 : Heap) (locs1 : List Loc) (vl : List Int), q ∈ cuts → q_Fr dC dI dA (rv0 ++ y) ad Hb H0 (mL k) q.1 ls1 vs1 H1 locs1 → q_mL (rv0 ++ y) q.2 vl → q_bdd vl → s_enc 0 vl = M →
      W p l e (q_rm K 0 0) s m vs.toArray below meth c H1 locs1 0 0 (MQ below (q_Qc dC dI dA rv0 ad Hb H0 (ends.map s_nO)) vs.toArray s 0 0 (fun q => Hb.size ≤ q)) (F0 m q.1.1 ls1 vs1) := by
    intro M
    induction M using Nat.strongRecOn with
    | ind M hM =>
      intro q y ls1 vs1 H1 locs1 vl hq F1 hvl hbd hMv
      have hc := h1 q hq
      unfold s_chk1 at hc
      dsimp only at hc
      rw [Bool.and_eq_true, Bool.and_eq_true] at hc
      obtain ⟨⟨d1, d2⟩, d3⟩ := hc
      split at d3
      · rename_i l0 hstep
        rw [hn0] at d3
        obtain ⟨os, hz, hok⟩ := s_okZS d3
        have hall := s_allS hz
        have nxt : ∀ (q' : sCut) (S : sG) (z y' : List Int) (th : List sF) (ls1 : Array Slot) (vs1 : List Value) (H1 : Heap) (locs1 : List Loc), q' ∈ cuts → q_E (rv0 ++ z) S.2.2.2.1 → q_Th (rv0 ++ z) th (rv0 ++ y') → (∃ x, z = y ++ x) → (∀ a, some q.2 = some a → ∃ b, s_sbM th q'.2 = some b ∧ s_lex S.2.2.2.1 a b = true) → q_Fr dC dI dA (rv0 ++ y') ad Hb H0 (mL k) q'.1 ls1 vs1 H1 locs1 → W p l e (q_rm K 0 0) s m vs.toArray below meth c H1 locs1 0 0 (MQ below (q_Qc dC dI dA rv0 ad Hb H0 (ends.map s_nO)) vs.toArray s 0 0 (fun q => Hb.size ≤ q)) (F0 m q'.1.1 ls1 vs1) := by
          intro q' S z y' th ls2 vs2 H2 locs2 hq' hES hth hzx hms F2
          obtain ⟨b, hb1, hb2⟩ := hms q.2 rfl
          obtain ⟨x, rfl⟩ := hzx
          have hc' := h1 q' hq'
          unfold s_chk1 at hc'
          dsimp only at hc'
          rw [Bool.and_eq_true, Bool.and_eq_true] at hc'
          obtain ⟨vl', w1, w2⟩ := s_mBS F2.2.2.1 hc'.1.2
          have w3 := s_sbMS hth hb1 w1
          have w4 : q_mL (rv0 ++ (y ++ x)) q.2 vl := by rw [← List.append_assoc]; exact hvl.mono x
          have e1 := Nat.eq_of_beq_eq_true d1
          have e2 := Nat.eq_of_beq_eq_true hc'.1.1
          have hlt := s_lexS hES 0 hb2 w4 w3 (by rw [w1.len, hvl.len, e1, e2]) hbd w2
          exact hM _ (by rw [← hMv]; exact hlt) q' y' ls2 vs2 H2 locs2 vl' hq' F2 w1 w2 rfl
        refine q_next Cx hstep F1 (fun q0 hq0 => ?_) (fun q0 hq0 x ls2 vs2 H2 locs2 F2 => ?_)
        · obtain ⟨a1, a2, o1, g1, g2, g3, g4⟩ := hall q0 hq0
          exact ⟨by show 0 + q0.1 ≤ 0; omega, by show 0 + q0.2.1 ≤ 0; omega⟩
        · obtain ⟨a1, a2, o1, g1, g2, g3, g4⟩ := hall q0 hq0
          have e1 : q0.1 = 0 := by omega
          have e2 : q0.2.1 = 0 := by omega
          have e3 : a1 = 0 := by omega
          have e4 : a2 = 0 := by omega
          subst e3
          subst e4
          rw [e1, e2]
          rw [List.append_assoc] at F2
          refine q_run Cx hX (Nat.le_refl _) (Nat.le_refl _) n q0.2.2 0 0 o1 (rv0 ++ (y ++ x)) g1 (s_val_mono _ hdp) ls2 vs2 H2 locs2 0 0 F2 (Nat.le_refl _) (Nat.le_refl _) ?_
          exact oneW (some q.2) (y ++ x) o1 (fun o ho => hok o (g4 o ho)) (fun q' S z y' th ls1 vs1 H1 locs1 b1 b2 b3 b4 b5 b6 => nxt q' S z y' th ls1 vs1 H1 locs1 b1 b2 b3 (by obtain ⟨x2, rfl⟩ := b4; exact ⟨x ++ x2, by rw [List.append_assoc]⟩) b5 b6)
      · cases d3
  -- from the entry
  obtain ⟨os, hz, hok⟩ := s_okZS c4
  have F0' : q_Fr dC dI dA (rv0 ++ []) ad Hb H0 (mL k) (0, s_args 0 as, [], E, h) ls [] H0 [] := by rw [List.append_nil]; exact F
  refine q_run Cx hX (Nat.le_refl _) (Nat.le_refl _) n (0, s_args 0 as, [], E, h) 0 0 os (rv0 ++ []) hz (s_val_mono _ hdp) ls [] H0 [] 0 0 F0' (Nat.le_refl _) (Nat.le_refl _) ?_
  exact oneW none [] os hok (fun q S z y' th ls1 vs1 H1 locs1 b1 b2 b3 b4 b5 b6 => by
    have hc' := h1 q b1
    unfold s_chk1 at hc'
    dsimp only at hc'
    rw [Bool.and_eq_true, Bool.and_eq_true] at hc'
    obtain ⟨vl', w1, w2⟩ := s_mBS b6.2.2.1 hc'.1.2
    exact cutW _ q y' ls1 vs1 H1 locs1 vl' b1 b6 w1 w2 rfl)
end Body2
