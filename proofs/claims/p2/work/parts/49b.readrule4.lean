section RR4
variable {l : Launch} {dC : Nat → ClassId} {dI : Nat → Nat → Nat} {dA : FieldType → ClassId} {Hb : Heap} {ad : Nat → Nat}
theorem q_isOa {h U : sH} {i : Nat} (hU : ∀ u ∈ U, u.1 ≠ i) (ho : q_isO (h ++ U) i) : q_isO h i := by
  obtain ⟨z, z1, z2, z3⟩ := ho
  rcases List.mem_append.mp z1 with z1 | z1
  · exact ⟨z, z1, z2, z3⟩
  · exact absurd z2 (hU z z1)
theorem q_agree {H : Heap} {a : Nat} {g g' : Nat → Int32} (h1 : H[a]? = some (vp_cell (dA .int) (40, .inl g))) (h2 : H[a]? = some (vp_cell (dA .int) (40, .inl g'))) : ∀ j, j < 40 → g j = g' j := (q_cellI (Option.some.inj (h1.symm.trans h2))).2
set_option maxHeartbeats 8000000 in
theorem q_rrK {tab : Nat → List sK} {K : Nat} {C : sK} (h0 : s_chkR tab C = true) (ih : ∀ D, D < K → ∀ c, ∀ C' ∈ tab c, q_KOK l dC dI dA Hb ad c C' D) : q_KOK l dC dI dA Hb ad 50 C K := by
  obtain ⟨dp, as, E, h, ends⟩ := C
  intro rv0 H0 vs hdp hL hE hG
  dsimp only at hdp hL hE hG
  unfold s_chkR at h0
  dsimp only at h0
  split at h0
  · rename_i r10 i10 r11 i11 r14 i14 r15 i15 a10 a11 a14 a15
    rw [Bool.and_eq_true, Bool.and_eq_true, Bool.and_eq_true, Bool.and_eq_true, Bool.and_eq_true, Bool.and_eq_true, Bool.and_eq_true, Bool.and_eq_true, Bool.and_eq_true, Bool.and_eq_true, Bool.and_eq_true, Bool.and_eq_true] at h0
    obtain ⟨⟨⟨⟨⟨⟨⟨⟨⟨⟨⟨⟨c0, c1⟩, c2⟩, c3⟩, n1⟩, n2⟩, n3⟩, n4⟩, n5⟩, n6⟩, n7⟩, n8⟩, c4⟩ := h0
    have hEf : E.1 = false := by simpa using c0
    have hX : q_XOK l dC dI dA Hb ad K dp (s_X tab 8) := q_xok 8 K dp ih
    have hlen : rv0.length = E.2.1.length := hE.1
    have hJ0 := hG.2.2.2.2.2.2 hEf
    obtain ⟨o10, t10, f10, R10⟩ := s_r40S (dC := dC) (dI := dI) (dA := dA) (ad := ad) (Hb := Hb) (rv := rv0) (H0 := H0) (H := H0) a10
    obtain ⟨o11, t11, f11, R11⟩ := s_r40S (dC := dC) (dI := dI) (dA := dA) (ad := ad) (Hb := Hb) (rv := rv0) (H0 := H0) (H := H0) a11
    obtain ⟨o14, t14, f14, R14⟩ := s_r40S (dC := dC) (dI := dI) (dA := dA) (ad := ad) (Hb := Hb) (rv := rv0) (H0 := H0) (H := H0) a14
    obtain ⟨o15, t15, f15, R15⟩ := s_r40S (dC := dC) (dI := dI) (dA := dA) (ad := ad) (Hb := Hb) (rv := rv0) (H0 := H0) (H := H0) a15
    obtain ⟨⟨b10, b11⟩, g10, g11, k10, k11, hp⟩ := hJ0.1 (q_oIs o10) (q_oIs o11)
    obtain ⟨⟨b14, b15⟩, -⟩ := hJ0.2.1 (q_oIs o14) (q_oIs o15)
    obtain ⟨l10, g10', k10', d10'⟩ := R10 hE hG b10
    obtain ⟨l11, g11', k11', d11'⟩ := R11 hE hG b11
    obtain ⟨l14, -⟩ := R14 hE hG b14
    obtain ⟨l15, -⟩ := R15 hE hG b15
    have d10 : ∀ j : Nat, j < 40 → i10.1 ≤ (g10 j).toInt ∧ (g10 j).toInt ≤ i10.2 := fun j hj => by rw [q_agree k10 k10' j hj]; exact d10' j hj
    have d11 : ∀ j : Nat, j < 40 → i11.1 ≤ (g11 j).toInt ∧ (g11 j).toInt ≤ i11.2 := fun j hj => by rw [q_agree k11 k11' j hj]; exact d11' j hj
    have hinj := hG.2.2.2.2.2.1
    have hin : ∀ k ro, s_orow h k = some ro → s_hasI h k = true := fun k ro ho => by
      unfold s_hasI
      rw [(s_orowS ho).1]
    -- places apart
    have apart : ∀ (hh : sH) (k : Nat), s_subI h hh = true → s_hasI h k = true → (∀ z ∈ hh, z.1 ≠ k) → ∀ z ∈ hh, ad z.1 ≠ ad k := fun hh k hs hk hn z hz e => by
      obtain ⟨w, w1, w2⟩ := s_subIS hs z hz
      obtain ⟨w', w1', w2'⟩ := s_hasT hk
      exact hn z hz (by rw [← w2, ← w2']; exact hinj w w1 w' w1' (by rw [w2, w2']; exact e))
    have ne : ∀ i j, s_hasI h i = true → s_hasI h j = true → i ≠ j → ad i ≠ ad j := fun i j hi hj hne e => by
      obtain ⟨w, w1, w2⟩ := s_hasT hi
      obtain ⟨w', w1', w2'⟩ := s_hasT hj
      exact hne (by rw [← w2, ← w2']; exact hinj w w1 w' w1' (by rw [w2, w2']; exact e))
    have h10 := hin _ _ o10
    have h11 := hin _ _ o11
    have h14 := hin _ _ o14
    have h15 := hin _ _ o15
    split at c4
    · rename_i cc ss os hr1
      rw [Bool.and_eq_true, Bool.and_eq_true] at c4
      have e1 := Nat.eq_of_beq_eq_true c4.1.1
      have e2 := Nat.eq_of_beq_eq_true c4.1.2
      subst e1
      subst e2
      refine q_metW (by decide) (by rfl) (Nat.le_of_ble_eq_true c1) hL hE hG (fun p e s m below meth c ls Cx hret hlocks F => ?_)
      -- where it ends
      have endW : ∀ (U : sH) (o : sO) (x : List Int) (ls1 : Array Slot) (vs1 : List Value) (H1 Hs : Heap) (locs1 : List Loc), s_rrE E.2.1.length ends h U o = true → q_Term 50 (fun _ => false) o ∨ q_Term 50 (s_stpP [45]) o → q_Fr dC dI dA (rv0 ++ x) ad Hb Hs (mL 50) o.2.2 ls1 vs1 H1 locs1 → (∀ q : Nat, q < H0.size → (∀ z ∈ h, ad z.1 ≠ q) → H1[q]? = H0[q]?) → H0.size ≤ H1.size → (∀ u ∈ U, s_hasI h u.1 = true) → (∀ u ∈ U, q_C dC dI dA (rv0 ++ x) ad Hb.size (ad u.1) H1 u.2) → q_J dA Hb.size ad (o.2.2.2.2.2.2 ++ U) H1 →
          W p l e (q_rm K 0 0) s m vs.toArray below meth c H1 locs1 0 0 (MQ below (q_Qc dC dI dA rv0 ad Hb H0 (ends.map s_nO)) vs.toArray s 0 0 (fun q => Hb.size ≤ q)) (F0 m o.2.2.1 ls1 vs1) := by
        intro U o x ls1 vs1 H1 Hs locs1 hk ht F1 hch hsz hUc hUq hJ
        unfold s_rrE at hk
        rw [Bool.and_eq_true, Bool.and_eq_true, Bool.and_eq_true, Bool.and_eq_true] at hk
        obtain ⟨⟨⟨⟨m1, m2⟩, m3⟩, m4⟩, m5⟩ := hk
        obtain ⟨e0, ret0, pc, lo, st, E1, h1⟩ := o
        dsimp only at m1 m2 m3 m4 m5 F1 hJ ⊢
        have e0' := Nat.eq_of_beq_eq_true m1
        subst e0'
        have hE1f : E1.1 = false := by simpa using m2
        have hGf := q_asm F1.2.2.2.1 hE1f hch hsz m3 m4 hinj hUc hUq hJ
        have ht : s_step 50 pc lo st E1 h1 = some (.inr (.inr (0, ret0))) := by
          rcases ht with (⟨ht, -⟩ | ht) | (⟨ht, -⟩ | ht)
          · cases ht
          · exact ht
          · cases ht
          · exact ht
        refine q_leave Cx hret hlocks ht F1 (fun v hv t htH _ => ?_)
        obtain ⟨nn, hn, hok⟩ := List.any_eq_true.mp m5
        obtain ⟨y, y1, y2, y3⟩ := s_okNS hlen F1.2.2.1 hGf hv hok
        exact ⟨v, rfl, _, List.mem_map.mpr ⟨nn, hn, rfl⟩, y, rfl, y1, y2, by rw [htH]; exact y3⟩
      refine q_run Cx hX (Nat.le_refl _) (Nat.le_refl _) 200 _ 0 0 os rv0 hr1 hdp ls [] H0 [] 0 0 ⟨F.1, F.2.1, hE, hG.less hEf (fun z hz => (s_rmIS.1 z hz).1), F.2.2.2.2⟩ (Nat.zero_le _) (Nat.zero_le _) (fun o ho ht x ls1 vs1 H1 locs1 cells1 slots1 F1 z1 z2 => ?_)
      have hk := List.all_eq_true.mp c4.2 o ho
      rw [Bool.and_eq_true] at hk
      obtain ⟨hno, hk⟩ := hk
      have hno := s_noS hno
      have hG1 := F1.2.2.2.1
      cases hb2 : Nat.beq o.1 2 with
      | false =>
        rw [hb2] at hk
        simp only [cond_false] at hk
        have hk' := hk
        unfold s_rrE at hk'
        rw [Bool.and_eq_true, Bool.and_eq_true, Bool.and_eq_true, Bool.and_eq_true] at hk'
        have o0 := Nat.eq_of_beq_eq_true hk'.1.1.1.1
        have hE1f : o.2.2.2.2.2.1.1 = false := by simpa using hk'.1.1.1.2
        have hsub := hk'.1.1.2
        have cz : cells1 = 0 := by rw [o0] at z1; have z3 : cells1 + 0 ≤ 0 + 0 := z1; omega
        have sz : slots1 = 0 := by rw [o0] at z2; have z3 : slots1 + 0 ≤ 0 + 0 := z2; omega
        subst cz
        subst sz
        have keep : ∀ k, k ∈ [10, 11] → s_hasI h k = true → ad k < H0.size → H1[ad k]? = H0[ad k]? := fun k hk hkh hlt => hG1.2.1 _ hlt (fun z hz => apart _ k hsub hkh (hno k hk) z hz)
        have q10 := (keep 10 (by simp) h10 (q_hget k10)).trans k10
        have q11 := (keep 11 (by simp) h11 (q_hget k11)).trans k11
        have hJ1 := hG1.2.2.2.2.2.2 hE1f
        refine endW [(10, .inl r10), (11, .inl r11)] o x ls1 vs1 H1 H0 locs1 hk (Or.inr ht) F1 (fun q hq hn => hG1.2.1 q hq (fun z hz e => ?_)) hG1.2.2.1.1 (fun u hu => ?_) (fun u hu => ?_) ⟨fun _ _ => ⟨⟨b10, b11⟩, g10, g11, q10, q11, hp⟩, fun a b => hJ1.2.1 (q_isOa (fun u hu => ?_) a) (q_isOa (fun u hu => ?_) b), fun a => hJ1.2.2 (q_isOa (fun u hu => ?_) a)⟩
        · obtain ⟨w, w1, w2⟩ := s_subIS hsub z hz
          exact hn w w1 (by rw [w2]; exact e)
        · rcases List.mem_cons.mp hu with rfl | hu
          · exact h10
          · rw [List.mem_singleton.mp hu]
            exact h11
        · rcases List.mem_cons.mp hu with rfl | hu
          · exact q_cRow o10 t10 q10 (q_ro40 (s_val_mono x l10) f10 n1 n2 d10)
          · rw [List.mem_singleton.mp hu]
            exact q_cRow o11 t11 q11 (q_ro40 (s_val_mono x l11) f11 n3 n4 d11)
        · rcases List.mem_cons.mp hu with rfl | hu
          · exact Nat.ne_of_beq_eq_false rfl
          · rw [List.mem_singleton.mp hu]; exact Nat.ne_of_beq_eq_false rfl
        · rcases List.mem_cons.mp hu with rfl | hu
          · exact Nat.ne_of_beq_eq_false rfl
          · rw [List.mem_singleton.mp hu]; exact Nat.ne_of_beq_eq_false rfl
        · rcases List.mem_cons.mp hu with rfl | hu
          · exact Nat.ne_of_beq_eq_false rfl
          · rw [List.mem_singleton.mp hu]; exact Nat.ne_of_beq_eq_false rfl
      | true =>
        rw [hb2] at hk
        simp only [cond_true] at hk
        rw [Bool.and_eq_true, Bool.and_eq_true, Bool.and_eq_true] at hk
        obtain ⟨⟨⟨p1, p2⟩, hsub⟩, p3⟩ := hk
        have o2 := Nat.eq_of_beq_eq_true hb2
        have cz : cells1 = 0 := by rw [o2] at z1; have z3 : cells1 + 0 ≤ 0 + 0 := z1; omega
        have sz : slots1 = 0 := by rw [o2] at z2; have z3 : slots1 + 0 ≤ 0 + 0 := z2; omega
        subst cz
        subst sz
        have hE1f : o.2.2.2.2.2.1.1 = false := by simpa using p2
        have hJ1 := hG1.2.2.2.2.2.2 hE1f
        split at p3
        · rename_i n r s14 j14 s15 j15 hcp b14' b15'
          rw [Bool.and_eq_true, Bool.and_eq_true] at p3
          obtain ⟨⟨p4, p5⟩, p6⟩ := p3
          obtain ⟨u14, -, -, T14⟩ := s_r40S (dC := dC) (dI := dI) (dA := dA) (ad := ad) (Hb := Hb) (rv := rv0 ++ x) (H0 := H0) (H := H1) b14'
          obtain ⟨u15, -, -, T15⟩ := s_r40S (dC := dC) (dI := dI) (dA := dA) (ad := ad) (Hb := Hb) (rv := rv0 ++ x) (H0 := H0) (H := H1) b15'
          obtain ⟨-, g14, g15, k14, k15, hp2⟩ := hJ1.2.1 (q_oIs u14) (q_oIs u15)
          obtain ⟨-, g14', k14', d14'⟩ := T14 F1.2.2.1 hG1 b14
          obtain ⟨-, g15', k15', d15'⟩ := T15 F1.2.2.1 hG1 b15
          have d14 : ∀ j : Nat, j < 40 → i14.1 ≤ (g14 j).toInt ∧ (g14 j).toInt ≤ i14.2 := fun j hj => by rw [q_agree k14 k14' j hj]; exact s_sbIS p4 (d14' j hj).1 (d14' j hj).2
          have d15 : ∀ j : Nat, j < 40 → i15.1 ≤ (g15 j).toInt ∧ (g15 j).toInt ≤ i15.2 := fun j hj => by rw [q_agree k15 k15' j hj]; exact s_sbIS p5 (d15' j hj).1 (d15' j hj).2
          have keep : ∀ k, k ∈ [10, 11] → s_hasI h k = true → ad k < H0.size → H1[ad k]? = H0[ad k]? := fun k hk hkh hlt => hG1.2.1 _ hlt (fun z hz => apart _ k hsub hkh (hno k hk) z hz)
          have q10 := (keep 10 (by simp) h10 (q_hget k10)).trans k10
          have q11 := (keep 11 (by simp) h11 (q_hget k11)).trans k11
          have hno10 := hno 10 (by simp)
          have hno11 := hno 11 (by simp)
          obtain ⟨e0, ret0, pc, lo, st, E1, h1⟩ := o
          dsimp only at p1 hcp p6 F1 hG1 hsub hno10 hno11 hE1f ⊢
          have epc := Nat.eq_of_beq_eq_true p1
          subst epc
          have hi45 : ins 50 45 = some (.invokestatic 50, 48, 901, 5, 613, 0) := by decide +kernel
          refine q_copyU (h' := s_rmI [14, 15] h1) Cx hi45 F1 hE1f hcp k14 q10 b10 (fun z hz => (s_rmIS.1 z hz).1) (fun z hz => apart _ 10 hsub h10 hno10 z (s_rmIS.1 z hz).1) (fun H2 vr2 locs2 nv hn nv40 y1 y2 y3 F2 => ?_)
          have k14a := (y2 _ (ne 14 10 h14 h10 (by decide))).trans k14
          have k15a := (y2 _ (ne 15 10 h15 h10 (by decide))).trans k15
          have q11a := (y2 _ (ne 11 10 h11 h10 (by decide))).trans q11
          unfold s_rr2 at p6
          split at p6
          · rename_i c5 s5 os2 hr2
            rw [Bool.and_eq_true, Bool.and_eq_true] at p6
            have e5 := Nat.eq_of_beq_eq_true p6.1.1
            have e6 := Nat.eq_of_beq_eq_true p6.1.2
            subst e5
            subst e6
            refine q_run Cx hX (Nat.le_refl _) (Nat.le_refl _) 200 _ 0 0 os2 _ hr2 (s_val_mono _ hdp) ls1 vr2 H2 locs2 0 0 F2 (Nat.zero_le _) (Nat.zero_le _) (fun o ho ht x2 ls3 vs3 H3 locs3 cells3 slots3 F3 z3 z4 => ?_)
            have hk2 := List.all_eq_true.mp p6.2 o ho
            rw [Bool.and_eq_true, Bool.and_eq_true, Bool.and_eq_true, Bool.and_eq_true, Bool.and_eq_true] at hk2
            obtain ⟨⟨⟨⟨⟨v1, v0⟩, v2⟩, v3⟩, hsub3⟩, v4⟩ := hk2
            have hE3f : o.2.2.2.2.2.1.1 = false := by simpa using v0
            have o2' := Nat.eq_of_beq_eq_true v1
            have cz : cells3 = 0 := by rw [o2'] at z3; have z5 : cells3 + 0 ≤ 0 + 0 := z3; omega
            have sz : slots3 = 0 := by rw [o2'] at z4; have z5 : slots3 + 0 ≤ 0 + 0 := z4; omega
            subst cz
            subst sz
            have hno3 := s_noS v3
            have hG3 := F3.2.2.2.1
            have stay : ∀ k, k ∈ [10, 11, 14, 15] → s_hasI h k = true → ad k < H2.size → H3[ad k]? = H2[ad k]? := fun k hk hkh hlt => hG3.2.1 _ hlt (fun z hz => apart _ k hsub3 hkh (hno3 k hk) z hz)
            have a10 := (stay 10 (by simp) h10 (q_hget y3)).trans y3
            have a11 := (stay 11 (by simp) h11 (q_hget q11a)).trans q11a
            have a14 := (stay 14 (by simp) h14 (q_hget k14a)).trans k14a
            have a15 := (stay 15 (by simp) h15 (q_hget k15a)).trans k15a
            split at v4
            · cases v4
            · rename_i n2' r2' hcp2
              rw [Bool.and_eq_true] at v4
              obtain ⟨e0, ret0, pc, lo2, st2, E3, h3⟩ := o
              dsimp only at v2 hcp2 v4 F3 hG3 hsub3 hno3 hE3f ⊢
              have epc := Nat.eq_of_beq_eq_true v2
              subst epc
              have hi62 : ins 50 62 = some (.invokestatic 50, 65, 901, 5, 613, 0) := by decide +kernel
              refine q_copyU (h' := h3) Cx hi62 F3 hE3f hcp2 a15 a11 b11 (fun z hz => hz) (fun z hz => apart _ 11 hsub3 h11 (hno3 11 (by simp)) z hz) (fun H4 vr4 locs4 nv2 hn2 nv240 y4 y5 y6 F4 => ?_)
              have env : nv2 = nv := by
                have h9 := s_val_mono x2 hn
                rw [s_eqF_eq v4.1] at hn2
                have := Option.some.inj (hn2.symm.trans h9)
                omega
              subst env
              have a10b := (y5 _ (ne 10 11 h10 h11 (by decide))).trans a10
              have a14b := (y5 _ (ne 14 11 h14 h11 (by decide))).trans a14
              have a15b := (y5 _ (ne 15 11 h15 h11 (by decide))).trans a15
              have v5 := v4.2
              unfold s_rr3 at v5
              split at v5
              · rename_i c6 s6 os3 hr3
                rw [Bool.and_eq_true, Bool.and_eq_true] at v5
                have e7 := Nat.eq_of_beq_eq_true v5.1.1
                have e8 := Nat.eq_of_beq_eq_true v5.1.2
                subst e7
                subst e8
                refine q_run Cx hX (Nat.le_refl _) (Nat.le_refl _) 200 _ 0 0 os3 _ hr3 (by rw [List.append_assoc]; exact s_val_mono _ hdp) ls3 vr4 H4 locs4 0 0 F4 (Nat.zero_le _) (Nat.zero_le _) (fun o ho ht x5 ls5 vs5 H5 locs5 cells5 slots5 F5 z5 z6 => ?_)
                have hk3 := List.all_eq_true.mp v5.2 o ho
                rw [Bool.and_eq_true] at hk3
                obtain ⟨hno5, hk3⟩ := hk3
                have hno5 := s_noS hno5
                have hk4 := hk3
                unfold s_rrE at hk4
                rw [Bool.and_eq_true, Bool.and_eq_true, Bool.and_eq_true, Bool.and_eq_true] at hk4
                have o0 := Nat.eq_of_beq_eq_true hk4.1.1.1.1
                have hE5f : o.2.2.2.2.2.1.1 = false := by simpa using hk4.1.1.1.2
                have hsub5 := hk4.1.1.2
                have cz : cells5 = 0 := by rw [o0] at z5; have z7 : cells5 + 0 ≤ 0 + 0 := z5; omega
                have sz : slots5 = 0 := by rw [o0] at z6; have z7 : slots5 + 0 ≤ 0 + 0 := z6; omega
                subst cz
                subst sz
                have hG5 := F5.2.2.2.1
                have hJ5 := hG5.2.2.2.2.2.2 hE5f
                have last : ∀ k, k ∈ [10, 11, 14, 15] → s_hasI h k = true → ad k < H4.size → H5[ad k]? = H4[ad k]? := fun k hk hkh hlt => hG5.2.1 _ hlt (fun z hz => apart _ k hsub5 hkh (hno5 k hk) z hz)
                have e10 := (last 10 (by simp) h10 (q_hget a10b)).trans a10b
                have e11 := (last 11 (by simp) h11 (q_hget y6)).trans y6
                have e14 := (last 14 (by simp) h14 (q_hget a14b)).trans a14b
                have e15 := (last 15 (by simp) h15 (q_hget a15b)).trans a15b
                have F5' : q_Fr dC dI dA (rv0 ++ (x ++ x2 ++ x5)) ad Hb H4 (mL 50) o.2.2 ls5 vs5 H5 locs5 := by
                  rw [← List.append_assoc, ← List.append_assoc]
                  exact F5
                have un : ∀ (hh : sH), s_subI h hh = true → ∀ q : Nat, (∀ z ∈ h, ad z.1 ≠ q) → ∀ z ∈ hh, ad z.1 ≠ q := fun hh hs q hn z hz e => by
                  obtain ⟨w, w1, w2⟩ := s_subIS hs z hz
                  exact hn w w1 (by rw [w2]; exact e)
                have nq : ∀ k, s_hasI h k = true → ∀ q : Nat, (∀ z ∈ h, ad z.1 ≠ q) → q ≠ ad k := fun k hk q hn e => by
                  obtain ⟨w, w1, w2⟩ := s_hasT hk
                  exact hn w w1 (by rw [w2, e])
                have hids : ∀ u ∈ ([(10, .inl r10), (11, .inl r11), (14, .inl r14), (15, .inl r15)] : sH), (u = (10, .inl r10) ∨ u = (11, .inl r11) ∨ u = (14, .inl r14) ∨ u = (15, .inl r15)) := fun u hu => by
                  simpa using hu
                refine endW _ o (x ++ x2 ++ x5) ls5 vs5 H5 H4 locs5 hk3 (Or.inl ht) F5' (fun q hq hn => ?_) ?_ (fun u hu => ?_) (fun u hu => ?_) ⟨fun _ _ => ⟨⟨b10, b11⟩, _, _, e10, e11, fun j hj => ?_⟩, fun _ _ => ⟨⟨b14, b15⟩, _, _, e14, e15, hp2⟩, fun a => hJ5.2.2 (q_isOa (fun u hu => ?_) a)⟩
                · have s1 := hG1.2.2.1.1
                  have s3 := hG3.2.2.1.1
                  refine (hG5.2.1 q (by omega) (un _ hsub5 q hn)).trans ((y5 q (nq 11 h11 q hn)).trans ((hG3.2.1 q (by omega) (un _ hsub3 q hn)).trans ((y2 q (nq 10 h10 q hn)).trans (hG1.2.1 q hq (un _ hsub q hn)))))
                · have s1 := hG1.2.2.1.1
                  have s3 := hG3.2.2.1.1
                  have s5 := hG5.2.2.1.1
                  omega
                · rcases hids u hu with rfl | rfl | rfl | rfl
                  · exact h10
                  · exact h11
                  · exact h14
                  · exact h15
                · have mx : ∀ {f : sF} {v : Int}, s_val rv0 f = some v → s_val (rv0 ++ (x ++ x2 ++ x5)) f = some v := fun hv => s_val_mono _ hv
                  rcases hids u hu with rfl | rfl | rfl | rfl
                  · refine q_cRow o10 t10 e10 (q_ro40 (mx l10) f10 n1 n2 (fun j hj => ?_))
                    unfold va_cpy
                    split
                    · exact s_sbIS c2 (d14 _ (by omega)).1 (d14 _ (by omega)).2
                    · exact d10 j hj
                  · refine q_cRow o11 t11 e11 (q_ro40 (mx l11) f11 n3 n4 (fun j hj => ?_))
                    unfold va_cpy
                    split
                    · exact s_sbIS c3 (d15 _ (by omega)).1 (d15 _ (by omega)).2
                    · exact d11 j hj
                  · exact q_cRow o14 t14 e14 (q_ro40 (mx l14) f14 n5 n6 d14)
                  · exact q_cRow o15 t15 e15 (q_ro40 (mx l15) f15 n7 n8 d15)
                · unfold va_cpy
                  split
                  · exact hp2 _ (by omega)
                  · exact hp j hj
                · rcases hids u hu with rfl | rfl | rfl | rfl <;> exact Nat.ne_of_beq_eq_false rfl
              · cases v5
          · cases p6
        · cases p3
    · cases c4
  · cases h0
end RR4
theorem ko_42 {l : Launch} {dC : Nat → ClassId} {dI : Nat → Nat → Nat} {dA : FieldType → ClassId} {Hb : Heap} {ad : Nat → Nat} {K : Nat} (ih : ∀ D, D < K → ∀ c, ∀ C ∈ tab c, q_KOK l dC dI dA Hb ad c C D) : q_KOK l dC dI dA Hb ad 50 k_42 K := q_rrK o_rr ih
