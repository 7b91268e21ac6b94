section Help2
variable {l : Launch} {dC : Nat → ClassId} {dI : Nat → Nat → Nat} {dA : FieldType → ClassId} {Hb : Heap} {ad : Nat → Nat}
theorem s_houtsS {X : sF → Nat → List sA → sE → sH → Option sZ} {dp : sF} {c nx : Nat} {lo : sL} {rs : List sA} : ∀ {os os2 : List sO}, s_houts X dp c nx lo rs os = some os2 → ∀ o ∈ os, ∃ a, s_hout X dp c nx lo rs o = some a ∧ ∀ x ∈ a, x ∈ os2
  | [], _, _, o, ho => nomatch ho
  | o0 :: os, os2, h, o, ho => by
    unfold s_houts at h
    split at h
    · cases h
    · rename_i a ha
      split at h
      · cases h
      · rename_i b hb
        cases h
        rcases List.mem_cons.mp ho with rfl | ho
        · exact ⟨a, ha, fun x hx => List.mem_append_left _ hx⟩
        · obtain ⟨a2, h1, h2⟩ := s_houtsS hb o ho
          exact ⟨a2, h1, fun x hx => List.mem_append_right _ (h2 x hx)⟩
/-- the end of a helper that caught: 1 -/
noncomputable def q_HD (c : Nat) : Prop := (c < 300 ∧ mL c = 5 ∧ decode (mC c) 13 = .ok (.astore 4, 2) ∧ decode (mC c) 15 = .ok (.iconst 1, 1) ∧ decode (mC c) 16 = .ok (.ireturn, 1)) ∨ (300 ≤ c ∧ mL c = 4 ∧ decode (mC c) 12 = .ok (.astore_n 3, 1) ∧ decode (mC c) 13 = .ok (.iconst 1, 1) ∧ decode (mC c) 14 = .ok (.ireturn, 1))
theorem q_hd5 : q_HD 298 := Or.inl ⟨by decide, by decide +kernel, by decide +kernel, by decide +kernel, by decide +kernel⟩
theorem q_hd6 : q_HD 299 := Or.inl ⟨by decide, by decide +kernel, by decide +kernel, by decide +kernel, by decide +kernel⟩
theorem q_hd7 : q_HD 300 := Or.inr ⟨by decide, by decide +kernel, by decide +kernel, by decide +kernel, by decide +kernel⟩
theorem q_hd8 : q_HD 301 := Or.inr ⟨by decide, by decide +kernel, by decide +kernel, by decide +kernel, by decide +kernel⟩
noncomputable def q_HK (c kc : Nat) : Prop := c_H c = true ∧ q_HD c ∧ 298 ≤ c ∧ c < 302 ∧ (kc = 117 ∨ kc = 118 ∨ kc = 130 ∨ kc = 162)
theorem q_hk {c kc : Nat} (h : p_hlp c = some kc) : q_HK c kc := by
  unfold p_hlp at h
  cases h5 : Nat.beq c 298 with
  | true =>
    rw [h5] at h
    cases h
    have e := Nat.eq_of_beq_eq_true h5
    subst e
    exact ⟨c_H5, q_hd5, by omega, by omega, by omega⟩
  | false =>
    rw [h5] at h
    simp only [cond_false] at h
    cases h6 : Nat.beq c 299 with
    | true =>
      rw [h6] at h
      cases h
      have e := Nat.eq_of_beq_eq_true h6
      subst e
      exact ⟨c_H6, q_hd6, by omega, by omega, by omega⟩
    | false =>
      rw [h6] at h
      simp only [cond_false] at h
      cases h7 : Nat.beq c 300 with
      | true =>
        rw [h7] at h
        cases h
        have e := Nat.eq_of_beq_eq_true h7
        subst e
        exact ⟨c_H7, q_hd7, by omega, by omega, by omega⟩
      | false =>
        rw [h7] at h
        simp only [cond_false] at h
        cases h8 : Nat.beq c 301 with
        | true =>
          rw [h8] at h
          cases h
          have e := Nat.eq_of_beq_eq_true h8
          subst e
          exact ⟨c_H8, q_hd8, by omega, by omega, by omega⟩
        | false => rw [h8] at h; cases h
set_option maxHeartbeats 8000000 in
theorem q_metH {X : sF → Nat → List sA → sE → sH → Option sZ} {dp : sF} {rv : List Int} {K c kc mc ms : Nat} {as : List sA} {E : sE} {h : sH} {os : List sO} (hfl : l.stackTraces = false) (hh : q_HK c kc) (hX : ∀ (D : Nat) (d : sF), D < K → q_XOK l dC dI dA Hb ad D d X) (hr : s_hrun X dp c kc as E h = some (mc, ms, os)) (hv : s_val rv dp = some (K : Int)) (hcat : s_cats as ≤ mL c) {H : Heap} {vs : List Value} (hL : q_L rv ad as vs) (hE : q_E rv E) (hG : q_G dC dI dA rv ad Hb H E h H) :
    2 ≤ K ∧ Met l (mY c) (q_wsH c) (q_rm (K - 1) mc ms) (q_Pc dC dI dA Hb H vs) (q_Qc dC dI dA rv ad Hb H os) mc ms (fun q => Hb.size ≤ q) := by
  obtain ⟨hH, hD, hc1, hc2, hkc⟩ := hh
  obtain ⟨w1, w2, w3, w4, w5, w6, w7, w8, w9⟩ := q_HW hH
  unfold s_hrun at hr
  split at hr
  · rename_i c0 s0 e2 r2 pc lo st E1 h1 hr1
    obtain ⟨hb1, hs1⟩ := q_bif hr
    clear hr
    rw [Bool.and_eq_true, Bool.and_eq_true, Bool.and_eq_true, Bool.and_eq_true] at hb1
    obtain ⟨⟨⟨⟨b1, b2⟩, b3⟩, b4⟩, b5⟩ := hb1
    have e1 := Nat.eq_of_beq_eq_true b1
    have e2' := Nat.eq_of_beq_eq_true b2
    have e3 := Nat.eq_of_beq_eq_true b3
    have e4 := Nat.eq_of_beq_eq_true b4
    subst e1
    subst e2'
    subst e3
    have hK2 : 2 ≤ (K : Int) := s_gezS hE b5 hv
    refine ⟨by omega, ?_⟩
    split at hs1
    · rename_i xi nx k2 a2 a3 z hi
      obtain ⟨hb2, hs2⟩ := q_bif hs1
      clear hs1
      have ek := (Nat.eq_of_beq_eq_true hb2).symm
      subst ek
      split at hs2
      · rename_i as2 rs htk
        obtain ⟨hb3, hs3⟩ := q_bif hs2
        clear hs2
        rw [Bool.and_eq_true, Bool.and_eq_true] at hb3
        obtain ⟨⟨b6, b7⟩, b8⟩ := hb3
        split at hs3
        · rename_i mc1 ms1 os1 hr2
          obtain ⟨hb4, hs4⟩ := q_bif hs3
          clear hs3
          rw [Bool.and_eq_true] at hb4
          split at hs4
          · rename_i os2 hho
            obtain ⟨hb5, hs5⟩ := q_bif hs4
            clear hs4
            cases hs5
            have hos1 : ∀ o ∈ os1, ((o.1 = 0 ∨ (o.1 = 1 ∧ s_cats o.2.2.2.2.1 ≤ 8)) ∧ o.2.2.2.2.2.1.1 = false) ∧ s_pre h1 o.2.2.2.2.2.2 = true := fun o ho => by
              have := List.all_eq_true.mp hb4.1 o ho
              rw [Bool.and_eq_true, Bool.and_eq_true, Bool.or_eq_true, Bool.and_eq_true] at this
              obtain ⟨⟨t1, t2⟩, t3⟩ := this
              refine ⟨⟨?_, by simpa using t2⟩, t3⟩
              rcases t1 with t1 | ⟨t1, t1'⟩
              · exact Or.inl (Nat.eq_of_beq_eq_true t1)
              · exact Or.inr ⟨Nat.eq_of_beq_eq_true t1, Nat.le_of_ble_eq_true t1'⟩
            have hv1 : s_val rv (s_sub dp (s_num 1)) = some ((K - 1 : Nat) : Int) := by
              rw [s_subS hv (s_numS 1)]
              congr 1
              omega
            have hv2 : s_val rv (s_sub dp (s_num 2)) = some ((K - 2 : Nat) : Int) := by
              rw [s_subS hv (s_numS 2)]
              congr 1
              omega
            refine q_ofWH (cc := mC c) (maxL := mL c) (ret := mR c) (hh := q_hh c) w3 rfl ?_
            intro p e s m args below meth cd s₁ B hml hv0
            obtain ⟨rfl, hK, hHe⟩ := hv0
            have hts0 := atoms_spec (ws := q_wsH c) B.pre
            have hts : ∀ w ∈ tb, w.before vs.toArray s = true := fun w hw => hts0 w (List.mem_cons_of_mem _ hw)
            have hown : s.vm.findClass (mY c).cls = some m.cls := findClass_of_methodNamed B.named
            have hlocks := B.notSynchronized
            have hret : meth.sig.returnType = mR c := B.returns
            have hnm : meth.name = (mY c).name := (name_of_methodNamed B.named B.method).1
            have htab : cd.exceptionTable.toList = tableOf (q_hh c) := vx_table (x := mY c) B (hts _ w1)
            have C : q_Ctx p (q_rm (K - 1) mc ms) s m vs.toArray meth cd dC dI dA Hb c := ⟨B.exec, B.bytes, hml, hown, hts, hK, fun q => hnm.trans q, by show 8 ≤ K - 1 + 8; omega, by show 400 ≤ 80 * (K - 1) + 400; omega⟩
            have hl := lv_entry vs (n := mL c) (by rw [q_slN, hL.cats]; exact hcat)
            rw [lg_entry_eq]
            generalize (lg_sl vs ++ List.replicate (mL c - (lg_sl vs).length) Slot.unset).toArray = ls at hl ⊢
            have hlo : q_Lo rv ad (s_args 0 as) ls (mL c) := ⟨hl.1, hl.2.1, fun q hq => by
              obtain ⟨v, g1, g2⟩ := q_argsL 0 hL q hq
              exact ⟨v, hl.2.2 _ g1, g2⟩⟩
            show W p l e (q_rm (K - 1) mc ms) s m vs.toArray below meth cd s.heap [] 0 0 _ _
            rw [hHe]
            refine q_run C (hX (K - 1) _ (by omega)) (Nat.le_refl _) (Nat.le_refl _) 20 _ 0 0 _ rv hr1 hv1 ls [] H [] 0 0 ⟨hlo, rfl, hE, hG, fun q hq => nomatch hq⟩ (Nat.zero_le _) (Nat.zero_le _) (fun o ho ht x ls1 vs1 H1 locs1 cells1 slots1 F1 z1 z2 => ?_)
            have eo := List.mem_singleton.mp ho
            subst eo
            dsimp only at F1 z1 z2 ⊢
            have c1 : cells1 = 0 := by have z3 : cells1 + 0 ≤ 0 + 0 := z1; omega
            have s1 : slots1 = 0 := by have z3 : slots1 + 0 ≤ 0 + 0 := z2; omega
            subst c1
            subst s1
            obtain ⟨hlo1, hst1, hE1, hG1, hlc1⟩ := F1
            have hG1s : q_G dC dI dA (rv ++ x) ad Hb H1 E1 h1 H1 := ⟨hG1.1, fun _ _ _ => rfl, ⟨Nat.le_refl _, hG1.2.2.1.2⟩, hG1.2.2.2⟩
            obtain ⟨en, hd⟩ := q_dec (n := 3) hi rfl
            have hc := (q_rowI hi).2.2.1
            simp only [c_I, nMth, q_bleF (show kc < 303 by rcases hkc with rfl | rfl | rfl | rfl <;> omega), Bool.false_or, Bool.and_eq_true] at hc
            have ea2 := Nat.eq_of_beq_eq_true hc.2
            obtain ⟨wv, vr, rfl, g1, g2, g3⟩ := s_takeS htk rfl hst1
            rw [List.append_nil] at g1
            have hrcv := b7
            unfold s_rcv at hrcv
            split at hrcv
            · rename_i q as3
              split at hrcv
              · rename_i ci fs hob
                have eci := Nat.eq_of_beq_eq_true hrcv
                obtain ⟨w, As, hrev, hw, hAs⟩ := g1
                have ew : w = .ref (ad q) := hw
                subst ew
                have hwv : wv = As.reverse ++ [.ref (ad q)] := by
                  have := congrArg List.reverse hrev
                  rw [List.reverse_reverse, List.reverse_cons] at this
                  exact this
                have hlenA : As.length = mP kc := by
                  have h9 := congrArg List.length hwv
                  rw [List.length_append, List.length_reverse, List.length_singleton, g3] at h9
                  omega
                have hq0 := hc.1.2
                unfold c_cls at hq0
                split at hq0
                · rename_i q0 hq1
                  have hq2 := of_decide_eq_true hq0
                  obtain ⟨-, -, us, w9', k1, k2', cell, k3, k4, k5, k6⟩ := q_obj hG1 hob
                  rw [eci] at k2' k4
                  cases Option.some.inj (hq1.symm.trans k2')
                  have hcl9 : s.vm.findClass (mY kc).cls = some cell.cls := by rw [← hq2, k4]; exact (hK.1.1 _ _ hq1).2.1
                  have hkc2 : kc < 302 := by rcases hkc with rfl | rfl | rfl | rfl <;> omega
                  have hkcp : c_plain kc = true := by rcases hkc with rfl | rfl | rfl | rfl <;> rfl
                  obtain ⟨v1', v2', v3', v4', v5', v6', v7'⟩ := q_MW (q_meth hkc2 hkcp)
                  have hM := q_metX (vs := .ref (ad q) :: As) hkc hfl (hX (K - 2) _ (by omega)) hr2 (s_val_mono x hv2) (Nat.le_of_ble_eq_true b8) hE1 (fun o ho => (hos1 o ho).1) ⟨_, _, rfl, rfl, hAs⟩ hG1s
                  have hroom : (q_rm (K - 2) mc ms).frames + 1 ≤ (q_rm (K - 1) mc ms).frames ∧ 8 + (mL kc + 11) + (q_rm (K - 2) mc ms).locals ≤ (q_rm (K - 1) mc ms).locals := ⟨by show K - 2 + 8 + 1 ≤ K - 1 + 8; omega, q_key0 (by show 80 * (K - 2) + 480 ≤ 80 * (K - 1) + 400; omega) _ v7'⟩
                  have hrun := vx_runV (p := p) (e := e) (R := q_rm (K - 1) mc ms) (below := below) (meth := meth) (locs := locs1) (cells := 0) (slots := 0) (g := F0 m pc ls1 (wv ++ vr)) (As := As) (rest := vr) (b := ad q) (C := (mY kc).cls) ⟨C.1, C.2.1, hml, hown, hts⟩ hM
                    ⟨callB_of (R := q_rm (K - 1) mc ms) (mP kc) hts (q_good v1') rfl rfl rfl (hts _ v2') (hts _ (wAt_mem hc.1.1.1.1.2)) ⟨v4', v5', v6'⟩ hroom, hts _ (wAt_mem hc.1.1.1.2), hts _ (wAt_mem hc.1.1.2)⟩
                    ⟨fun a U g mk q => ⟨q.1, q.2.1.calling, q.2.2⟩, ⟨cell, k3, by rw [k5]; rfl, hcl9⟩, fun U hU hW => ⟨rfl, hK.moved hW, hU⟩⟩ rfl hlenA hlo1.1 (by rw [hwv, List.append_assoc]; rfl) (lv_room (by rw [g2.cats]; exact Nat.le_of_ble_eq_true b6)) hd ⟨by rw [Nat.zero_add]; exact Nat.le_refl _, by rw [Nat.zero_add]; exact Nat.le_refl _⟩
                  intro T hT XT
                  rcases hrun T hT XT with ⟨v, st₀, t, T', L9, a0, X', hL9, a1, a2', hq, st9⟩ | ⟨q9, st₀, t, T', L9, E9, ce, a0, X', hL9, a1, a2', hXC, hce, hcv, hcl, st9⟩
                  · obtain ⟨v2, hv2', o, ho, x2, o1, o2, o3, o4⟩ := hq
                    cases hv2'
                    obtain ⟨a, ha, hin⟩ := s_houtsS hho o ho
                    have hpre := (hos1 o ho).2
                    obtain ⟨e0, ret0, pc0, lo0, st0, E0, h0⟩ := o
                    dsimp only at o1 o2 o3 o4 hpre
                    subst o1
                    have hGo := hG1.back hpre o4
                    cases ret0 with
                    | none => cases ha
                    | some ra =>
                      have ha : (match s_run X (s_sub dp (s_num 1)) c (fun _ => false) 20 (nx, lo, ra :: rs, E0, h0) with
                        | some (c, s, os) => bif Nat.beq c 0 && Nat.beq s 0 && os.all (fun o => Nat.beq o.1 0) then some os else none
                        | none => none) = some a := ha
                      split at ha
                      · rename_i c3 s3 os3 hr3
                        obtain ⟨hb6, ha⟩ := q_bif ha
                        cases ha
                        rw [Bool.and_eq_true, Bool.and_eq_true] at hb6
                        have e5 := Nat.eq_of_beq_eq_true hb6.1.1
                        have e6 := Nat.eq_of_beq_eq_true hb6.1.2
                        subst e5
                        subst e6
                        have F2 : q_Fr dC dI dA (rv ++ (x ++ x2)) ad Hb H (mL c) (nx, lo, ra :: rs, E0, h0) ls1 (v.toList ++ vr) t.heap (locs1 ++ L9) := by
                          rw [← List.append_assoc]
                          exact ⟨hlo1.mono x2, q_appL (a := some ra) o2 (g2.mono x2), o3, hGo, fun z hz => by
                            rcases List.mem_append.mp hz with hz | hz
                            · exact hlc1 z hz
                            · exact hL9 z hz⟩
                        have KW : W p l e (q_rm (K - 1) mc ms) s m vs.toArray below meth cd t.heap (locs1 ++ L9) (0 + mc) (0 + ms) (MQ below (q_Qc dC dI dA rv ad Hb H os) vs.toArray s mc ms (fun q => Hb.size ≤ q)) (F0 m nx ls1 (v.toList ++ vr)) := by
                          refine q_run C (hX (K - 1) _ (by omega)) (Nat.le_refl _) (Nat.le_refl _) 20 _ 0 0 _ (rv ++ (x ++ x2)) hr3 (s_val_mono _ hv1) ls1 _ t.heap _ (0 + mc) (0 + ms) F2 (by show 0 + mc + 0 ≤ mc; omega) (by show 0 + ms + 0 ≤ ms; omega) (fun o ho ht x3 ls3 vs3 H3 locs3 cells3 slots3 F3 z3 z4 => ?_)
                          have ho0 := Nat.eq_of_beq_eq_true (List.all_eq_true.mp hb6.2 o ho)
                          obtain ⟨e7, ret7, pc7, lo7, st7, E7, h7⟩ := o
                          dsimp only at ho0 F3 z3 z4 ⊢
                          subst ho0
                          rcases ht with ⟨ht, -⟩ | ht
                          · cases ht
                          · refine W.widen (k := mc) (n := ms) (by have z5 : cells3 + 0 ≤ 0 + mc + 0 := z3; omega) (by have z5 : slots3 + 0 ≤ 0 + ms + 0 := z4; omega) ?_
                            rw [List.append_assoc] at F3
                            exact q_leave C hret hlocks ht F3 (fun v hv t htH _ => ⟨v, rfl, _, hin _ ho, x ++ x2 ++ x3, rfl, hv, F3.2.2.1, by rw [htH]; exact F3.2.2.2.1⟩)
                        have en' : nx = pc + 3 := en
                        obtain ⟨t2, b9, c9⟩ := KW T' (by rw [a1]) X'
                        exact ⟨t2, st9 t2 (by rw [en'] at b9; exact b9), c9⟩
                      · cases ha
                  · obtain ⟨hE9, o, ho, x2, o1, o3, o4⟩ := hXC
                    subst hE9
                    obtain ⟨a, ha, hin⟩ := s_houtsS hho o ho
                    have hpre := (hos1 o ho).2
                    obtain ⟨e0, ret0, pc0, lo0, st0, E0, h0⟩ := o
                    dsimp only at o1 o3 o4 hpre
                    subst o1
                    have hGo := hG1.back hpre o4
                    have ea : a = [(0, some (.inl (s_num 1)), (0, [], [], E0, h0))] := (Option.some.inj ha).symm
                    have hmem : (0, some (.inl (s_num 1)), (0, [], [], E0, h0)) ∈ os := hin _ (by rw [ea]; exact List.mem_singleton.mpr rfl)
                    have fin : ∀ (pcx : Nat) (lsx : Array Slot), decode (mC c) pcx = .ok (.iconst 1, 1) → decode (mC c) (pcx + 1) = .ok (.ireturn, 1) → W p l e (q_rm (K - 1) mc ms) s m vs.toArray below meth cd T'.heap (locs1 ++ L9) (0 + mc) (0 + ms) (MQ below (q_Qc dC dI dA rv ad Hb H os) vs.toArray s mc ms (fun q => Hb.size ≤ q)) (F0 m pcx lsx []) := by
                      intro pcx lsx d1 d2
                      refine lv_iconst (v := 1) C.1 C.2.1 d1 rfl ?_
                      rw [Nat.zero_add, Nat.zero_add]
                      have hlx : ∀ z ∈ locs1 ++ L9, Hb.size ≤ z.base := fun z hz => by
                        rcases List.mem_append.mp hz with hz | hz
                        · exact hlc1 z hz
                        · exact hL9 z hz
                      have hend : ∀ t3 : State, t3.heap = T'.heap → q_End dC dI dA rv ad Hb H os (some (.int 1)) t3.heap := fun t3 ht3 => by
                        refine ⟨_, hmem, x ++ x2, rfl, ⟨_, rfl, 1, rfl, s_numS 1⟩, ?_, ?_⟩
                        · rw [← List.append_assoc]
                          exact o3
                        · rw [ht3, a1, ← List.append_assoc]
                          exact hGo
                      exact W.iret C.1 C.2.1 (hret.trans w8) (fun t3 ht3 hW => ⟨_, rfl, hend t3 ht3⟩) hlx d2
                    have hlink : ∀ en : ExceptionTableEntry, en.catchType = 13 → (Cond.classLink (mY c).cls en.catchType q_nse).before vs.toArray s = true := fun en hen => by rw [hen, w9]; exact hts _ q_own_c
                    rcases hD with ⟨d0, d1, d2, d3, d4⟩ | ⟨d0, d1, d2, d3, d4⟩
                    · have epc : pc = 5 := by rw [e4]; unfold s_hpc; rw [show Nat.blt c 300 = true from Nat.ble_eq_true_of_le d0]; rfl
                      have ehh : q_hh c = [(0, 10, 13, 13)] := by unfold q_hh; rw [show Nat.blt c 300 = true from Nat.ble_eq_true_of_le d0]; rfl
                      rw [ehh] at htab
                      have KX : vx_W p l e (q_rm (K - 1) mc ms) s m vs.toArray below meth cd T'.heap (locs1 ++ L9) (0 + mc) (0 + ms) (MQ below (q_Qc dC dI dA rv ad Hb H os) vs.toArray s mc ms (fun q => Hb.size ≤ q)) (F0 m pc ls1 vr) q9 :=
                        vx_catch (name := q_nse) hown [] { startPc := 0, endPc := 10, handlerPc := 13, catchType := 13 } [] htab (fun z hz => nomatch hz) (by rw [epc]; rfl) (by decide) (hlink _ rfl) (va_Nw.use rfl (hK.2.2.2.1 _ (by simp [q_xw]))) (by rw [a1]; exact hce) hcv hcl (by
                          refine lv_astore C.1 C.2.1 d2 hlo1.has (by rw [d1]; decide) rfl (fun ls' _ => ?_)
                          exact fin 15 ls' d3 d4)
                      obtain ⟨t2, a9, b9⟩ := KX T' rfl X'
                      exact ⟨t2, st9.trans a9, b9⟩
                    · have nb : Nat.blt c 300 = false := by
                        cases hb : Nat.blt c 300 with
                        | false => rfl
                        | true =>
                          have := Nat.le_of_ble_eq_true hb
                          omega
                      have epc : pc = 4 := by rw [e4]; unfold s_hpc; rw [nb]; rfl
                      have ehh : q_hh c = [(0, 9, 12, 13)] := by unfold q_hh; rw [nb]; rfl
                      rw [ehh] at htab
                      have KX : vx_W p l e (q_rm (K - 1) mc ms) s m vs.toArray below meth cd T'.heap (locs1 ++ L9) (0 + mc) (0 + ms) (MQ below (q_Qc dC dI dA rv ad Hb H os) vs.toArray s mc ms (fun q => Hb.size ≤ q)) (F0 m pc ls1 vr) q9 :=
                        vx_catch (name := q_nse) hown [] { startPc := 0, endPc := 9, handlerPc := 12, catchType := 13 } [] htab (fun z hz => nomatch hz) (by rw [epc]; rfl) (by decide) (hlink _ rfl) (va_Nw.use rfl (hK.2.2.2.1 _ (by simp [q_xw]))) (by rw [a1]; exact hce) hcv hcl (by
                          refine lv_astore_n C.1 C.2.1 d2 rfl hlo1.has (by rw [d1]; decide) rfl (fun ls' _ => ?_)
                          exact fin 13 ls' d3 d4)
                      obtain ⟨t2, a9, b9⟩ := KX T' rfl X'
                      exact ⟨t2, st9.trans a9, b9⟩
                · cases hq0
              · cases hrcv
            · cases hrcv
          · cases hs4
        · cases hs3
      · cases hs2
    · cases hs1
  · cases hr
end Help2
