/-! Runs of bodies, plain methods, their calls. -/
/-- how a body ends: it stands still, or answers or throws -/
noncomputable def q_Term (k : Nat) (stp : sG → Bool) (o : sO) : Prop := (o.1 = 2 ∧ stp o.2.2 = true) ∨ s_step k o.2.2.1 o.2.2.2.1 o.2.2.2.2.1 o.2.2.2.2.2.1 o.2.2.2.2.2.2 = some (.inr (.inr (o.1, o.2.1)))
/-- what is asked of a call, the caller K deep: at any place that calls c so, it comes to one of its ends -/
noncomputable def q_CallOK (l : Launch) (dC : Nat → ClassId) (dI : Nat → Nat → Nat) (dA : FieldType → ClassId) (Hb : Heap) (rv : List Int) (ad : Nat → Nat) (K c : Nat) (as : List sA) (E : sE) (h : sH) (mc ms : Nat) (os : List sO) : Prop :=
  ∀ (p : Program) (e : Env) (R : Room) (s : State) (m : MethodId) (args : Array Value) (below : List Frame) (meth : Method) (cd : Code) (H0 H : Heap) (locs : List Loc) (cells slots : Nat) (Q : State → Prop) (k pc nx : Nat) (lo : sL) (st rs : List sA) (ls : Array Slot) (vs : List Value),
    q_Ctx p R s m args meth cd dC dI dA Hb k → q_Site k pc nx c st as rs h → s_cats rs ≤ 8 → q_Fr dC dI dA rv ad Hb H0 (mL k) (pc, lo, st, E, h) ls vs H locs → K + 8 ≤ R.frames → 80 * K + 400 ≤ R.locals → cells + mc ≤ R.cells → slots + ms ≤ R.slots →
    (∀ o ∈ os, ∃ f, s_ret1 (nx, lo, rs, E, h) o = some f) →
    (∀ o ∈ os, ∀ f, s_ret1 (nx, lo, rs, E, h) o = some f → ∀ (x : List Int) (ls : Array Slot) (vs : List Value) (H : Heap) (locs : List Loc), q_Fr dC dI dA (rv ++ x) ad Hb H0 (mL k) f.2.2 ls vs H locs → W p l e R s m args below meth cd H locs (cells + mc) (slots + ms) Q (F0 m f.2.2.1 ls vs)) →
    W p l e R s m args below meth cd H locs cells slots Q (F0 m pc ls vs)
/-- what is asked of all calls of a body -/
noncomputable def q_XOK (l : Launch) (dC : Nat → ClassId) (dI : Nat → Nat → Nat) (dA : FieldType → ClassId) (Hb : Heap) (ad : Nat → Nat) (K : Nat) (dp : sF) (X : sF → Nat → List sA → sE → sH → Option sZ) : Prop :=
  ∀ (rv : List Int) (c : Nat) (as : List sA) (E : sE) (h : sH) (mc ms : Nat) (os : List sO), s_val rv dp = some (K : Int) → X dp c as E h = some (mc, ms, os) → q_CallOK l dC dI dA Hb rv ad K c as E h mc ms os
section Run
variable {p : Program} {l : Launch} {e : Env} {R : Room} {s : State} {m : MethodId} {args : Array Value} {below : List Frame} {meth : Method} {c : Code} {Q : State → Prop}
variable {dC : Nat → ClassId} {dI : Nat → Nat → Nat} {dA : FieldType → ClassId} {ad : Nat → Nat} {Hb H0 : Heap} {k K : Nat} {dp : sF} {stp : sG → Bool} {X : sF → Nat → List sA → sE → sH → Option sZ}
theorem q_run (C : q_Ctx p R s m args meth c dC dI dA Hb k) (hX : q_XOK l dC dI dA Hb ad K dp X) (hD : K + 8 ≤ R.frames) (hD2 : 80 * K + 400 ≤ R.locals) :
    ∀ (n : Nat) (f : sG) (mc ms : Nat) (os : List sO) (rv : List Int), s_run X dp k stp n f = some (mc, ms, os) → s_val rv dp = some (K : Int) → ∀ (ls : Array Slot) (vs : List Value) (H : Heap) (locs : List Loc) (cells slots : Nat), q_Fr dC dI dA rv ad Hb H0 (mL k) f ls vs H locs → cells + mc ≤ R.cells → slots + ms ≤ R.slots →
      (∀ o ∈ os, q_Term k stp o → ∀ (x : List Int) (ls : Array Slot) (vs : List Value) (H : Heap) (locs : List Loc) (cells' slots' : Nat), q_Fr dC dI dA (rv ++ x) ad Hb H0 (mL k) o.2.2 ls vs H locs → cells' + (bif Nat.beq o.1 1 then 1 else 0) ≤ cells + mc → slots' + (bif Nat.beq o.1 1 then 6 else 0) ≤ slots + ms → W p l e R s m args below meth c H locs cells' slots' Q (F0 m o.2.2.1 ls vs)) →
      W p l e R s m args below meth c H locs cells slots Q (F0 m f.1 ls vs)
  | 0, f, mc, ms, os, _, h, _, _, _, _, _, _, _, _, _, _, _ => by cases h
  | n + 1, (pc, lo, st, E, h), mc, ms, os, rv, hr, hv, ls, vs, H, locs, cells, slots, F, hc, hs, hend => by
    unfold s_run at hr
    cases hst : stp (pc, lo, st, E, h) with
    | true =>
      rw [hst] at hr
      cases hr
      exact hend _ (List.mem_singleton.mpr rfl) (Or.inl ⟨rfl, hst⟩) [] ls vs H locs cells slots (by rw [List.append_nil]; exact F) (Nat.le_refl _) (Nat.le_refl _)
    | false =>
      rw [hst] at hr
      simp only [cond_false] at hr
      cases hhk : s_hook k (pc, lo, st, E, h) with
      | some g =>
        rw [hhk] at hr
        simp only at hr
        obtain ⟨x, F1, epc⟩ := q_hook hhk F
        have epc : g.1 = pc := epc
        rw [show ((pc, lo, st, E, h) : sG).1 = g.1 from epc.symm]
        exact q_run C hX hD hD2 n g mc ms os (rv ++ x) hr (s_val_mono x hv) ls vs H locs cells slots F1 hc hs (fun o ho ht x2 ls2 vs2 H2 locs2 cells2 slots2 F2 z1 z2 => hend o ho ht (x ++ x2) ls2 vs2 H2 locs2 cells2 slots2 (by rw [← List.append_assoc]; exact F2) z1 z2)
      | none =>
      rw [hhk] at hr
      simp only at hr
      split at hr
      · cases hr
      · rename_i l0 hstep
        have hall := s_allS hr
        refine q_next C hstep F (fun q hq => ?_) (fun q hq x ls1 vs1 H1 locs1 F1 => ?_)
        · obtain ⟨c1, s1, o1, g1, g2, g3, g4⟩ := hall q hq
          exact ⟨by omega, by omega⟩
        · obtain ⟨c1, s1, o1, g1, g2, g3, g4⟩ := hall q hq
          exact q_run C hX hD hD2 n q.2.2 c1 s1 o1 (rv ++ x) g1 (s_val_mono x hv) ls1 vs1 H1 locs1 (cells + q.1) (slots + q.2.1) F1 (by omega) (by omega) (fun o ho ht x2 ls2 vs2 H2 locs2 cells2 slots2 F2 z1 z2 => hend o (g4 o ho) ht (x ++ x2) ls2 vs2 H2 locs2 cells2 slots2 (by rw [← List.append_assoc]; exact F2) (by omega) (by omega))
      · rename_i e2 r2 hstep
        cases hr
        exact hend _ (List.mem_singleton.mpr rfl) (Or.inr hstep) [] ls vs H locs cells slots (by rw [List.append_nil]; exact F) (Nat.le_refl _) (Nat.le_refl _)
      · rename_i c2 as f2 hstep
        split at hr
        · cases hr
        · rename_i mc1 ms1 os1 hx1
          split at hr
          · cases hr
          · rename_i l1 hl1
            split at hr
            · cases hr
            · rename_i c3 s3 o3 h3
              cases hr
              obtain ⟨nx, rs, rfl, hcat, hc3, site⟩ := q_site hstep
              have hall := s_allS h3
              refine hX _ _ _ _ _ _ _ _ hv hx1 p e R s m args below meth c H0 H locs cells slots Q k pc nx lo st rs ls vs C site hcat F hD hD2 (by omega) (by omega) (fun o ho => ?_) (fun o ho f hf x ls1 vs1 H1 locs1 F1 => ?_)
              · obtain ⟨x, g1, -⟩ := s_retsS hl1 o ho
                exact ⟨x, g1⟩
              · obtain ⟨y, g1, g2⟩ := s_retsS hl1 o ho
                have ex : y = f := Option.some.inj (g1.symm.trans hf)
                subst ex
                obtain ⟨c4, s4, o4, k1, k2, k3, k4⟩ := hall y g2
                exact q_run C hX hD hD2 n y.2.2 c4 s4 o4 (rv ++ x) k1 (s_val_mono x hv) ls1 vs1 H1 locs1 (cells + mc1) (slots + ms1) F1 (by omega) (by omega) (fun o ho ht x2 ls2 vs2 H2 locs2 cells2 slots2 F2 z1 z2 => hend o (k4 o ho) ht (x ++ x2) ls2 vs2 H2 locs2 cells2 slots2 (by rw [← List.append_assoc]; exact F2) (by omega) (by omega))
end Run
/-! A plain method's contract. -/
noncomputable def q_ws (k : Nat) : List Cond := Cond.code (mY k) (mC k) (mL k) (mR k) :: tb
noncomputable def q_rm (D mc ms : Nat) : Room := { frames := D + 8, cells := mc, slots := ms, locals := 80 * D + 400 }
noncomputable def q_Pc (dC : Nat → ClassId) (dI : Nat → Nat → Nat) (dA : FieldType → ClassId) (Hb H0 : Heap) (vs : List Value) : Array Value → State → Prop := fun a U => a = vs.toArray ∧ q_K dC dI dA Hb U ∧ U.heap = H0
noncomputable def q_ret (rv : List Int) (ad : Nat → Nat) : Option sA → Option Value → Prop
  | none, v => v = none
  | some a, v => ∃ w, v = some w ∧ q_A rv ad a w
/-- one of the ends, told to one who was there since H0 -/
noncomputable def q_End (dC : Nat → ClassId) (dI : Nat → Nat → Nat) (dA : FieldType → ClassId) (rv : List Int) (ad : Nat → Nat) (Hb H0 : Heap) (os : List sO) (v : Option Value) (H : Heap) : Prop :=
  ∃ o ∈ os, ∃ x, o.1 = 0 ∧ q_ret (rv ++ x) ad o.2.1 v ∧ q_E (rv ++ x) o.2.2.2.2.2.1 ∧ q_G dC dI dA (rv ++ x) ad Hb H0 o.2.2.2.2.2.1 o.2.2.2.2.2.2 H
noncomputable def q_Qc (dC : Nat → ClassId) (dI : Nat → Nat → Nat) (dA : FieldType → ClassId) (rv : List Int) (ad : Nat → Nat) (Hb H0 : Heap) (os : List sO) : Array Value → State → Outcome → State → Prop := fun _ _ oc t => ∃ v, oc = .returned v ∧ q_End dC dI dA rv ad Hb H0 os v t.heap
theorem q_good {k : Nat} (hc : Cond.code (mY k) (mC k) (mL k) (mR k) ∈ tb) : GoodIn tb (q_ws k) := by
  intro w hw
  rcases List.mem_cons.mp hw with rfl | hw
  · exact ⟨hc, good_of_word (List.mem_filter.mp hc).2⟩
  · exact ⟨hw, good_of_word (List.mem_filter.mp hw).2⟩
theorem q_MW {k : Nat} (h : c_M k = true) : Cond.code (mY k) (mC k) (mL k) (mR k) ∈ tb ∧ Cond.initialized (mY k).cls ∈ tb ∧ plainFor (mY k) = true ∧ (mY k).cls ≠ "java/lang/invoke/MethodHandle" ∧ (mY k).cls ≠ "java/lang/invoke/VarHandle" ∧ (parseMethodDescriptor (mY k).desc).map (fun d => d.parameters.length) = some (mP k) ∧ mL k ≤ 40 := by
  simp only [c_M, Bool.and_eq_true, decide_eq_true_eq] at h
  exact ⟨wAt_mem h.1.1.1.1.1.1, wAt_mem h.1.1.1.1.1.2, h.1.1.1.1.2, h.1.1.1.2, h.1.1.2, h.1.2, Nat.le_of_ble_eq_true h.2⟩
theorem q_argsL {rv : List Int} {ad : Nat → Nat} : ∀ {as : List sA} {vs : List Value} (i : Nat), q_L rv ad as vs → ∀ q ∈ s_args i as, ∃ v, (q.1, v) ∈ lv_args i vs ∧ q_A rv ad q.2 v
  | [], _, _, _, q, hq => nomatch hq
  | a :: as, vs, i, h, q, hq => by
    obtain ⟨v, vs', rfl, hv, h'⟩ := h
    unfold s_args at hq
    unfold lv_args
    rcases List.mem_cons.mp hq with rfl | hq
    · exact ⟨v, List.mem_cons_self, hv⟩
    · obtain ⟨w, g1, g2⟩ := q_argsL (i + s_cat a) h' q hq
      rw [← q_cat hv] at g1
      have e : (if v.category = 2 then i + 2 else i + 1) = i + v.category := by
        rcases lv_cat v with h1 | h1 <;> rw [h1] <;> simp
      rw [e]
      exact ⟨w, List.mem_cons_of_mem _ g1, g2⟩
theorem q_slN : ∀ (vs : List Value), (lg_sl vs).length = (vs.map fun v => v.category).sum
  | [] => rfl
  | v :: vs => by
    have := q_slN vs
    simp only [List.map_cons, List.sum_cons, ← this]
    cases v <;> simp [lg_sl, Value.category] <;> omega
section Meths
variable {l : Launch} {dC : Nat → ClassId} {dI : Nat → Nat → Nat} {dA : FieldType → ClassId} {rv : List Int} {ad : Nat → Nat} {Hb H0 : Heap} {k K mc ms n : Nat} {dp : sF} {X : sF → Nat → List sA → sE → sH → Option sZ} {as : List sA} {E : sE} {h : sH} {os : List sO}
/-- a body that answers: how it is left -/
theorem q_leave {p : Program} {e : Env} {R : Room} {s : State} {m : MethodId} {args : Array Value} {below : List Frame} {meth : Method} {c : Code} {Qc : Array Value → State → Outcome → State → Prop} (C : q_Ctx p R s m args meth c dC dI dA Hb k) (hret : meth.sig.returnType = mR k) (hlocks : meth.locks = false) {pc : Nat} {lo : sL} {st : List sA} {E1 : sE} {h1 : sH} {ret0 : Option sA} (ht : s_step k pc lo st E1 h1 = some (.inr (.inr (0, ret0)))) {ls1 : Array Slot} {vs1 : List Value} {H1 : Heap} {locs1 : List Loc} (F1 : q_Fr dC dI dA rv ad Hb H0 (mL k) (pc, lo, st, E1, h1) ls1 vs1 H1 locs1)
    (hQ : ∀ (v : Option Value), q_ret rv ad ret0 v → ∀ t : State, t.heap = H1 → s.WarmedH t.vm → Qc args s (.returned v) t) : W p l e R s m args below meth c H1 locs1 mc ms (MQ below Qc args s mc ms (fun q => Hb.size ≤ q)) (F0 m pc ls1 vs1) := by
  obtain ⟨hlo1, hst1, hE1, hG1, hlc1⟩ := F1
  unfold s_step at ht
  cases hi : ins k pc with
  | none => rw [hi] at ht; cases ht
  | some row =>
    rw [hi] at ht
    obtain ⟨i, nx, a1, a2, a3, z⟩ := row
    cases i <;> dsimp only at ht
    case ireturn =>
      obtain ⟨en, hd⟩ := q_dec (n := 1) hi rfl
      split at ht
      · rename_i v
        obtain ⟨w, vs', rfl, ⟨y, rfl, hy⟩, hnil⟩ := hst1
        have hnil : vs' = [] := hnil
        subst hnil
        unfold s_ret at ht
        split at ht
        · rename_i hR
          cases ht
          exact W.iret C.1 C.2.1 (hret.trans hR) (hQ _ ⟨_, rfl, y, rfl, hy⟩) hlc1 hd
        · rename_i hR
          cases hin : s_inI E1 v (0, 1) with
          | false => rw [hin] at ht; cases ht
          | true =>
            rw [hin] at ht
            cases ht
            refine W.zret (ty := .boolean) C.1 C.2.1 (hret.trans hR) ?_ (hQ _ ⟨_, rfl, y, rfl, hy⟩) hlc1 hd
            exact (q_fitW (ad := ad) (a := .inl v) (v := .int y) hE1 (ty := .boolean) hin ⟨y, rfl, hy⟩).1
        · cases ht
      · cases ht
    case lreturn =>
      obtain ⟨en, hd⟩ := q_dec (n := 1) hi rfl
      split at ht
      · rename_i zo
        obtain ⟨w, vs', rfl, ⟨y, rfl, hy⟩, hnil⟩ := hst1
        have hnil : vs' = [] := hnil
        subst hnil
        split at ht
        · rename_i hR
          cases ht
          exact W.lret C.1 C.2.1 (hret.trans hR) (hQ _ ⟨_, rfl, y, rfl, fun q hq => by cases hq⟩) hlc1 hd
        · cases ht
      · cases ht
    case return_ =>
      obtain ⟨en, hd⟩ := q_dec (n := 1) hi rfl
      split at ht
      · have hnil : vs1 = [] := hst1
        subst hnil
        split at ht
        · rename_i hR
          cases ht
          exact W.vret C.1 C.2.1 (hret.trans hR) (hQ none rfl) hlc1 hd
        · cases ht
      · cases ht
    case new x =>
      simp only [cond_eq_ite] at ht
      split at ht
      · cases ht
      · split at ht <;> cases ht
    case invokestatic x =>
      simp only [cond_eq_ite, s_inv, s_copy, s_go] at ht
      repeat' (split at ht <;> try (cases ht; done))
    case invokevirtual x =>
      split at ht
      · simp only [cond_eq_ite] at ht
        split at ht <;> cases ht
      · cases ht
    case invokespecial x =>
      simp only [cond_eq_ite, s_go] at ht
      repeat' (split at ht <;> try (cases ht; done))
    all_goals (try simp only [s_go, s_gox, s_br, s_gets, s_puts, s_op2, s_op2o, s_op1, s_lop2, s_ldv, s_andI, s_rld, s_rst] at ht)
    all_goals (first | (cases ht; done) | skip)
    all_goals (repeat' (split at ht <;> try (cases ht; done)))
    all_goals (first | (cases ht; done) | (simp only [cond_eq_ite] at ht; repeat' (split at ht <;> try (cases ht; done))) | skip)
end Meths
