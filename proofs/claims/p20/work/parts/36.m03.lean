-- 36.thrower.lean.txt
section
/-! Methods that throw, and the law's helpers that catch it. -/
noncomputable def q_b13 : ByteArray := prog_23_method_4_code
noncomputable def q_own : List Cond := q_ownA "SkirtsByTheDay" 123 q_nse "java/lang/RuntimeException" ["java/lang/Exception"] 13 q_b13
theorem q_own_n : (((q_own.filter vx_no).filter (fun w => !goodWord w)).all (fun w => decide (w ∈ q_xw))) = true := by decide +kernel
noncomputable def q_cand : List Nat := [0, 1, 2, 3, 4, 5, 6, 7, 8, 9, 10, 11, 12, 13, 14, 15, 16, 17, 18, 19, 20, 21, 22, 23, 24, 25, 26, 27, 28, 29, 30, 31, 32, 33, 34, 35, 36, 37, 38, 39, 40, 41, 42, 43, 44, 45, 46, 47, 48, 49, 50, 51, 52, 53, 54, 55, 56, 57, 58, 59, 60, 61, 62, 63, 64, 65, 82, 83, 84, 85, 1204, 1209, 1210, 1211, 1212, 1213, 1214, 1215, 1216, 1217, 1218, 1219, 1220, 1221, 1222, 1223, 1224, 1225, 1226, 1227, 1228, 1229, 1230, 1231, 1232, 1233, 1234, 1235, 1236, 1237, 1238, 1239, 1240, 1241, 1242, 1243, 1244, 1245, 1246, 1247, 1249, 1250, 1251, 1252, 1253, 1254, 1255, 1256, 1257, 1258, 1259, 1260, 1261, 1262, 1263, 1264, 1265, 1266, 1267, 1268, 1269, 1270, 1271, 1272, 1273, 1949, 1963, 1964]
theorem q_ownM {w : Cond} (h : (q_cand.any (fun i => decide (lw_g i = some w)) || decide (w ∈ lw_tbl)) = true) : w ∈ lw_tbl := by
  rw [Bool.or_eq_true] at h
  rcases h with h | h
  · obtain ⟨i, -, hi⟩ := List.any_eq_true.mp h
    exact lw_gm i w (of_decide_eq_true hi)
  · exact of_decide_eq_true h
set_option maxRecDepth 100000 in
theorem q_own_g : (((q_own.filter vx_no).filter goodWord).all (fun w => q_cand.any (fun i => decide (lw_g i = some w)) || decide (w ∈ lw_tbl))) = true := by decide +kernel
theorem q_own_o : (Cond.classLink "SkirtsByTheDay" 119 q_nse :: Cond.initialized q_nse :: q_own.filter vx_no).all vx_ot = true := by decide +kernel
theorem q_own_k : Cond.classLink "SkirtsByTheDay" 119 q_nse ∈ tb := wAt_mem (i := 1209) (by decide +kernel)
theorem q_own_i : Cond.initialized q_nse ∈ tb := wAt_mem (i := 85) (by decide +kernel)
theorem q_own_c : Cond.classLink "SkirtsByTheDayLaw" 13 q_nse ∈ tb := wAt_mem (i := 1204) (by decide +kernel)
theorem q_hat {args : Array Value} {s : State} {Hb : Heap} (hts : ∀ w ∈ tb, w.before args s = true) (hX : q_KX Hb s) : ∀ w ∈ q_own.filter vx_no, w.before args s = true := fun w hw => by
  by_cases g : goodWord w = true
  · exact hts w (List.mem_filter.mpr ⟨q_ownM (List.all_eq_true.mp q_own_g w (List.mem_filter.mpr ⟨hw, g⟩)), g⟩)
  · have g2 : (!goodWord w) = true := by simpa using g
    have hx := of_decide_eq_true (List.all_eq_true.mp q_own_n w (List.mem_filter.mpr ⟨hw, g2⟩))
    exact va_Nw.use (q_xwT hx) (hX.1 w hx)
/-- a place that throws: new, dup, ldc or ldc_w, invokespecial, athrow -/
noncomputable def q_TS (k pc : Nat) : Prop := ∃ (n is : Nat) (text : String), (is, text) ∈ q_xs ∧ decode (mC k) pc = .ok (.new 119, 3) ∧ decode (mC k) (pc + 3) = .ok (.dup, 1) ∧ ((decode (mC k) (pc + 4) = .ok (.ldc is, 2) ∧ n = 6) ∨ (decode (mC k) (pc + 4) = .ok (.ldc_w is, 3) ∧ n = 7)) ∧ decode (mC k) (pc + n) = .ok (.invokespecial 123, 3) ∧ decode (mC k) (pc + n + 3) = .ok (.athrow, 1)
noncomputable def q_n99 (k pc : Nat) : Bool := match ins k pc with
  | some q => Nat.beq q.2.2.1 99 && (match q.1 with
    | .new _ => true
    | _ => false)
  | none => false
theorem q_ts0 : q_TS 117 11 := ⟨6, 121, "there is no such one of PEOPLE", by decide +kernel, by decide +kernel, by decide +kernel, Or.inl ⟨by decide +kernel, rfl⟩, by decide +kernel, by decide +kernel⟩
theorem q_ts1 : q_TS 117 106 := ⟨6, 142, "nothing such is told of PEOPLE", by decide +kernel, by decide +kernel, by decide +kernel, Or.inl ⟨by decide +kernel, rfl⟩, by decide +kernel, by decide +kernel⟩
theorem q_ts2 : q_TS 118 11 := ⟨6, 147, "there is no such CLOTH", by decide +kernel, by decide +kernel, by decide +kernel, Or.inl ⟨by decide +kernel, rfl⟩, by decide +kernel, by decide +kernel⟩
theorem q_ts3 : q_TS 118 104 := ⟨6, 164, "nothing such is told of CLOTHS", by decide +kernel, by decide +kernel, by decide +kernel, Or.inl ⟨by decide +kernel, rfl⟩, by decide +kernel, by decide +kernel⟩
theorem q_ts4 : q_TS 130 11 := ⟨7, 256, "there is no such piece in THE BOX", by decide +kernel, by decide +kernel, by decide +kernel, Or.inr ⟨by decide +kernel, rfl⟩, by decide +kernel, by decide +kernel⟩
theorem q_ts5 : q_TS 162 15 := ⟨7, 449, "the ROW has no such number", by decide +kernel, by decide +kernel, by decide +kernel, Or.inr ⟨by decide +kernel, rfl⟩, by decide +kernel, by decide +kernel⟩
set_option maxRecDepth 100000 in
theorem q_tc117 : ∀ pc, pc < mN 117 → q_n99 117 pc = true → pc = 11 ∨ pc = 106 := by decide +kernel
set_option maxRecDepth 100000 in
theorem q_tc118 : ∀ pc, pc < mN 118 → q_n99 118 pc = true → pc = 11 ∨ pc = 104 := by decide +kernel
set_option maxRecDepth 100000 in
theorem q_tc130 : ∀ pc, pc < mN 130 → q_n99 130 pc = true → pc = 11 := by decide +kernel
set_option maxRecDepth 100000 in
theorem q_tc162 : ∀ pc, pc < mN 162 → q_n99 162 pc = true → pc = 15 := by decide +kernel
theorem q_tsC {k pc : Nat} (hk : k = 117 ∨ k = 118 ∨ k = 130 ∨ k = 162) (hp : pc < mN k) (h : q_n99 k pc = true) : q_TS k pc := by
  rcases hk with rfl | rfl | rfl | rfl
  · rcases q_tc117 pc hp h with rfl | rfl
    · exact q_ts0
    · exact q_ts1
  · rcases q_tc118 pc hp h with rfl | rfl
    · exact q_ts2
    · exact q_ts3
  · have e := q_tc130 pc hp h
    subst e
    exact q_ts4
  · have e := q_tc162 pc hp h
    subst e
    exact q_ts5
/-- a heap with more behind it -/
theorem q_G.grow {dC : Nat → ClassId} {dI : Nat → Nat → Nat} {dA : FieldType → ClassId} {rv : List Int} {ad : Nat → Nat} {Hb H0 H H1 : Heap} {E : sE} {h : sH} (hG : q_G dC dI dA rv ad Hb H0 E h H) (hf : E.1 = false) (hz : H.size ≤ H1.size) (hq : ∀ q : Nat, q < H.size → H1[q]? = H[q]?) : q_G dC dI dA rv ad Hb H0 E h H1 := by
  obtain ⟨g1, g2, g3, g4, g5, g6, g7⟩ := hG
  refine ⟨fun q hq1 => (hq q (by omega)).trans (g1 q hq1), fun q hq1 hn => (hq q (by omega)).trans (g2 q hq1 hn), by omega, (fun e => by rw [hf] at e; cases e), fun x hx => (g5 x hx).kept (hq _ (g5 x hx).lt), g6, fun _ => (g7 hf).kept fun i ⟨z, z1, z2, z3⟩ => ⟨⟨z, z1, z2, z3⟩, ?_⟩⟩
  have := (g5 z z1).lt
  rw [z2] at this
  exact hq _ this
noncomputable def q_XC (dC : Nat → ClassId) (dI : Nat → Nat → Nat) (dA : FieldType → ClassId) (rv : List Int) (ad : Nat → Nat) (Hb H0 : Heap) (os : List sO) : String → State → State → Prop := fun Ee _ t =>
  Ee = q_nse ∧ ∃ o ∈ os, ∃ x, o.1 = 1 ∧ q_E (rv ++ x) o.2.2.2.2.2.1 ∧ q_G dC dI dA (rv ++ x) ad Hb H0 o.2.2.2.2.2.1 o.2.2.2.2.2.2 t.heap
section Throwers
variable {l : Launch} {dC : Nat → ClassId} {dI : Nat → Nat → Nat} {dA : FieldType → ClassId} {rv : List Int} {ad : Nat → Nat} {Hb H0 : Heap} {k D mc ms n : Nat} {dp : sF} {X : sF → Nat → List sA → sE → sH → Option sZ} {as : List sA} {E : sE} {h : sH} {os : List sO}
theorem q_newE {pc : Nat} {lo : sL} {st : List sA} {E1 : sE} {h1 : sH} {ret0 : Option sA} (ht : s_step k pc lo st E1 h1 = some (.inr (.inr (1, ret0)))) : q_n99 k pc = true ∧ pc < mN k := by
  unfold s_step at ht
  cases hi : ins k pc with
  | none => rw [hi] at ht; cases ht
  | some row =>
    rw [hi] at ht
    have hp := (q_ins hi).2
    obtain ⟨i, nx, a1, a2, a3, z⟩ := row
    cases i <;> dsimp only at ht
    case new x =>
      cases h99 : Nat.beq a1 99 with
      | true => exact ⟨by simp only [q_n99, hi, h99, Bool.and_self], hp⟩
      | false =>
        rw [h99] at ht
        cases hE9 : E1.1 && s_ids h1 with
        | true => rw [hE9] at ht; cases ht
        | false => rw [hE9] at ht; cases ht
    case ireturn =>
      split at ht
      · unfold s_ret at ht
        split at ht
        · cases ht
        · simp only [cond_eq_ite] at ht
          split at ht <;> cases ht
        · cases ht
      · cases ht
    case lreturn =>
      split at ht
      · split at ht <;> cases ht
      · cases ht
    case return_ =>
      split at ht
      · split at ht <;> cases ht
      · cases ht
    case invokestatic x =>
      simp only [cond_eq_ite, s_inv, s_copy, s_go] at ht
      repeat' (split at ht <;> try (cases ht; done))
    case invokevirtual x =>
      split at ht
      · simp only [cond_eq_ite] at ht
        split at ht <;> cases ht
      · cases ht
    case invokespecial x =>
      simp only [cond_eq_ite, s_go] at ht
      repeat' (split at ht <;> try (cases ht; done))
    all_goals (try simp only [s_go, s_gox, s_br, s_gets, s_puts, s_op2, s_op2o, s_op1, s_lop2, s_ldv, s_andI, s_rld, s_rst] at ht)
    all_goals (first | (cases ht; done) | skip)
    all_goals (repeat' (split at ht <;> try (cases ht; done)))
    all_goals (first | (cases ht; done) | (simp only [cond_eq_ite] at ht; repeat' (split at ht <;> try (cases ht; done))) | skip)
set_option maxHeartbeats 4000000 in
theorem q_metX (hk : k = 117 ∨ k = 118 ∨ k = 130 ∨ k = 162) (hfl : l.stackTraces = false) (hX : q_XOK l dC dI dA Hb ad D dp X)
    (hr : s_run X dp k (fun _ => false) n (0, s_args 0 as, [], E, h) = some (mc, ms, os)) (hv : s_val rv dp = some (D : Int)) (hcat : s_cats as ≤ mL k) (hE : q_E rv E) (hos : ∀ o ∈ os, (o.1 = 0 ∨ (o.1 = 1 ∧ s_cats o.2.2.2.2.1 ≤ 8)) ∧ o.2.2.2.2.2.1.1 = false) {vs : List Value} (hvs : q_L rv ad as vs) (hG0 : q_G dC dI dA rv ad Hb H0 E h H0) :
    vx_Met l (mY k) (q_ws k) (q_rm D mc ms) (q_Pc dC dI dA Hb H0 vs) (q_Qc dC dI dA rv ad Hb H0 os) (q_XC dC dI dA rv ad Hb H0 os) mc ms (fun q => Hb.size ≤ q) := by
  have hk2 : k < 303 := by rcases hk with rfl | rfl | rfl | rfl <;> omega
  have hp : c_plain k = true := by rcases hk with rfl | rfl | rfl | rfl <;> rfl
  have hcl : (mY k).cls = "SkirtsByTheDay" := by rcases hk with rfl | rfl | rfl | rfl <;> rfl
  have hpn : plainName (mY k).cls = true := by rw [hcl]; decide +kernel
  obtain ⟨w1, w2, w3, w4, w5, w6, w7⟩ := q_MW (q_meth hk2 hp)
  refine vx_ofW (cc := mC k) (maxL := mL k) (ret := mR k) hpn rfl ?_
  intro p e s m args below meth c s₁ B hml htab hv0
  obtain ⟨rfl, hK, hH⟩ := hv0
  have hts0 := atoms_spec (ws := q_ws k) B.pre
  have hts : ∀ w ∈ tb, w.before vs.toArray s = true := fun w hw => hts0 w (List.mem_cons_of_mem _ hw)
  have hown : s.vm.findClass (mY k).cls = some m.cls := findClass_of_methodNamed B.named
  have hlocks := B.notSynchronized
  have hnm : meth.name = (mY k).name := (name_of_methodNamed B.named B.method).1
  have hret := B.returns
  have C : q_Ctx p (q_rm D mc ms) s m vs.toArray meth c dC dI dA Hb k := ⟨B.exec, B.bytes, hml, hown, hts, hK, fun q => hnm.trans q, by show 8 ≤ D + 8; omega, by show 400 ≤ 80 * D + 400; omega⟩
  have hl := lv_entry vs (n := mL k) (by rw [q_slN, hvs.cats]; exact hcat)
  rw [lg_entry_eq]
  generalize (lg_sl vs ++ List.replicate (mL k - (lg_sl vs).length) Slot.unset).toArray = ls at hl ⊢
  have hlo : q_Lo rv ad (s_args 0 as) ls (mL k) := ⟨hl.1, hl.2.1, fun q hq => by
    obtain ⟨v, g1, g2⟩ := q_argsL 0 hvs q hq
    exact ⟨v, hl.2.2 _ g1, g2⟩⟩
  show W p l e (q_rm D mc ms) s m vs.toArray below meth c s.heap [] 0 0 _ _
  rw [hH]
  refine q_run C hX (Nat.le_refl _) (Nat.le_refl _) n _ mc ms os rv hr hv ls [] H0 [] 0 0 ⟨hlo, rfl, hE, hG0, fun q hq => nomatch hq⟩ (by show 0 + mc ≤ mc; omega) (by show 0 + ms ≤ ms; omega) (fun o ho ht x ls1 vs1 H1 locs1 cells1 slots1 F1 z1 z2 => ?_)
  obtain ⟨e0, ret0, pc, lo, st, E1, h1⟩ := o
  obtain ⟨he, hef⟩ := hos _ ho
  dsimp only at he hef z1 z2 F1 ⊢
  rcases he with rfl | ⟨rfl, he8⟩
  · have c1 : cells1 ≤ mc := by have z3 : cells1 + 0 ≤ 0 + mc := z1; omega
    have s1 : slots1 ≤ ms := by have z3 : slots1 + 0 ≤ 0 + ms := z2; omega
    rcases ht with ⟨ht, -⟩ | ht
    · cases ht
    · refine vx_ret (W.widen (k := mc) (n := ms) c1 s1 ?_)
      exact q_leave C hret hlocks ht F1 (fun v hv t htH _ => ⟨v, rfl, _, ho, x, rfl, hv, F1.2.2.1, by rw [htH]; exact F1.2.2.2.1⟩)
  · obtain ⟨hlo1, hst1, hE1, hG1, hlc1⟩ := F1
    have c1 : cells1 + 1 ≤ mc := by have z3 : cells1 + 1 ≤ 0 + mc := z1; omega
    have s1 : slots1 + 6 ≤ ms := by have z3 : slots1 + 6 ≤ 0 + ms := z2; omega
    rcases ht with ⟨ht, -⟩ | ht
    · cases ht
    · have ht : s_step k pc lo st E1 h1 = some (.inr (.inr (1, ret0))) := ht
      obtain ⟨g1, g2⟩ := q_newE ht
      obtain ⟨n9, is, text, t1, t2, t3, t4, t5, t6⟩ := q_tsC hk g2 g1
      obtain ⟨sa, hsa⟩ := hK.2.2.2.2.1 _ t1
      have hq0 : ∀ q : Nat, q < Hb.size → ¬ Hb.size ≤ q → s.heap[q]? = Hb[q]? := fun q hq _ => by rw [hH]; exact hG0.1 q hq
      have hst2 : (vs1.map fun v => v.category).sum ≤ 8 := by
        rw [show (vs1.map fun v => v.category).sum = s_cats st from hst1.cats]
        exact he8
      rw [hcl] at hown
      refine q_throw (own := "SkirtsByTheDay") (cls := q_nse) (Y0 := "java/lang/RuntimeException") (rr := ["java/lang/Exception"]) (ik := 119) (is := is) (ic := 123) (i1 := 13) (by1 := q_b13) (A := fun q => Hb.size ≤ q) C.1 C.2.1 hfl (by decide +kernel) (by decide +kernel) (by decide +kernel) (by decide +kernel) hown (by decide) (by decide) (by decide)
        (hts _ q_own_k) (hts _ q_own_i) hsa (q_hat hts hK.2.2.2) (List.all_eq_true.mp q_own_o) (hK.2.2.2.2.2.1.kept hq0) (hK.2.2.2.2.2.2.kept hq0) (fun q hq1 hq2 => ?_) (by rw [hml]; exact hlo1.1) t2 t3 t4 t5 t6 (fun x hx => (htab x hx).elim)
        (by show 1 + 4 < D + 8; omega) (by show _ + (13 * (1 + 2) + 43) ≤ 80 * D + 400; omega) (by show cells1 + 1 ≤ mc; omega) (by show slots1 + 6 ≤ ms; omega) hlocks (fun t hA hz hq => ?_) hlc1 c1 s1
      · have hq3 : q < Hb.size := Nat.lt_of_not_le hq2
        rw [hG1.1 q hq3, hH, hG0.1 q hq3]
      · exact ⟨rfl, _, ho, x, rfl, hE1, hG1.grow hef hz hq⟩
end Throwers
end
-- 37.help.lean.txt
section
/-! The law's helpers: what their one call throws is caught. -/
noncomputable def q_hh (k : Nat) : List (Nat × Nat × Nat × Nat) := bif Nat.blt k 301 then [(0, 10, 13, 13)] else [(0, 9, 12, 13)]
noncomputable def q_wsH (k : Nat) : List Cond := Cond.codeWith (mY k) (mC k) (mL k) (mR k) (q_hh k) :: tb
/-- a method with a table of its own that returns -/
theorem q_ofWH {l : Launch} {y : MethodName} {ws ws' : List Cond} {rm : Room} {Pc : Array Value → State → Prop} {Qc : Array Value → State → Outcome → State → Prop} {mc ms : Nat} {free : Addr → Prop} {cc : ByteArray} {maxL : Nat} {ret : Option FieldType} {hh : List (Nat × Nat × Nat × Nat)}
    (hy : plainName y.cls = true) (hw : ws = Cond.codeWith y cc maxL ret hh :: ws')
    (body : ∀ p e s m args below meth c s₁, BodyLoose p l y (headSpec ws rm) cc maxL ret e s m args below meth c s₁ → c.maxLocals = maxL → Pc args s →
      W p l e (headSpec ws rm).room s m args below meth c s.heap [] 0 0 (MQ below Qc args s mc ms free) (entryFrame m args maxL)) : Met l y ws rm Pc Qc mc ms free := by
  refine MetFree.of_bodyS (code := cc) (maxLocals := maxL) (ret := ret) hy ?_ ?_
  · intro args s m h hn
    obtain ⟨m9, meth, c, hn9, h1, h2, h3, h4, -, h5, h6, -⟩ := Cond.codeWith_spec (atoms_spec (ws := ws) h _ (by rw [hw]; exact List.mem_cons_self))
    cases hn.symm.trans hn9
    exact ⟨meth, c, h1, h2, h3, h4, h5, h6⟩
  · intro p e s m args below meth c s₁ B hml hP _
    have hh0 : s₁.heap = s.heap := by rw [B.state]; rfl
    obtain ⟨t, a1, o, b1, b2, b3⟩ := body p e s m args below meth c s₁ B hml hP s₁ hh0 (Stand.of_body B)
    exact ⟨t, o, a1, b1, b2, ⟨b3.1, b3.2⟩⟩
noncomputable def c_H (k : Nat) : Bool := wAt (mW k).1 (.codeWith (mY k) (mC k) (mL k) (mR k) (q_hh k)) && wAt (mW k).2.1 (.initialized (mY k).cls) && plainName (mY k).cls && decide ((mY k).cls ≠ "java/lang/invoke/MethodHandle") && decide ((mY k).cls ≠ "java/lang/invoke/VarHandle") && decide ((parseMethodDescriptor (mY k).desc).map (fun d => d.parameters.length) = some (mP k)) && Nat.ble (mL k) 40 && decide (mR k = some .int) && decide ((mY k).cls = "SkirtsByTheDayLaw")
theorem c_H5 : c_H 299 = true := by decide +kernel
theorem c_H6 : c_H 300 = true := by decide +kernel
theorem c_H7 : c_H 301 = true := by decide +kernel
theorem c_H8 : c_H 302 = true := by decide +kernel
theorem q_goodH {k : Nat} (hc : Cond.codeWith (mY k) (mC k) (mL k) (mR k) (q_hh k) ∈ tb) : GoodIn tb (q_wsH k) := by
  intro w hw
  rcases List.mem_cons.mp hw with rfl | hw
  · exact ⟨hc, good_of_word (List.mem_filter.mp hc).2⟩
  · exact ⟨hw, good_of_word (List.mem_filter.mp hw).2⟩
theorem q_HW {k : Nat} (h : c_H k = true) : Cond.codeWith (mY k) (mC k) (mL k) (mR k) (q_hh k) ∈ tb ∧ Cond.initialized (mY k).cls ∈ tb ∧ plainName (mY k).cls = true ∧ (mY k).cls ≠ "java/lang/invoke/MethodHandle" ∧ (mY k).cls ≠ "java/lang/invoke/VarHandle" ∧ (parseMethodDescriptor (mY k).desc).map (fun d => d.parameters.length) = some (mP k) ∧ mL k ≤ 40 ∧ mR k = some .int ∧ (mY k).cls = "SkirtsByTheDayLaw" := by
  simp only [c_H, Bool.and_eq_true, decide_eq_true_eq] at h
  exact ⟨wAt_mem h.1.1.1.1.1.1.1.1, wAt_mem h.1.1.1.1.1.1.1.2, h.1.1.1.1.1.1.2, h.1.1.1.1.1.2, h.1.1.1.1.2, h.1.1.1.2, Nat.le_of_ble_eq_true h.1.1.2, h.1.2, h.2⟩
/-- where the call stands, where what it throws is caught -/
noncomputable def s_hpc (c : Nat) : Nat × Nat := bif Nat.blt c 301 then (5, 13) else (4, 12)
/-- behind the call -/
noncomputable def s_hout (X : sF → Nat → List sA → sE → sH → Option sZ) (dp : sF) (c nx : Nat) (lo : sL) (rs : List sA) (o : sO) : Option (List sO) := match o with
  | (0, some a, (_, _, _, E, h)) => (match s_run X dp c (fun _ => false) 20 (nx, lo, a :: rs, E, h) with
    | some (c, s, os) => bif Nat.beq c 0 && Nat.beq s 0 && os.all (fun o => Nat.beq o.1 0) then some os else none
    | none => none)
  | (1, _, (_, _, _, E, h)) => some [(0, some (.inl (s_num 1)), (0, [], [], E, h))]
  | _ => none
noncomputable def s_houts (X : sF → Nat → List sA → sE → sH → Option sZ) (dp : sF) (c nx : Nat) (lo : sL) (rs : List sA) : List sO → Option (List sO)
  | [] => some []
  | o :: r => match s_hout X dp c nx lo rs o with
    | none => none
    | some a => match s_houts X dp c nx lo rs r with
      | none => none
      | some b => some (a ++ b)
noncomputable def s_hrun (X : sF → Nat → List sA → sE → sH → Option sZ) (dp : sF) (c kc : Nat) (as : List sA) (E : sE) (h : sH) : Option sZ := match s_run X (s_sub dp (s_num 1)) c (fun f => Nat.beq f.1 (s_hpc c).1) 20 (0, s_args 0 as, [], E, h) with
  | some (c0, s0, [(e2, _, (pc, lo, st, E1, h1))]) => bif Nat.beq c0 0 && Nat.beq s0 0 && Nat.beq e2 2 && Nat.beq pc (s_hpc c).1 && s_gez E dp 2 then (match ins c pc with
    | some (.invokevirtual _, nx, k2, a2, _, _) => bif Nat.beq k2 kc then (match s_take (a2 + 1) [] st with
      | some (as2, rs) => bif Nat.ble (s_cats rs) 8 && s_rcv kc as2 h1 && Nat.ble (s_cats as2) (mL kc) then (match s_run X (s_sub dp (s_num 2)) kc (fun _ => false) 4000 (0, s_args 0 as2, [], E1, h1) with
        | some (mc, ms, os) => bif os.all (fun o => (Nat.beq o.1 0 || (Nat.beq o.1 1 && Nat.ble (s_cats o.2.2.2.2.1) 8)) && !(o.2.2.2.2.2.1.1) && s_pre h1 o.2.2.2.2.2.2) && s_pre h h1 then (match s_houts X (s_sub dp (s_num 1)) c nx lo rs os with
          | some os2 => bif os2.all (fun o => s_pre h o.2.2.2.2.2.2) then some (mc, ms, os2) else none
          | none => none) else none
        | none => none) else none
      | none => none) else none
    | _ => none) else none
  | _ => none
end
-- 38.help2.lean.txt
section
section Help2
variable {l : Launch} {dC : Nat → ClassId} {dI : Nat → Nat → Nat} {dA : FieldType → ClassId} {Hb : Heap} {ad : Nat → Nat}
theorem s_houtsS {X : sF → Nat → List sA → sE → sH → Option sZ} {dp : sF} {c nx : Nat} {lo : sL} {rs : List sA} : ∀ {os os2 : List sO}, s_houts X dp c nx lo rs os = some os2 → ∀ o ∈ os, ∃ a, s_hout X dp c nx lo rs o = some a ∧ ∀ x ∈ a, x ∈ os2
  | [], _, _, o, ho => nomatch ho
  | o0 :: os, os2, h, o, ho => by
    unfold s_houts at h
    split at h
    · cases h
    · rename_i a ha
      split at h
      · cases h
      · rename_i b hb
        cases h
        rcases List.mem_cons.mp ho with rfl | ho
        · exact ⟨a, ha, fun x hx => List.mem_append_left _ hx⟩
        · obtain ⟨a2, h1, h2⟩ := s_houtsS hb o ho
          exact ⟨a2, h1, fun x hx => List.mem_append_right _ (h2 x hx)⟩
/-- the end of a helper that caught: 1 -/
noncomputable def q_HD (c : Nat) : Prop := (c < 301 ∧ mL c = 5 ∧ decode (mC c) 13 = .ok (.astore 4, 2) ∧ decode (mC c) 15 = .ok (.iconst 1, 1) ∧ decode (mC c) 16 = .ok (.ireturn, 1)) ∨ (301 ≤ c ∧ mL c = 4 ∧ decode (mC c) 12 = .ok (.astore_n 3, 1) ∧ decode (mC c) 13 = .ok (.iconst 1, 1) ∧ decode (mC c) 14 = .ok (.ireturn, 1))
theorem q_hd5 : q_HD 299 := Or.inl ⟨by decide, by decide +kernel, by decide +kernel, by decide +kernel, by decide +kernel⟩
theorem q_hd6 : q_HD 300 := Or.inl ⟨by decide, by decide +kernel, by decide +kernel, by decide +kernel, by decide +kernel⟩
theorem q_hd7 : q_HD 301 := Or.inr ⟨by decide, by decide +kernel, by decide +kernel, by decide +kernel, by decide +kernel⟩
theorem q_hd8 : q_HD 302 := Or.inr ⟨by decide, by decide +kernel, by decide +kernel, by decide +kernel, by decide +kernel⟩
noncomputable def q_HK (c kc : Nat) : Prop := c_H c = true ∧ q_HD c ∧ 299 ≤ c ∧ c < 303 ∧ (kc = 117 ∨ kc = 118 ∨ kc = 130 ∨ kc = 162)
theorem q_hk {c kc : Nat} (h : p_hlp c = some kc) : q_HK c kc := by
  unfold p_hlp at h
  cases h5 : Nat.beq c 299 with
  | true =>
    rw [h5] at h
    cases h
    have e := Nat.eq_of_beq_eq_true h5
    subst e
    exact ⟨c_H5, q_hd5, by omega, by omega, by omega⟩
  | false =>
    rw [h5] at h
    simp only [cond_false] at h
    cases h6 : Nat.beq c 300 with
    | true =>
      rw [h6] at h
      cases h
      have e := Nat.eq_of_beq_eq_true h6
      subst e
      exact ⟨c_H6, q_hd6, by omega, by omega, by omega⟩
    | false =>
      rw [h6] at h
      simp only [cond_false] at h
      cases h7 : Nat.beq c 301 with
      | true =>
        rw [h7] at h
        cases h
        have e := Nat.eq_of_beq_eq_true h7
        subst e
        exact ⟨c_H7, q_hd7, by omega, by omega, by omega⟩
      | false =>
        rw [h7] at h
        simp only [cond_false] at h
        cases h8 : Nat.beq c 302 with
        | true =>
          rw [h8] at h
          cases h
          have e := Nat.eq_of_beq_eq_true h8
          subst e
          exact ⟨c_H8, q_hd8, by omega, by omega, by omega⟩
        | false => rw [h8] at h; cases h
set_option maxHeartbeats 8000000 in
theorem q_metH {X : sF → Nat → List sA → sE → sH → Option sZ} {dp : sF} {rv : List Int} {K c kc mc ms : Nat} {as : List sA} {E : sE} {h : sH} {os : List sO} (hfl : l.stackTraces = false) (hh : q_HK c kc) (hX : ∀ (D : Nat) (d : sF), D < K → q_XOK l dC dI dA Hb ad D d X) (hr : s_hrun X dp c kc as E h = some (mc, ms, os)) (hv : s_val rv dp = some (K : Int)) (hcat : s_cats as ≤ mL c) {H : Heap} {vs : List Value} (hL : q_L rv ad as vs) (hE : q_E rv E) (hG : q_G dC dI dA rv ad Hb H E h H) :
    2 ≤ K ∧ Met l (mY c) (q_wsH c) (q_rm (K - 1) mc ms) (q_Pc dC dI dA Hb H vs) (q_Qc dC dI dA rv ad Hb H os) mc ms (fun q => Hb.size ≤ q) := by
  obtain ⟨hH, hD, hc1, hc2, hkc⟩ := hh
  obtain ⟨w1, w2, w3, w4, w5, w6, w7, w8, w9⟩ := q_HW hH
  unfold s_hrun at hr
  split at hr
  · rename_i c0 s0 e2 r2 pc lo st E1 h1 hr1
    obtain ⟨hb1, hs1⟩ := q_bif hr
    clear hr
    rw [Bool.and_eq_true, Bool.and_eq_true, Bool.and_eq_true, Bool.and_eq_true] at hb1
    obtain ⟨⟨⟨⟨b1, b2⟩, b3⟩, b4⟩, b5⟩ := hb1
    have e1 := Nat.eq_of_beq_eq_true b1
    have e2' := Nat.eq_of_beq_eq_true b2
    have e3 := Nat.eq_of_beq_eq_true b3
    have e4 := Nat.eq_of_beq_eq_true b4
    subst e1
    subst e2'
    subst e3
    have hK2 : 2 ≤ (K : Int) := s_gezS hE b5 hv
    refine ⟨by omega, ?_⟩
    split at hs1
    · rename_i xi nx k2 a2 a3 z hi
      obtain ⟨hb2, hs2⟩ := q_bif hs1
      clear hs1
      have ek := (Nat.eq_of_beq_eq_true hb2).symm
      subst ek
      split at hs2
      · rename_i as2 rs htk
        obtain ⟨hb3, hs3⟩ := q_bif hs2
        clear hs2
        rw [Bool.and_eq_true, Bool.and_eq_true] at hb3
        obtain ⟨⟨b6, b7⟩, b8⟩ := hb3
        split at hs3
        · rename_i mc1 ms1 os1 hr2
          obtain ⟨hb4, hs4⟩ := q_bif hs3
          clear hs3
          rw [Bool.and_eq_true] at hb4
          split at hs4
          · rename_i os2 hho
            obtain ⟨hb5, hs5⟩ := q_bif hs4
            clear hs4
            cases hs5
            have hos1 : ∀ o ∈ os1, ((o.1 = 0 ∨ (o.1 = 1 ∧ s_cats o.2.2.2.2.1 ≤ 8)) ∧ o.2.2.2.2.2.1.1 = false) ∧ s_pre h1 o.2.2.2.2.2.2 = true := fun o ho => by
              have := List.all_eq_true.mp hb4.1 o ho
              rw [Bool.and_eq_true, Bool.and_eq_true, Bool.or_eq_true, Bool.and_eq_true] at this
              obtain ⟨⟨t1, t2⟩, t3⟩ := this
              refine ⟨⟨?_, by simpa using t2⟩, t3⟩
              rcases t1 with t1 | ⟨t1, t1'⟩
              · exact Or.inl (Nat.eq_of_beq_eq_true t1)
              · exact Or.inr ⟨Nat.eq_of_beq_eq_true t1, Nat.le_of_ble_eq_true t1'⟩
            have hv1 : s_val rv (s_sub dp (s_num 1)) = some ((K - 1 : Nat) : Int) := by
              rw [s_subS hv (s_numS 1)]
              congr 1
              omega
            have hv2 : s_val rv (s_sub dp (s_num 2)) = some ((K - 2 : Nat) : Int) := by
              rw [s_subS hv (s_numS 2)]
              congr 1
              omega
            refine q_ofWH (cc := mC c) (maxL := mL c) (ret := mR c) (hh := q_hh c) w3 rfl ?_
            intro p e s m args below meth cd s₁ B hml hv0
            obtain ⟨rfl, hK, hHe⟩ := hv0
            have hts0 := atoms_spec (ws := q_wsH c) B.pre
            have hts : ∀ w ∈ tb, w.before vs.toArray s = true := fun w hw => hts0 w (List.mem_cons_of_mem _ hw)
            have hown : s.vm.findClass (mY c).cls = some m.cls := findClass_of_methodNamed B.named
            have hlocks := B.notSynchronized
            have hret : meth.sig.returnType = mR c := B.returns
            have hnm : meth.name = (mY c).name := (name_of_methodNamed B.named B.method).1
            have htab : cd.exceptionTable.toList = tableOf (q_hh c) := vx_table (x := mY c) B (hts _ w1)
            have C : q_Ctx p (q_rm (K - 1) mc ms) s m vs.toArray meth cd dC dI dA Hb c := ⟨B.exec, B.bytes, hml, hown, hts, hK, fun q => hnm.trans q, by show 8 ≤ K - 1 + 8; omega, by show 400 ≤ 80 * (K - 1) + 400; omega⟩
            have hl := lv_entry vs (n := mL c) (by rw [q_slN, hL.cats]; exact hcat)
            rw [lg_entry_eq]
            generalize (lg_sl vs ++ List.replicate (mL c - (lg_sl vs).length) Slot.unset).toArray = ls at hl ⊢
            have hlo : q_Lo rv ad (s_args 0 as) ls (mL c) := ⟨hl.1, hl.2.1, fun q hq => by
              obtain ⟨v, g1, g2⟩ := q_argsL 0 hL q hq
              exact ⟨v, hl.2.2 _ g1, g2⟩⟩
            show W p l e (q_rm (K - 1) mc ms) s m vs.toArray below meth cd s.heap [] 0 0 _ _
            rw [hHe]
            refine q_run C (hX (K - 1) _ (by omega)) (Nat.le_refl _) (Nat.le_refl _) 20 _ 0 0 _ rv hr1 hv1 ls [] H [] 0 0 ⟨hlo, rfl, hE, hG, fun q hq => nomatch hq⟩ (Nat.zero_le _) (Nat.zero_le _) (fun o ho ht x ls1 vs1 H1 locs1 cells1 slots1 F1 z1 z2 => ?_)
            have eo := List.mem_singleton.mp ho
            subst eo
            dsimp only at F1 z1 z2 ⊢
            have c1 : cells1 = 0 := by have z3 : cells1 + 0 ≤ 0 + 0 := z1; omega
            have s1 : slots1 = 0 := by have z3 : slots1 + 0 ≤ 0 + 0 := z2; omega
            subst c1
            subst s1
            obtain ⟨hlo1, hst1, hE1, hG1, hlc1⟩ := F1
            have hG1s : q_G dC dI dA (rv ++ x) ad Hb H1 E1 h1 H1 := ⟨hG1.1, fun _ _ _ => rfl, ⟨Nat.le_refl _, hG1.2.2.1.2⟩, hG1.2.2.2⟩
            obtain ⟨en, hd⟩ := q_dec (n := 3) hi rfl
            have hc := (q_rowI hi).2.2.1
            simp only [c_I, nMth, q_bleF (show kc < 304 by rcases hkc with rfl | rfl | rfl | rfl <;> omega), Bool.false_or, Bool.and_eq_true] at hc
            have ea2 := Nat.eq_of_beq_eq_true hc.2
            obtain ⟨wv, vr, rfl, g1, g2, g3⟩ := s_takeS htk rfl hst1
            rw [List.append_nil] at g1
            have hrcv := b7
            unfold s_rcv at hrcv
            split at hrcv
            · rename_i q as3
              split at hrcv
              · rename_i ci fs hob
                have eci := Nat.eq_of_beq_eq_true hrcv
                obtain ⟨w, As, hrev, hw, hAs⟩ := g1
                have ew : w = .ref (ad q) := hw
                subst ew
                have hwv : wv = As.reverse ++ [.ref (ad q)] := by
                  have := congrArg List.reverse hrev
                  rw [List.reverse_reverse, List.reverse_cons] at this
                  exact this
                have hlenA : As.length = mP kc := by
                  have h9 := congrArg List.length hwv
                  rw [List.length_append, List.length_reverse, List.length_singleton, g3] at h9
                  omega
                have hq0 := hc.1.2
                unfold c_cls at hq0
                split at hq0
                · rename_i q0 hq1
                  have hq2 := of_decide_eq_true hq0
                  obtain ⟨-, -, us, w9', k1, k2', cell, k3, k4, k5, k6⟩ := q_obj hG1 hob
                  rw [eci] at k2' k4
                  cases Option.some.inj (hq1.symm.trans k2')
                  have hcl9 : s.vm.findClass (mY kc).cls = some cell.cls := by rw [← hq2, k4]; exact (hK.1.1 _ _ hq1).2.1
                  have hkc2 : kc < 303 := by rcases hkc with rfl | rfl | rfl | rfl <;> omega
                  have hkcp : c_plain kc = true := by rcases hkc with rfl | rfl | rfl | rfl <;> rfl
                  obtain ⟨v1', v2', v3', v4', v5', v6', v7'⟩ := q_MW (q_meth hkc2 hkcp)
                  have hM := q_metX (vs := .ref (ad q) :: As) hkc hfl (hX (K - 2) _ (by omega)) hr2 (s_val_mono x hv2) (Nat.le_of_ble_eq_true b8) hE1 (fun o ho => (hos1 o ho).1) ⟨_, _, rfl, rfl, hAs⟩ hG1s
                  have hroom : (q_rm (K - 2) mc ms).frames + 1 ≤ (q_rm (K - 1) mc ms).frames ∧ 8 + (mL kc + 11) + (q_rm (K - 2) mc ms).locals ≤ (q_rm (K - 1) mc ms).locals := ⟨by show K - 2 + 8 + 1 ≤ K - 1 + 8; omega, q_key0 (by show 80 * (K - 2) + 480 ≤ 80 * (K - 1) + 400; omega) _ v7'⟩
                  have hrun := vx_runV (p := p) (e := e) (R := q_rm (K - 1) mc ms) (below := below) (meth := meth) (locs := locs1) (cells := 0) (slots := 0) (g := F0 m pc ls1 (wv ++ vr)) (As := As) (rest := vr) (b := ad q) (C := (mY kc).cls) ⟨C.1, C.2.1, hml, hown, hts⟩ hM
                    ⟨callB_of (R := q_rm (K - 1) mc ms) (mP kc) hts (q_good v1') rfl rfl rfl (hts _ v2') (hts _ (wAt_mem hc.1.1.1.1.2)) ⟨v4', v5', v6'⟩ hroom, hts _ (wAt_mem hc.1.1.1.2), hts _ (wAt_mem hc.1.1.2)⟩
                    ⟨fun a U g mk q => ⟨q.1, q.2.1.calling, q.2.2⟩, ⟨cell, k3, by rw [k5]; rfl, hcl9⟩, fun U hU hW => ⟨rfl, hK.moved hW, hU⟩⟩ rfl hlenA hlo1.1 (by rw [hwv, List.append_assoc]; rfl) (lv_room (by rw [g2.cats]; exact Nat.le_of_ble_eq_true b6)) hd ⟨by rw [Nat.zero_add]; exact Nat.le_refl _, by rw [Nat.zero_add]; exact Nat.le_refl _⟩
                  intro T hT XT
                  rcases hrun T hT XT with ⟨v, st₀, t, T', L9, a0, X', hL9, a1, a2', hq, st9⟩ | ⟨q9, st₀, t, T', L9, E9, ce, a0, X', hL9, a1, a2', hXC, hce, hcv, hcl, st9⟩
                  · obtain ⟨v2, hv2', o, ho, x2, o1, o2, o3, o4⟩ := hq
                    cases hv2'
                    obtain ⟨a, ha, hin⟩ := s_houtsS hho o ho
                    have hpre := (hos1 o ho).2
                    obtain ⟨e0, ret0, pc0, lo0, st0, E0, h0⟩ := o
                    dsimp only at o1 o2 o3 o4 hpre
                    subst o1
                    have hGo := hG1.back hpre o4
                    cases ret0 with
                    | none => cases ha
                    | some ra =>
                      have ha : (match s_run X (s_sub dp (s_num 1)) c (fun _ => false) 20 (nx, lo, ra :: rs, E0, h0) with
                        | some (c, s, os) => bif Nat.beq c 0 && Nat.beq s 0 && os.all (fun o => Nat.beq o.1 0) then some os else none
                        | none => none) = some a := ha
                      split at ha
                      · rename_i c3 s3 os3 hr3
                        obtain ⟨hb6, ha⟩ := q_bif ha
                        cases ha
                        rw [Bool.and_eq_true, Bool.and_eq_true] at hb6
                        have e5 := Nat.eq_of_beq_eq_true hb6.1.1
                        have e6 := Nat.eq_of_beq_eq_true hb6.1.2
                        subst e5
                        subst e6
                        have F2 : q_Fr dC dI dA (rv ++ (x ++ x2)) ad Hb H (mL c) (nx, lo, ra :: rs, E0, h0) ls1 (v.toList ++ vr) t.heap (locs1 ++ L9) := by
                          rw [← List.append_assoc]
                          exact ⟨hlo1.mono x2, q_appL (a := some ra) o2 (g2.mono x2), o3, hGo, fun z hz => by
                            rcases List.mem_append.mp hz with hz | hz
                            · exact hlc1 z hz
                            · exact hL9 z hz⟩
                        have KW : W p l e (q_rm (K - 1) mc ms) s m vs.toArray below meth cd t.heap (locs1 ++ L9) (0 + mc) (0 + ms) (MQ below (q_Qc dC dI dA rv ad Hb H os) vs.toArray s mc ms (fun q => Hb.size ≤ q)) (F0 m nx ls1 (v.toList ++ vr)) := by
                          refine q_run C (hX (K - 1) _ (by omega)) (Nat.le_refl _) (Nat.le_refl _) 20 _ 0 0 _ (rv ++ (x ++ x2)) hr3 (s_val_mono _ hv1) ls1 _ t.heap _ (0 + mc) (0 + ms) F2 (by show 0 + mc + 0 ≤ mc; omega) (by show 0 + ms + 0 ≤ ms; omega) (fun o ho ht x3 ls3 vs3 H3 locs3 cells3 slots3 F3 z3 z4 => ?_)
                          have ho0 := Nat.eq_of_beq_eq_true (List.all_eq_true.mp hb6.2 o ho)
                          obtain ⟨e7, ret7, pc7, lo7, st7, E7, h7⟩ := o
                          dsimp only at ho0 F3 z3 z4 ⊢
                          subst ho0
                          rcases ht with ⟨ht, -⟩ | ht
                          · cases ht
                          · refine W.widen (k := mc) (n := ms) (by have z5 : cells3 + 0 ≤ 0 + mc + 0 := z3; omega) (by have z5 : slots3 + 0 ≤ 0 + ms + 0 := z4; omega) ?_
                            rw [List.append_assoc] at F3
                            exact q_leave C hret hlocks ht F3 (fun v hv t htH _ => ⟨v, rfl, _, hin _ ho, x ++ x2 ++ x3, rfl, hv, F3.2.2.1, by rw [htH]; exact F3.2.2.2.1⟩)
                        have en' : nx = pc + 3 := en
                        obtain ⟨t2, b9, c9⟩ := KW T' (by rw [a1]) X'
                        exact ⟨t2, st9 t2 (by rw [en'] at b9; exact b9), c9⟩
                      · cases ha
                  · obtain ⟨hE9, o, ho, x2, o1, o3, o4⟩ := hXC
                    subst hE9
                    obtain ⟨a, ha, hin⟩ := s_houtsS hho o ho
                    have hpre := (hos1 o ho).2
                    obtain ⟨e0, ret0, pc0, lo0, st0, E0, h0⟩ := o
                    dsimp only at o1 o3 o4 hpre
                    subst o1
                    have hGo := hG1.back hpre o4
                    have ea : a = [(0, some (.inl (s_num 1)), (0, [], [], E0, h0))] := (Option.some.inj ha).symm
                    have hmem : (0, some (.inl (s_num 1)), (0, [], [], E0, h0)) ∈ os := hin _ (by rw [ea]; exact List.mem_singleton.mpr rfl)
                    have fin : ∀ (pcx : Nat) (lsx : Array Slot), decode (mC c) pcx = .ok (.iconst 1, 1) → decode (mC c) (pcx + 1) = .ok (.ireturn, 1) → W p l e (q_rm (K - 1) mc ms) s m vs.toArray below meth cd T'.heap (locs1 ++ L9) (0 + mc) (0 + ms) (MQ below (q_Qc dC dI dA rv ad Hb H os) vs.toArray s mc ms (fun q => Hb.size ≤ q)) (F0 m pcx lsx []) := by
                      intro pcx lsx d1 d2
                      refine lv_iconst (v := 1) C.1 C.2.1 d1 rfl ?_
                      rw [Nat.zero_add, Nat.zero_add]
                      have hlx : ∀ z ∈ locs1 ++ L9, Hb.size ≤ z.base := fun z hz => by
                        rcases List.mem_append.mp hz with hz | hz
                        · exact hlc1 z hz
                        · exact hL9 z hz
                      have hend : ∀ t3 : State, t3.heap = T'.heap → q_End dC dI dA rv ad Hb H os (some (.int 1)) t3.heap := fun t3 ht3 => by
                        refine ⟨_, hmem, x ++ x2, rfl, ⟨_, rfl, 1, rfl, s_numS 1⟩, ?_, ?_⟩
                        · rw [← List.append_assoc]
                          exact o3
                        · rw [ht3, a1, ← List.append_assoc]
                          exact hGo
                      exact W.iret C.1 C.2.1 (hret.trans w8) (fun t3 ht3 hW => ⟨_, rfl, hend t3 ht3⟩) hlx d2
                    have hlink : ∀ en : ExceptionTableEntry, en.catchType = 13 → (Cond.classLink (mY c).cls en.catchType q_nse).before vs.toArray s = true := fun en hen => by rw [hen, w9]; exact hts _ q_own_c
                    rcases hD with ⟨d0, d1, d2, d3, d4⟩ | ⟨d0, d1, d2, d3, d4⟩
                    · have epc : pc = 5 := by rw [e4]; unfold s_hpc; rw [show Nat.blt c 301 = true from Nat.ble_eq_true_of_le d0]; rfl
                      have ehh : q_hh c = [(0, 10, 13, 13)] := by unfold q_hh; rw [show Nat.blt c 301 = true from Nat.ble_eq_true_of_le d0]; rfl
                      rw [ehh] at htab
                      have KX : vx_W p l e (q_rm (K - 1) mc ms) s m vs.toArray below meth cd T'.heap (locs1 ++ L9) (0 + mc) (0 + ms) (MQ below (q_Qc dC dI dA rv ad Hb H os) vs.toArray s mc ms (fun q => Hb.size ≤ q)) (F0 m pc ls1 vr) q9 :=
                        vx_catch (name := q_nse) hown [] { startPc := 0, endPc := 10, handlerPc := 13, catchType := 13 } [] htab (fun z hz => nomatch hz) (by rw [epc]; rfl) (by decide) (hlink _ rfl) (va_Nw.use rfl (hK.2.2.2.1 _ (by simp [q_xw]))) (by rw [a1]; exact hce) hcv hcl (by
                          refine lv_astore C.1 C.2.1 d2 hlo1.has (by rw [d1]; decide) rfl (fun ls' _ => ?_)
                          exact fin 15 ls' d3 d4)
                      obtain ⟨t2, a9, b9⟩ := KX T' rfl X'
                      exact ⟨t2, st9.trans a9, b9⟩
                    · have nb : Nat.blt c 301 = false := by
                        cases hb : Nat.blt c 301 with
                        | false => rfl
                        | true =>
                          have := Nat.le_of_ble_eq_true hb
                          omega
                      have epc : pc = 4 := by rw [e4]; unfold s_hpc; rw [nb]; rfl
                      have ehh : q_hh c = [(0, 9, 12, 13)] := by unfold q_hh; rw [nb]; rfl
                      rw [ehh] at htab
                      have KX : vx_W p l e (q_rm (K - 1) mc ms) s m vs.toArray below meth cd T'.heap (locs1 ++ L9) (0 + mc) (0 + ms) (MQ below (q_Qc dC dI dA rv ad Hb H os) vs.toArray s mc ms (fun q => Hb.size ≤ q)) (F0 m pc ls1 vr) q9 :=
                        vx_catch (name := q_nse) hown [] { startPc := 0, endPc := 9, handlerPc := 12, catchType := 13 } [] htab (fun z hz => nomatch hz) (by rw [epc]; rfl) (by decide) (hlink _ rfl) (va_Nw.use rfl (hK.2.2.2.1 _ (by simp [q_xw]))) (by rw [a1]; exact hce) hcv hcl (by
                          refine lv_astore_n C.1 C.2.1 d2 rfl hlo1.has (by rw [d1]; decide) rfl (fun ls' _ => ?_)
                          exact fin 13 ls' d3 d4)
                      obtain ⟨t2, a9, b9⟩ := KX T' rfl X'
                      exact ⟨t2, st9.trans a9, b9⟩
                · cases hq0
              · cases hrcv
            · cases hrcv
          · cases hs4
        · cases hs3
      · cases hs2
    · cases hs1
  · cases hr
end Help2
end
-- 39a.ztab.lean.txt
section
/-! The law's cells: what each is; the cells that an object's fields name. -/
/-- a row (type, length), a row of longs, a row of rows, an object (class) -/
noncomputable abbrev zK : Type := (FieldType × Nat) ⊕ (Nat ⊕ (List Nat ⊕ Nat))
noncomputable def zkd (c : Nat) : Option zK := bif Nat.blt c 110 then (bif Nat.blt c 55 then (bif Nat.blt c 27 then (bif Nat.blt c 13 then (bif Nat.blt c 6 then (bif Nat.blt c 3 then (bif Nat.blt c 1 then some (.inl (.int, 0)) else (bif Nat.blt c 2 then some (.inr (.inr (.inr 11))) else some (.inr (.inr (.inr 7))))) else (bif Nat.blt c 4 then some (.inl (.char, 80)) else (bif Nat.blt c 5 then some (.inr (.inr (.inr 0))) else some (.inl (.int, 104))))) else (bif Nat.blt c 9 then (bif Nat.blt c 7 then some (.inl (.int, 4)) else (bif Nat.blt c 8 then some (.inl (.int, 104)) else some (.inl (.int, 4)))) else (bif Nat.blt c 11 then (bif Nat.blt c 10 then some (.inr (.inr (.inr 5))) else some (.inl (.int, 40))) else (bif Nat.blt c 12 then some (.inl (.int, 40)) else some (.inl (.int, 40)))))) else (bif Nat.blt c 20 then (bif Nat.blt c 16 then (bif Nat.blt c 14 then some (.inl (.int, 40)) else (bif Nat.blt c 15 then some (.inl (.int, 40)) else some (.inl (.int, 40)))) else (bif Nat.blt c 18 then (bif Nat.blt c 17 then some (.inl (.int, 40)) else some (.inr (.inr (.inr 3)))) else (bif Nat.blt c 19 then some (.inl (.int, 6)) else some (.inl (.int, 6))))) else (bif Nat.blt c 23 then (bif Nat.blt c 21 then some (.inl (.int, 6)) else (bif Nat.blt c 22 then some (.inl (.int, 8)) else some (.inl (.int, 8)))) else (bif Nat.blt c 25 then (bif Nat.blt c 24 then some (.inl (.int, 8)) else some (.inl (.int, 3))) else (bif Nat.blt c 26 then some (.inr (.inr (.inr 1))) else some (.inl (.int, 20))))))) else (bif Nat.blt c 41 then (bif Nat.blt c 34 then (bif Nat.blt c 30 then (bif Nat.blt c 28 then some (.inl (.int, 23247)) else (bif Nat.blt c 29 then some (.inr (.inr (.inr 2))) else some (.inr (.inr (.inl [30, 31, 32, 33, 34, 35, 36, 37, 38, 39, 40, 41, 42]))))) else (bif Nat.blt c 32 then (bif Nat.blt c 31 then some (.inl (.int, 59)) else some (.inl (.int, 59))) else (bif Nat.blt c 33 then some (.inl (.int, 59)) else some (.inl (.int, 59))))) else (bif Nat.blt c 37 then (bif Nat.blt c 35 then some (.inl (.int, 59)) else (bif Nat.blt c 36 then some (.inl (.int, 59)) else some (.inl (.int, 59)))) else (bif Nat.blt c 39 then (bif Nat.blt c 38 then some (.inl (.int, 59)) else some (.inl (.int, 59))) else (bif Nat.blt c 40 then some (.inl (.int, 59)) else some (.inl (.int, 59)))))) else (bif Nat.blt c 48 then (bif Nat.blt c 44 then (bif Nat.blt c 42 then some (.inl (.int, 59)) else (bif Nat.blt c 43 then some (.inl (.int, 59)) else some (.inr (.inr (.inl [44, 45]))))) else (bif Nat.blt c 46 then (bif Nat.blt c 45 then some (.inl (.int, 59)) else some (.inl (.int, 59))) else (bif Nat.blt c 47 then some (.inl (.int, 2)) else some (.inl (.int, 2))))) else (bif Nat.blt c 51 then (bif Nat.blt c 49 then some (.inr (.inr (.inr 10))) else (bif Nat.blt c 50 then some (.inl (.int, 30)) else some (.inl (.int, 30)))) else (bif Nat.blt c 53 then (bif Nat.blt c 52 then some (.inl (.int, 30)) else some (.inr (.inr (.inr 8)))) else (bif Nat.blt c 54 then some (.inl (.int, 60)) else some (.inl (.int, 109)))))))) else (bif Nat.blt c 82 then (bif Nat.blt c 68 then (bif Nat.blt c 61 then (bif Nat.blt c 58 then (bif Nat.blt c 56 then some (.inl (.int, 10)) else (bif Nat.blt c 57 then some (.inl (.int, 10)) else some (.inl (.int, 256)))) else (bif Nat.blt c 59 then some (.inl (.int, 26)) else (bif Nat.blt c 60 then some (.inr (.inr (.inr 6))) else some (.inl (.int, 12))))) else (bif Nat.blt c 64 then (bif Nat.blt c 62 then some (.inl (.int, 12)) else (bif Nat.blt c 63 then some (.inl (.int, 12)) else some (.inl (.int, 12)))) else (bif Nat.blt c 66 then (bif Nat.blt c 65 then some (.inr (.inr (.inr 9))) else some (.inl (.int, 7))) else (bif Nat.blt c 67 then some (.inl (.int, 7)) else some (.inl (.int, 7)))))) else (bif Nat.blt c 75 then (bif Nat.blt c 71 then (bif Nat.blt c 69 then some (.inl (.int, 7)) else (bif Nat.blt c 70 then some (.inl (.int, 3)) else some (.inl (.int, 128)))) else (bif Nat.blt c 73 then (bif Nat.blt c 72 then some (.inl (.boolean, 128)) else some (.inr (.inr (.inr 4)))) else (bif Nat.blt c 74 then some (.inl (.int, 26)) else some (.inr (.inr (.inr 12)))))) else (bif Nat.blt c 78 then (bif Nat.blt c 76 then some (.inl (.int, 59)) else (bif Nat.blt c 77 then some (.inl (.int, 104)) else some (.inl (.int, 4)))) else (bif Nat.blt c 80 then (bif Nat.blt c 79 then some (.inl (.int, 6)) else some (.inl (.int, 3))) else (bif Nat.blt c 81 then some (.inl (.byte, 80)) else some (.inl (.int, 32))))))) else (bif Nat.blt c 96 then (bif Nat.blt c 89 then (bif Nat.blt c 85 then (bif Nat.blt c 83 then some (.inl (.int, 104)) else (bif Nat.blt c 84 then some (.inl (.int, 4)) else some (.inl (.int, 12)))) else (bif Nat.blt c 87 then (bif Nat.blt c 86 then some (.inl (.int, 16)) else some (.inl (.byte, 40))) else (bif Nat.blt c 88 then some (.inl (.int, 708)) else some (.inl (.int, 59))))) else (bif Nat.blt c 92 then (bif Nat.blt c 90 then some (.inl (.int, 240)) else (bif Nat.blt c 91 then some (.inl (.int, 20)) else some (.inl (.int, 59)))) else (bif Nat.blt c 94 then (bif Nat.blt c 93 then some (.inl (.int, 100)) else some (.inr (.inl 210))) else (bif Nat.blt c 95 then some (.inl (.int, 48)) else some (.inl (.int, 6)))))) else (bif Nat.blt c 103 then (bif Nat.blt c 99 then (bif Nat.blt c 97 then some (.inl (.int, 6)) else (bif Nat.blt c 98 then some (.inl (.int, 26)) else some (.inl (.int, 26)))) else (bif Nat.blt c 101 then (bif Nat.blt c 100 then some (.inl (.int, 48)) else some (.inl (.int, 14))) else (bif Nat.blt c 102 then some (.inl (.int, 7)) else some (.inl (.int, 7))))) else (bif Nat.blt c 106 then (bif Nat.blt c 104 then some (.inl (.int, 3)) else (bif Nat.blt c 105 then some (.inl (.int, 7)) else some (.inl (.int, 7)))) else (bif Nat.blt c 108 then (bif Nat.blt c 107 then some (.inl (.int, 118)) else some (.inl (.boolean, 2))) else (bif Nat.blt c 109 then some (.inl (.int, 2)) else some (.inr (.inl 1))))))))) else none
/-- fields: 0: a number; 999: the reference's read; else the cell that it names -/
noncomputable def zfs (c : Nat) : List Nat := bif Nat.blt c 110 then (bif Nat.blt c 55 then (bif Nat.blt c 27 then (bif Nat.blt c 13 then (bif Nat.blt c 6 then (bif Nat.blt c 3 then (bif Nat.blt c 1 then [] else (bif Nat.blt c 2 then [2, 4, 9, 17, 25, 28, 48, 52, 59, 64, 72] else [3, 0, 0, 0])) else (bif Nat.blt c 4 then [] else (bif Nat.blt c 5 then [5, 6, 7, 8, 0] else []))) else (bif Nat.blt c 9 then (bif Nat.blt c 7 then [] else (bif Nat.blt c 8 then [] else [])) else (bif Nat.blt c 11 then (bif Nat.blt c 10 then [10, 11, 12, 13, 0, 14, 15, 16, 0] else []) else (bif Nat.blt c 12 then [] else [])))) else (bif Nat.blt c 20 then (bif Nat.blt c 16 then (bif Nat.blt c 14 then [] else (bif Nat.blt c 15 then [] else [])) else (bif Nat.blt c 18 then (bif Nat.blt c 17 then [] else [0, 0, 18, 19, 20, 21, 22, 23, 24, 25, 0, 0, 0, 0, 0]) else (bif Nat.blt c 19 then [] else []))) else (bif Nat.blt c 23 then (bif Nat.blt c 21 then [] else (bif Nat.blt c 22 then [] else [])) else (bif Nat.blt c 25 then (bif Nat.blt c 24 then [] else []) else (bif Nat.blt c 26 then [26, 27, 0, 0, 0] else []))))) else (bif Nat.blt c 41 then (bif Nat.blt c 34 then (bif Nat.blt c 30 then (bif Nat.blt c 28 then [] else (bif Nat.blt c 29 then [29, 43, 46, 47, 0, 0] else [])) else (bif Nat.blt c 32 then (bif Nat.blt c 31 then [] else []) else (bif Nat.blt c 33 then [] else []))) else (bif Nat.blt c 37 then (bif Nat.blt c 35 then [] else (bif Nat.blt c 36 then [] else [])) else (bif Nat.blt c 39 then (bif Nat.blt c 38 then [] else []) else (bif Nat.blt c 40 then [] else [])))) else (bif Nat.blt c 48 then (bif Nat.blt c 44 then (bif Nat.blt c 42 then [] else (bif Nat.blt c 43 then [] else [])) else (bif Nat.blt c 46 then (bif Nat.blt c 45 then [] else []) else (bif Nat.blt c 47 then [] else []))) else (bif Nat.blt c 51 then (bif Nat.blt c 49 then [49, 50, 51] else (bif Nat.blt c 50 then [] else [])) else (bif Nat.blt c 53 then (bif Nat.blt c 52 then [] else [53, 0, 54, 55, 56, 0, 0, 57, 58]) else (bif Nat.blt c 54 then [] else [])))))) else (bif Nat.blt c 82 then (bif Nat.blt c 68 then (bif Nat.blt c 61 then (bif Nat.blt c 58 then (bif Nat.blt c 56 then [] else (bif Nat.blt c 57 then [] else [])) else (bif Nat.blt c 59 then [] else (bif Nat.blt c 60 then [60, 61, 62, 63, 0] else []))) else (bif Nat.blt c 64 then (bif Nat.blt c 62 then [] else (bif Nat.blt c 63 then [] else [])) else (bif Nat.blt c 66 then (bif Nat.blt c 65 then [65, 66, 0, 67, 68, 69, 70, 71] else []) else (bif Nat.blt c 67 then [] else [])))) else (bif Nat.blt c 75 then (bif Nat.blt c 71 then (bif Nat.blt c 69 then [] else (bif Nat.blt c 70 then [] else [])) else (bif Nat.blt c 73 then (bif Nat.blt c 72 then [] else [73, 0]) else (bif Nat.blt c 74 then [] else [75, 0, 76, 77, 0, 78, 0, 79, 80, 0, 81, 0, 0, 999, 0, 0, 0, 0, 82, 83, 84, 85, 0, 0, 86, 0, 0, 0, 0, 0, 0, 0, 0, 0, 87, 0, 88, 89, 0, 0, 90, 91, 92, 93, 94, 95, 96, 0, 97, 0, 98, 99, 0, 100, 0, 101, 102, 0, 103, 104, 105, 0, 0, 106, 107, 108]))) else (bif Nat.blt c 78 then (bif Nat.blt c 76 then [] else (bif Nat.blt c 77 then [] else [])) else (bif Nat.blt c 80 then (bif Nat.blt c 79 then [] else []) else (bif Nat.blt c 81 then [] else []))))) else (bif Nat.blt c 96 then (bif Nat.blt c 89 then (bif Nat.blt c 85 then (bif Nat.blt c 83 then [] else (bif Nat.blt c 84 then [] else [])) else (bif Nat.blt c 87 then (bif Nat.blt c 86 then [] else []) else (bif Nat.blt c 88 then [] else []))) else (bif Nat.blt c 92 then (bif Nat.blt c 90 then [] else (bif Nat.blt c 91 then [] else [])) else (bif Nat.blt c 94 then (bif Nat.blt c 93 then [] else []) else (bif Nat.blt c 95 then [] else [])))) else (bif Nat.blt c 103 then (bif Nat.blt c 99 then (bif Nat.blt c 97 then [] else (bif Nat.blt c 98 then [] else [])) else (bif Nat.blt c 101 then (bif Nat.blt c 100 then [] else []) else (bif Nat.blt c 102 then [] else []))) else (bif Nat.blt c 106 then (bif Nat.blt c 104 then [] else (bif Nat.blt c 105 then [] else [])) else (bif Nat.blt c 108 then (bif Nat.blt c 107 then [] else []) else (bif Nat.blt c 109 then [] else []))))))) else []
end
-- 39b.zmach.lean.txt
section
/-! Z: the exact machine. Ints are numbers (any that means the same), rows and fields of numbers lie in one table. -/
noncomputable abbrev zA : Type := Int ⊕ (Option Nat ⊕ Int)
noncomputable abbrev zM : Type := Nat → Nat → Int
noncomputable abbrev zL : Type := List (Nat × zA)
noncomputable abbrev zG : Type := Nat × zL × List zA × zM
/-- a number as an int has it, as a long has it -/
noncomputable def z_sm (a : Int) : Bool := match a with
  | .ofNat n => Nat.blt n 2147483648
  | .negSucc n => Nat.blt n 2147483648
noncomputable def z_sl (a : Int) : Bool := match a with
  | .ofNat n => Nat.blt n 9223372036854775808
  | .negSucc n => Nat.blt n 9223372036854775808
noncomputable def wr0 (a : Int) : Int := (a + 2147483648) % 4294967296 - 2147483648
noncomputable def wl0 (a : Int) : Int := (a + 9223372036854775808) % 18446744073709551616 - 9223372036854775808
noncomputable def wr (a : Int) : Int := bif z_sm a then a else wr0 a
noncomputable def wl (a : Int) : Int := bif z_sl a then a else wl0 a
theorem z_smS {a : Int} (h : z_sm a = true) : -2147483648 ≤ a ∧ a ≤ 2147483647 := by
  rcases a with n | n
  · have h1 : n < 2147483648 := q_blt h
    refine ⟨?_, ?_⟩
    · exact Int.le_trans (by decide) (Int.natCast_nonneg n)
    · exact Int.ofNat_le.mpr (Nat.le_of_lt_succ h1)
  · have h1 : n < 2147483648 := q_blt h
    rw [Int.negSucc_eq]
    omega
theorem z_slS {a : Int} (h : z_sl a = true) : -9223372036854775808 ≤ a ∧ a ≤ 9223372036854775807 := by
  rcases a with n | n
  · have h1 : n < 9223372036854775808 := q_blt h
    refine ⟨?_, ?_⟩
    · exact Int.le_trans (by decide) (Int.natCast_nonneg n)
    · exact Int.ofNat_le.mpr (Nat.le_of_lt_succ h1)
  · have h1 : n < 9223372036854775808 := q_blt h
    rw [Int.negSucc_eq]
    omega
theorem wr_def (a : Int) : wr a = (a + 2147483648) % 4294967296 - 2147483648 := by
  unfold wr
  cases h : z_sm a with
  | false =>
    rw [cond_false]
    unfold wr0
    rfl
  | true =>
    rw [cond_true]
    have := z_smS h
    omega
theorem wl_def (a : Int) : wl a = (a + 9223372036854775808) % 18446744073709551616 - 9223372036854775808 := by
  unfold wl
  cases h : z_sl a with
  | false =>
    rw [cond_false]
    unfold wl0
    rfl
  | true =>
    rw [cond_true]
    have := z_slS h
    omega
/-- one slot anew; a piece of a row copied -/
noncomputable def zu (m : zM) (q i : Nat) (v : Int) : zM := fun c j => bif Nat.beq c q && Nat.beq j i then v else m c j
noncomputable def z_cp (m : zM) (q0 q1 sp dp n : Nat) : zM := fun c j => bif Nat.beq c q1 && (Nat.ble dp j && Nat.blt j (dp + n)) then m q0 (sp + (j - dp)) else m c j
noncomputable def z_cat (a : zA) : Nat := match a with
  | .inr (.inr _) => 2
  | _ => 1
noncomputable def z_tag (a : zA) : Nat := match a with
  | .inl _ => 0
  | .inr (.inl _) => 1
  | .inr (.inr _) => 2
noncomputable def z_cats (st : List zA) : Nat := (st.map z_cat).sum
noncomputable def z_lget : zL → Nat → Option zA
  | [], _ => none
  | q :: r, i => bif Nat.beq q.1 i then some q.2 else z_lget r i
noncomputable def z_ins (i : Nat) (a : zA) : zL → zL
  | [] => [(i, a)]
  | q :: r => bif Nat.blt i q.1 then (i, a) :: q :: r else q :: z_ins i a r
noncomputable def z_lset (lo : zL) (i : Nat) (a : zA) : zL := z_ins i a (lo.filter (fun q => !(Nat.beq q.1 i) && !(Nat.beq (q.1 + 1) i && Nat.beq (z_cat q.2) 2)))
noncomputable def z_lset2 (lo : zL) (i : Nat) (a : zA) : zL := z_ins i a (lo.filter (fun q => !(Nat.beq q.1 i) && (!(Nat.beq q.1 (i + 1)) && !(Nat.beq (q.1 + 1) i && Nat.beq (z_cat q.2) 2))))
noncomputable def z_keep (ks : List Nat) (lo : zL) : zL := lo.filter (fun q => ks.any (Nat.beq q.1))
/-- bits -/
noncomputable def z_and (a b : Int) : Int := (Int32.ofInt a &&& Int32.ofInt b).toInt
noncomputable def z_or (a b : Int) : Int := (Int32.ofInt a ||| Int32.ofInt b).toInt
noncomputable def z_xor (a b : Int) : Int := (Int32.ofInt a ^^^ Int32.ofInt b).toInt
noncomputable def z_shl (a b : Int) : Int := (Int32.ofInt a <<< (Int32.ofInt b &&& 31)).toInt
noncomputable def z_shr (a b : Int) : Int := (Int32.ofInt a >>> (Int32.ofInt b &&& 31)).toInt
noncomputable def z_ush (a b : Int) : Int := ((Int32.ofInt a).toUInt32 >>> ((Int32.ofInt b).toUInt32 &&& Int32.toUInt32 31)).toInt32.toInt
noncomputable def z_b8 (a : Int) : Int := (a + 128) % 256 - 128
noncomputable def z_s16 (a : Int) : Int := (a + 32768) % 65536 - 32768
noncomputable def z_lc (a b : Int) : Int := if wl b < wl a then 1 else if wl a = wl b then 0 else -1
/-- the reference's read -/
noncomputable def z_rd (z : Int) : Option Nat := if z = 80 then some 80 else if z = 86 then some 86 else none
noncomputable def z_ci (q : Nat) : Nat := match zkd q with
  | some (.inr (.inr (.inr ci))) => ci
  | _ => 99
noncomputable def z_fk (q k : Nat) : Nat := match (zfs q)[k]? with
  | some f => f
  | none => 998
noncomputable def z_fv (m : zM) (q k : Nat) : zA := bif Nat.beq (z_fk q k) 0 then .inl (m q k) else bif Nat.beq (z_fk q k) 999 then .inr (.inl (z_rd (m q k))) else .inr (.inl (some (z_fk q k)))
/-- a row's type and length; the script's length lies in 110 -/
noncomputable def z_rw (m : zM) (q : Nat) : Option (FieldType × Int) := bif Nat.beq q 0 then some (.int, m 110 0) else match zkd q with
  | some (.inl (ty, n)) => some (ty, (n : Int))
  | _ => none
noncomputable def z_lr (q : Nat) : Option Int := match zkd q with
  | some (.inr (.inl n)) => some (n : Int)
  | _ => none
noncomputable def z_rr (q : Nat) : Option (List Nat) := match zkd q with
  | some (.inr (.inr (.inl cs))) => some cs
  | _ => none
noncomputable def z_ln (m : zM) (q : Nat) : Option Int := match z_rw m q with
  | some (_, n) => some n
  | none => match z_lr q with
    | some n => some n
    | none => match z_rr q with
      | some cs => some (cs.length : Int)
      | none => none
noncomputable def z_ix (i n : Int) : Prop := 0 ≤ wr i ∧ wr i < n
noncomputable def z_tst (c : ClassFile.Cond) (x y : Int) : Prop := match c with
  | .eq => x = y
  | .ne => ¬ x = y
  | .lt => x < y
  | .ge => ¬ x < y
  | .gt => y < x
  | .le => ¬ y < x
noncomputable def z_tab (w : Int) (pc : Nat) (G : Nat → Prop) (d : Int) : Int → List Int → Prop
  | _, [] => G ((pc : Int) + d).toNat
  | z, o :: os => (w = z → G ((pc : Int) + o).toNat) ∧ (¬ w = z → z_tab w pc G d (z + 1) os)
noncomputable def z_look (w : Int) (pc : Nat) (G : Nat → Prop) (d : Int) : List (Int × Int) → Prop
  | [] => G ((pc : Int) + d).toNat
  | q :: r => (w = q.1 → G ((pc : Int) + q.2).toNat) ∧ (¬ w = q.1 → z_look w pc G d r)
noncomputable def z_sp (w : Int) (G : Nat → Prop) : Int → List Nat → Prop
  | _, [] => True
  | z, c :: r => (w = z → G c) ∧ z_sp w G (z + 1) r
noncomputable def z_take : Nat → List zA → List zA → Option (List zA × List zA)
  | 0, acc, st => some (acc, st)
  | _ + 1, _, [] => none
  | n + 1, acc, a :: st => z_take n (a :: acc) st
/-- what a row of the type keeps as it is -/
noncomputable def z_fit (ty : FieldType) (v : Int) : Prop := match ty with
  | .int => True
  | .byte => -128 ≤ wr v ∧ wr v ≤ 127
  | .boolean => 0 ≤ wr v ∧ wr v ≤ 1
  | .char => 0 ≤ wr v ∧ wr v ≤ 65535
  | _ => False
noncomputable def z_ld (lo : zL) (n t : Nat) (G : zA → Prop) : Prop := match z_lget lo n with
  | some a => bif Nat.beq (z_tag a) t then G a else False
  | none => False
noncomputable def z_st (st : List zA) (n t L : Nat) (G : zA → List zA → Prop) : Prop := match st with
  | a :: r => bif Nat.beq (z_tag a) t && Nat.blt (bif Nat.beq t 2 then n + 1 else n) L then G a r else False
  | [] => False
noncomputable def z_o2 (st : List zA) (G : Int → Int → List zA → Prop) : Prop := match st with
  | .inl b :: .inl a :: r => G a b r
  | _ => False
noncomputable def z_o1 (st : List zA) (G : Int → List zA → Prop) : Prop := match st with
  | .inl a :: r => G a r
  | _ => False
noncomputable def z_l2 (st : List zA) (G : Int → Int → List zA → Prop) : Prop := match st with
  | .inr (.inr b) :: .inr (.inr a) :: r => G a b r
  | _ => False
/-- a read out of a row, a store into one -/
noncomputable def z_rdR (m : zM) (st : List zA) (kind : Nat) (G : Int → List zA → Prop) : Prop := match st with
  | .inl i :: .inr (.inl (some q)) :: r => (match z_rw m q with
    | some (ty, n) => bif p_is ty kind then z_ix i n ∧ G (m q (wr i).toNat) r else False
    | none => False)
  | _ => False
noncomputable def z_wrR (m : zM) (st : List zA) (kind : Nat) (G : zM → List zA → Prop) : Prop := match st with
  | .inl v :: .inl i :: .inr (.inl (some q)) :: r => bif Nat.beq q 0 then False else (match z_rw m q with
    | some (ty, n) => bif p_is ty kind then (z_ix i n ∧ z_fit ty v) ∧ G (zu m q (wr i).toNat v) r else False
    | none => False)
  | _ => False
noncomputable def z_copy (m : zM) (st : List zA) (G : zM → List zA → Prop) : Prop := match st with
  | .inl n :: .inl dp :: .inr (.inl (some q1)) :: .inl sp :: .inr (.inl (some q0)) :: r => bif Nat.beq q0 q1 || (Nat.beq q0 0 || (Nat.beq q1 0 || !(Nat.ble (z_cats r) 8))) then False else (match z_rw m q0 with
    | some (t0, n0) => match z_rw m q1 with
      | some (t1, n1) => bif p_is t0 0 && p_is t1 0 then (0 ≤ wr sp ∧ 0 ≤ wr dp ∧ 0 ≤ wr n ∧ wr sp + wr n ≤ n0 ∧ wr dp + wr n ≤ n1) ∧ G (z_cp m q0 q1 (wr sp).toNat (wr dp).toNat (wr n).toNat) r else False
      | none => False
    | none => False)
  | _ => False
/-- a field -/
noncomputable def z_gf (m : zM) (q k : Nat) (G : zA → Prop) : Prop := bif Nat.beq (z_fk q k) 999 then (m q k = 80 ∨ m q k = 86) ∧ (m q k = 80 → G (.inr (.inl (some 80)))) ∧ (m q k = 86 → G (.inr (.inl (some 86)))) else G (z_fv m q k)
noncomputable def z_ffit (ty : FieldType) (v : Int) : Prop := match ty with
  | .int => True
  | .boolean => 0 ≤ wr v ∧ wr v ≤ 1
  | _ => False
noncomputable def z_isA (ty : FieldType) : Bool := match ty with
  | .array _ => true
  | _ => false
noncomputable def z_pf (m : zM) (q ci k : Nat) (v : zA) (G : zM → Prop) : Prop := bif Nat.beq (z_fk q k) 0 then (match v with
    | .inl a => z_ffit (tyOf ci k) a ∧ G (zu m q k a)
    | _ => False) else bif Nat.beq (z_fk q k) 999 then (match v with
    | .inr (.inl (some w)) => bif (Nat.beq w 80 || Nat.beq w 86) && z_isA (tyOf ci k) then G (zu m q k (w : Int)) else False
    | _ => False) else False
noncomputable def z_inv (a1 a2 : Nat) (rc : Bool) (st : List zA) (C : List zA → List zA → Prop) : Prop := match z_take (bif rc then a2 + 1 else a2) [] st with
  | some (as, rs) => bif Nat.ble (z_cats rs) 8 && Nat.blt a1 304 then C as rs else False
  | none => False
noncomputable def z_rcv (a1 : Nat) (as : List zA) (P : Prop) : Prop := match as with
  | .inr (.inl (some q)) :: _ => bif Nat.beq (z_ci q) (mcl a1) then P else False
  | _ => False
noncomputable def z_ret (k : Nat) (v : Int) (P : Prop) : Prop := match mR k with
  | some .int => P
  | some .boolean => (0 ≤ wr v ∧ wr v ≤ 1) ∧ P
  | _ => False
/-- one step: G behind it, C at a call (method, what it takes, behind it), R at an answer, T at a throw -/
noncomputable def z_one (k : Nat) (G : zG → Prop) (C : Nat → List zA → zG → Prop) (R : Option zA → zM → Prop) (T : zM → Prop) (pc : Nat) (lo : zL) (st : List zA) (m : zM) : Prop := match ins k pc with
  | none => False
  | some (i, nx, a1, a2, _, z) => match i with
    | .iconst c => G (nx, lo, .inl c :: st, m)
    | .bipush c => bif s_le (-128) c && s_le c 127 then G (nx, lo, .inl c :: st, m) else False
    | .sipush c => bif s_le (-32768) c && s_le c 32767 then G (nx, lo, .inl c :: st, m) else False
    | .ldc _ => bif Nat.beq a1 0 then G (nx, lo, .inl z :: st, m) else False
    | .ldc_w _ => bif Nat.beq a1 0 then G (nx, lo, .inl z :: st, m) else False
    | .ldc2_w _ => bif Nat.beq a1 0 && Nat.beq nx (pc + 3) then G (nx, lo, .inr (.inr z) :: st, m) else False
    | .lconst c => G (nx, lo, .inr (.inr ((c.val : Nat) : Int)) :: st, m)
    | .iload_n n => z_ld lo n.val 0 (fun a => G (nx, lo, a :: st, m))
    | .iload n => z_ld lo n 0 (fun a => G (nx, lo, a :: st, m))
    | .aload_n n => z_ld lo n.val 1 (fun a => G (nx, lo, a :: st, m))
    | .aload n => z_ld lo n 1 (fun a => G (nx, lo, a :: st, m))
    | .lload_n n => z_ld lo n.val 2 (fun a => G (nx, lo, a :: st, m))
    | .lload n => bif Nat.beq nx (pc + 2) then z_ld lo n 2 (fun a => G (nx, lo, a :: st, m)) else False
    | .istore_n n => z_st st n.val 0 (mL k) (fun a r => G (nx, z_lset lo n.val a, r, m))
    | .istore n => z_st st n 0 (mL k) (fun a r => G (nx, z_lset lo n a, r, m))
    | .astore_n n => z_st st n.val 1 (mL k) (fun a r => G (nx, z_lset lo n.val a, r, m))
    | .astore n => z_st st n 1 (mL k) (fun a r => G (nx, z_lset lo n a, r, m))
    | .lstore_n n => z_st st n.val 2 (mL k) (fun a r => G (nx, z_lset2 lo n.val a, r, m))
    | .lstore n => bif Nat.beq nx (pc + 2) then z_st st n 2 (mL k) (fun a r => G (nx, z_lset2 lo n a, r, m)) else False
    | .iinc n c => bif Nat.blt n (mL k) then (match z_lget lo n with
      | some (.inl v) => G (nx, z_lset lo n (.inl (v + c)), st, m)
      | _ => False) else False
    | .iadd => z_o2 st (fun a b r => G (nx, lo, .inl (a + b) :: r, m))
    | .isub => z_o2 st (fun a b r => G (nx, lo, .inl (a - b) :: r, m))
    | .imul => z_o2 st (fun a b r => G (nx, lo, .inl (a * b) :: r, m))
    | .iand => z_o2 st (fun a b r => G (nx, lo, .inl (z_and a b) :: r, m))
    | .ior => z_o2 st (fun a b r => G (nx, lo, .inl (z_or a b) :: r, m))
    | .ixor => z_o2 st (fun a b r => G (nx, lo, .inl (z_xor a b) :: r, m))
    | .ishl => z_o2 st (fun a b r => G (nx, lo, .inl (z_shl a b) :: r, m))
    | .ishr => z_o2 st (fun a b r => G (nx, lo, .inl (z_shr a b) :: r, m))
    | .iushr => z_o2 st (fun a b r => G (nx, lo, .inl (z_ush a b) :: r, m))
    | .idiv => z_o2 st (fun a b r => ¬ wr b = 0 ∧ G (nx, lo, .inl (Int.tdiv (wr a) (wr b)) :: r, m))
    | .irem => z_o2 st (fun a b r => ¬ wr b = 0 ∧ G (nx, lo, .inl (Int.tmod (wr a) (wr b)) :: r, m))
    | .ineg => z_o1 st (fun a r => G (nx, lo, .inl (-a) :: r, m))
    | .i2b => z_o1 st (fun a r => G (nx, lo, .inl (z_b8 a) :: r, m))
    | .i2s => z_o1 st (fun a r => G (nx, lo, .inl (z_s16 a) :: r, m))
    | .i2c => z_o1 st (fun a r => G (nx, lo, .inl (a % 65536) :: r, m))
    | .i2l => z_o1 st (fun a r => G (nx, lo, .inr (.inr (wr a)) :: r, m))
    | .l2i => match st with
      | .inr (.inr a) :: r => G (nx, lo, .inl (wl a) :: r, m)
      | _ => False
    | .ladd => z_l2 st (fun a b r => G (nx, lo, .inr (.inr (a + b)) :: r, m))
    | .lmul => z_l2 st (fun a b r => G (nx, lo, .inr (.inr (a * b)) :: r, m))
    | .ldiv => z_l2 st (fun a b r => ¬ wl b = 0 ∧ G (nx, lo, .inr (.inr (Int.tdiv (wl a) (wl b))) :: r, m))
    | .lrem => z_l2 st (fun a b r => ¬ wl b = 0 ∧ G (nx, lo, .inr (.inr (Int.tmod (wl a) (wl b))) :: r, m))
    | .lcmp => z_l2 st (fun a b r => G (nx, lo, .inl (z_lc a b) :: r, m))
    | .ifCond c _ => z_o1 st (fun a r => (z_tst c (wr a) 0 → G (a1, lo, r, m)) ∧ (¬ z_tst c (wr a) 0 → G (nx, lo, r, m)))
    | .if_icmp c _ => z_o2 st (fun a b r => (z_tst c (wr a) (wr b) → G (a1, lo, r, m)) ∧ (¬ z_tst c (wr a) (wr b) → G (nx, lo, r, m)))
    | .goto _ => G (a1, lo, st, m)
    | .tableswitch d low high os => bif decide (high - low + 1 = (os.size : Int)) then z_o1 st (fun a r => z_tab (wr a) pc (fun t => G (t, lo, r, m)) d low os.toList) else False
    | .lookupswitch d ps => bif (ps.toList.zip (ps.toList.drop 1)).all (fun q => decide (q.1.1 < q.2.1)) && ps.toList.all (fun q => s_le 0 ((pc : Int) + q.2)) && s_le 0 ((pc : Int) + d) then z_o1 st (fun a r => z_look (wr a) pc (fun t => G (t, lo, r, m)) d ps.toList) else False
    | .dup => match st with
      | a :: r => bif Nat.beq (z_cat a) 1 then G (nx, lo, a :: a :: r, m) else False
      | _ => False
    | .pop => match st with
      | a :: r => bif Nat.beq (z_cat a) 1 then G (nx, lo, r, m) else False
      | _ => False
    | .dup_x1 => match st with
      | a :: b :: r => bif Nat.beq (z_cat a) 1 && Nat.beq (z_cat b) 1 then G (nx, lo, a :: b :: a :: r, m) else False
      | _ => False
    | .dup2 => match st with
      | a :: b :: r => bif Nat.beq (z_cat a) 1 && Nat.beq (z_cat b) 1 then G (nx, lo, a :: b :: a :: b :: r, m) else False
      | _ => False
    | .getfield _ => match st with
      | .inr (.inl (some q)) :: r => bif Nat.beq (z_ci q) a1 then z_gf m q a2 (fun v => G (nx, lo, v :: r, m)) else False
      | _ => False
    | .putfield _ => match st with
      | v :: .inr (.inl (some q)) :: r => bif Nat.beq (z_ci q) a1 then z_pf m q a1 a2 v (fun m1 => G (nx, lo, r, m1)) else False
      | _ => False
    | .iaload => z_rdR m st 0 (fun v r => G (nx, lo, .inl v :: r, m))
    | .baload => z_rdR m st 1 (fun v r => G (nx, lo, .inl v :: r, m))
    | .caload => z_rdR m st 2 (fun v r => G (nx, lo, .inl v :: r, m))
    | .iastore => z_wrR m st 0 (fun m1 r => G (nx, lo, r, m1))
    | .bastore => z_wrR m st 1 (fun m1 r => G (nx, lo, r, m1))
    | .castore => z_wrR m st 2 (fun m1 r => G (nx, lo, r, m1))
    | .laload => match st with
      | .inl i :: .inr (.inl (some q)) :: r => (match z_lr q with
        | some n => z_ix i n ∧ G (nx, lo, .inr (.inr (m q (wr i).toNat)) :: r, m)
        | none => False)
      | _ => False
    | .lastore => match st with
      | .inr (.inr v) :: .inl i :: .inr (.inl (some q)) :: r => (match z_lr q with
        | some n => z_ix i n ∧ G (nx, lo, r, zu m q (wr i).toNat v)
        | none => False)
      | _ => False
    | .aaload => match st with
      | .inl i :: .inr (.inl (some q)) :: r => (match z_rr q with
        | some cs => z_ix i (cs.length : Int) ∧ z_sp (wr i) (fun c => G (nx, lo, .inr (.inl (some c)) :: r, m)) 0 cs
        | none => False)
      | _ => False
    | .arraylength => match st with
      | .inr (.inl (some q)) :: r => (match z_ln m q with
        | some n => G (nx, lo, .inl n :: r, m)
        | none => False)
      | _ => False
    | .invokestatic _ => bif Nat.beq a1 901 then z_copy m st (fun m1 r => G (nx, lo, r, m1)) else z_inv a1 a2 false st (fun as rs => C a1 as (nx, lo, rs, m))
    | .invokevirtual _ => z_inv a1 a2 true st (fun as rs => z_rcv a1 as (C a1 as (nx, lo, rs, m)))
    | .ireturn => match st with
      | [.inl v] => z_ret k v (R (some (.inl (wr v))) m)
      | _ => False
    | .lreturn => match st with
      | [.inr (.inr v)] => (match mR k with
        | some .long => R (some (.inr (.inr v))) m
        | _ => False)
      | _ => False
    | .return_ => match st with
      | [] => (match mR k with
        | none => R none m
        | _ => False)
      | _ => False
    | .new _ => bif Nat.beq a1 99 && Nat.ble (z_cats st) 8 then T m else False
    | _ => False
noncomputable def z_stop : List (Nat × List Nat) → zG → Option zG
  | [], _ => none
  | s :: r, g => bif Nat.beq s.1 g.1 then some (g.1, z_keep s.2 g.2.1, g.2.2.1, g.2.2.2) else z_stop r g
/-- a block: at most n steps, up to the places of stp, where only some locals are kept -/
noncomputable def z_blk (stp : List (Nat × List Nat)) (k : Nat) (G : zG → Prop) (C : Nat → List zA → zG → Prop) (R : Option zA → zM → Prop) (T : zM → Prop) : Nat → zG → Prop
  | 0, g => G g
  | n + 1, g => z_one k (fun g1 => match z_stop stp g1 with
    | some g2 => G g2
    | none => z_blk stp k G C R T n g1) C R T g.1 g.2.1 g.2.2.1 g.2.2.2
end
-- 39c.zrel.lean.txt
section
/-! What Z's words mean of the true machine. -/
theorem wrE (a : Int) : (Int32.ofInt a).toInt = wr a := by
  have e : (Int32.ofInt a).toInt = Int.bmod a 4294967296 := Int32.toInt_ofInt
  have b := Int.bmod_def a 4294967296
  simp only [wr_def]
  rw [e, b]
  split <;> omega
theorem wlE (a : Int) : (Int64.ofInt a).toInt = wl a := by
  have e : (Int64.ofInt a).toInt = Int.bmod a 18446744073709551616 := Int64.toInt_ofInt
  have b := Int.bmod_def a 18446744073709551616
  simp only [wl_def]
  rw [e, b]
  split <;> omega
theorem wr_id {a : Int} (h1 : -2147483648 ≤ a) (h2 : a ≤ 2147483647) : wr a = a := by
  simp only [wr_def]
  omega
theorem wrB (a : Int) : -2147483648 ≤ wr a ∧ wr a ≤ 2147483647 := by
  simp only [wr_def]
  omega
theorem z_eq32 {x y : Int32} (h : x.toInt = y.toInt) : x = y := Int32.toInt_inj.mp h
theorem z_eqS {a b : Int} : (Int32.ofInt a = Int32.ofInt b) ↔ wr a = wr b := by
  rw [← Int32.toInt_inj, wrE, wrE]
theorem z_ltS {a b : Int} : (Int32.ofInt a < Int32.ofInt b) ↔ wr a < wr b := by
  rw [Int32.lt_iff_toInt_lt, wrE, wrE]
theorem z_cmpS (c : ClassFile.Cond) (a b : Int) : q_holds c (Int32.ofInt a) (Int32.ofInt b) ↔ z_tst c (wr a) (wr b) := by
  cases c
  · exact z_eqS
  · exact not_congr z_eqS
  · exact z_ltS
  · exact not_congr z_ltS
  · exact z_ltS
  · exact not_congr z_ltS
theorem z_ofN {x : Int32} : Int32.ofInt x.toInt = x := Int32.ofInt_toInt x
theorem z_bip {c : Int} (h1 : -128 ≤ c) (h2 : c ≤ 127) : (Int8.ofInt c).toInt32 = Int32.ofInt c := by
  refine z_eq32 ?_
  rw [Int8.toInt_toInt32, Int8.toInt_ofInt_of_le (by omega) (by omega), Int32.toInt_ofInt_of_le (by omega) (by omega)]
theorem z_sip {c : Int} (h1 : -32768 ≤ c) (h2 : c ≤ 32767) : (Int16.ofInt c).toInt32 = Int32.ofInt c := by
  refine z_eq32 ?_
  rw [Int16.toInt_toInt32, Int16.toInt_ofInt_of_le (by omega) (by omega), Int32.toInt_ofInt_of_le (by omega) (by omega)]
theorem z_divS (a b : Int) : Int32.ofInt a / Int32.ofInt b = Int32.ofInt (Int.tdiv (wr a) (wr b)) := by
  refine z_eq32 ?_
  have e : (Int32.ofInt (Int.tdiv (wr a) (wr b))).toInt = Int.bmod (Int.tdiv (wr a) (wr b)) 4294967296 := Int32.toInt_ofInt
  rw [Int32.toInt_div, wrE, wrE, e]
theorem z_remS (a b : Int) : Int32.ofInt a - Int32.ofInt a / Int32.ofInt b * Int32.ofInt b = Int32.ofInt (Int.tmod (wr a) (wr b)) := by
  refine z_eq32 ?_
  have e : (Int32.ofInt (Int.tmod (wr a) (wr b))).toInt = Int.bmod (Int.tmod (wr a) (wr b)) 4294967296 := Int32.toInt_ofInt
  have e2 : (Int32.ofInt a - Int32.ofInt a / Int32.ofInt b * Int32.ofInt b).toInt = Int.bmod (wr a - Int.bmod (Int.bmod (Int.tdiv (wr a) (wr b)) 4294967296 * wr b) 4294967296) 4294967296 := by
    rw [Int32.toInt_sub, Int32.toInt_mul, Int32.toInt_div, wrE, wrE]
  rw [e, e2, Int.bmod_mul_bmod, Int.sub_bmod_bmod, Int.tmod_def, Int.mul_comm]
theorem z_ldivS (a b : Int) : Int64.ofInt a / Int64.ofInt b = Int64.ofInt (Int.tdiv (wl a) (wl b)) := by
  refine Int64.toInt_inj.mp ?_
  have e : (Int64.ofInt (Int.tdiv (wl a) (wl b))).toInt = Int.bmod (Int.tdiv (wl a) (wl b)) 18446744073709551616 := Int64.toInt_ofInt
  rw [Int64.toInt_div, wlE, wlE, e]
theorem z_lremS (a b : Int) : Int64.ofInt a - Int64.ofInt a / Int64.ofInt b * Int64.ofInt b = Int64.ofInt (Int.tmod (wl a) (wl b)) := by
  refine Int64.toInt_inj.mp ?_
  have e : (Int64.ofInt (Int.tmod (wl a) (wl b))).toInt = Int.bmod (Int.tmod (wl a) (wl b)) 18446744073709551616 := Int64.toInt_ofInt
  have e2 : (Int64.ofInt a - Int64.ofInt a / Int64.ofInt b * Int64.ofInt b).toInt = Int.bmod (wl a - Int.bmod (Int.bmod (Int.tdiv (wl a) (wl b)) 18446744073709551616 * wl b) 18446744073709551616) 18446744073709551616 := by
    rw [Int64.toInt_sub, Int64.toInt_mul, Int64.toInt_div, wlE, wlE]
  rw [e, e2, Int.bmod_mul_bmod, Int.sub_bmod_bmod, Int.tmod_def, Int.mul_comm]
theorem z_neS {b : Int} (h : ¬ wr b = 0) : ¬ Int32.ofInt b = 0 := fun q => h (by rw [← wrE, q]; rfl)
theorem z_lneS {b : Int} (h : ¬ wl b = 0) : ¬ Int64.ofInt b = 0 := fun q => h (by rw [← wlE, q]; rfl)
theorem z_i2b (a : Int) : (Int32.ofInt a).toInt8.toInt32 = Int32.ofInt (z_b8 a) := by
  refine z_eq32 ?_
  have e : ((Int32.ofInt a).toInt8.toInt32).toInt = Int.bmod (wr a) 256 := by
    rw [Int8.toInt_toInt32, Int32.toInt_toInt8, wrE]
  have b := Int.bmod_def (wr a) 256
  rw [e, b, wrE]
  unfold z_b8
  simp only [wr_def]
  split <;> omega
theorem z_i2s (a : Int) : (Int32.ofInt a).toInt16.toInt32 = Int32.ofInt (z_s16 a) := by
  refine z_eq32 ?_
  have e : ((Int32.ofInt a).toInt16.toInt32).toInt = Int.bmod (wr a) 65536 := by
    rw [Int16.toInt_toInt32, Int32.toInt_toInt16, wrE]
  have b := Int.bmod_def (wr a) 65536
  rw [e, b, wrE]
  unfold z_s16
  simp only [wr_def]
  split <;> omega
theorem z_natS (a : Int) : ((Int32.ofInt a).toBitVec.toNat : Int) = a % 4294967296 := by
  have e : (Int32.ofInt a).toBitVec.toNat = (a % 4294967296).toNat := BitVec.toNat_ofInt a
  rw [e]
  omega
theorem z_i2c (a : Int) : ((Int32.ofInt a).toUInt32 % 65536).toInt32 = Int32.ofInt (a % 65536) := by
  refine z_eq32 ?_
  have eN : (((Int32.ofInt a).toUInt32 % 65536).toInt32).toBitVec.toNat = (Int32.ofInt a).toBitVec.toNat % 65536 := by
    show ((Int32.ofInt a).toUInt32 % 65536).toBitVec.toNat = _
    rw [UInt32.toBitVec_mod, BitVec.toNat_umod]
    rfl
  have e := s_ofnat (z := ((Int32.ofInt a).toUInt32 % 65536).toInt32) (by rw [eN]; omega)
  rw [eN] at e
  have e2 := z_natS a
  rw [e, wrE]
  simp only [wr_def]
  omega
theorem z_i2l (a : Int) : (Int32.ofInt a).toInt64 = Int64.ofInt (wr a) := by
  rw [← wrE, Int64.ofInt_int32ToInt]
theorem z_l2i (a : Int) : (Int64.ofInt a).toInt32 = Int32.ofInt (wl a) := by
  rw [← wlE, Int32.ofInt_int64ToInt]
theorem z_lcS (a b : Int) : lg_cmp (Int64.ofInt a) (Int64.ofInt b) = Int32.ofInt (z_lc a b) := by
  unfold lg_cmp z_lc
  have h1 : (Int64.ofInt a > Int64.ofInt b) ↔ wl b < wl a := by
    show (Int64.ofInt b < Int64.ofInt a) ↔ _
    rw [Int64.lt_iff_toInt_lt, wlE, wlE]
  have h2 : (Int64.ofInt a = Int64.ofInt b) ↔ wl a = wl b := by
    rw [← Int64.toInt_inj, wlE, wlE]
  by_cases c1 : wl b < wl a
  · rw [if_pos (h1.mpr c1), if_pos c1]
    rfl
  · rw [if_neg (fun q => c1 (h1.mp q)), if_neg c1]
    by_cases c2 : wl a = wl b
    · rw [if_pos (h2.mpr c2), if_pos c2]
      rfl
    · rw [if_neg (fun q => c2 (h2.mp q)), if_neg c2]
      rfl
/-- an index -/
theorem z_ixS {i : Int} {n : Nat} (h : z_ix i (n : Int)) : vp_in (Int32.ofInt i) n ∧ (wr i).toNat < n ∧ (Int32.ofInt i).toNatClampNeg = (wr i).toNat := by
  obtain ⟨h1, h2⟩ := h
  refine ⟨vp_in_iff.mpr ?_, by omega, ?_⟩
  · rw [wrE]
    exact ⟨h1, h2⟩
  · show (Int32.ofInt i).toInt.toNat = _
    rw [wrE]
/-- a value -/
noncomputable def zv (ad : Nat → Nat) : zA → Value
  | .inl z => .int (Int32.ofInt z)
  | .inr (.inl o) => q_rf ad o
  | .inr (.inr z) => .long (Int64.ofInt z)
theorem z_catS (ad : Nat → Nat) (a : zA) : (zv ad a).category = z_cat a := by
  rcases a with z | o | z
  · rfl
  · rcases o with _ | o <;> rfl
  · rfl
theorem z_catsS (ad : Nat → Nat) : ∀ st : List zA, ((st.map (zv ad)).map fun v => v.category).sum = z_cats st
  | [] => rfl
  | a :: st => by
    have e := z_catsS ad st
    simp only [z_cats, List.map_cons, List.sum_cons] at e ⊢
    rw [e, z_catS]
noncomputable def z_lm (ad : Nat → Nat) (lo : zL) : List (Nat × Value) := lo.map (fun q => (q.1, zv ad q.2))
theorem z_lgetM : ∀ {lo : zL} {i : Nat} {a : zA}, z_lget lo i = some a → (i, a) ∈ lo
  | [], i, a, h => by cases h
  | q :: rr, i, a, h => by
    simp only [z_lget, cond_eq_ite] at h
    split at h
    · rename_i e
      cases h
      rw [← Nat.eq_of_beq_eq_true e]
      exact List.mem_cons_self
    · exact List.mem_cons_of_mem _ (z_lgetM h)
theorem z_lgetS {ad : Nat → Nat} {lo : zL} {ls : Array Slot} {n i : Nat} {a : zA} (h : lv_has ls n (z_lm ad lo)) (hi : z_lget lo i = some a) : ls[i]? = some (.val (zv ad a)) := h.2.2 (i, zv ad a) (List.mem_map.mpr ⟨_, z_lgetM hi, rfl⟩)
theorem z_insM {i : Nat} {a : zA} : ∀ {lo : zL} {q : Nat × zA}, q ∈ z_ins i a lo → q = (i, a) ∨ q ∈ lo
  | [], q, h => Or.inl (List.mem_singleton.mp h)
  | x :: r, q, h => by
    unfold z_ins at h
    cases hb : Nat.blt i x.1 with
    | true =>
      rw [hb] at h
      exact List.mem_cons.mp h
    | false =>
      rw [hb] at h
      rcases List.mem_cons.mp h with h | h
      · exact Or.inr (h ▸ List.mem_cons_self)
      · rcases z_insM h with h | h
        · exact Or.inl h
        · exact Or.inr (List.mem_cons_of_mem _ h)
theorem z_lsetS {ad : Nat → Nat} {lo : zL} {ls : Array Slot} {n i : Nat} {a : zA} (h : lv_has ls n ((i, zv ad a) :: (z_lm ad lo).filter (fun q => !(q.1 == i) && !(q.1 + 1 == i && q.2.category == 2)))) : lv_has ls n (z_lm ad (z_lset lo i a)) := by
  refine ⟨h.1, h.2.1, fun q hq => ?_⟩
  obtain ⟨q0, h0, rfl⟩ := List.mem_map.mp hq
  rcases z_insM h0 with rfl | h1
  · exact h.2.2 _ List.mem_cons_self
  · obtain ⟨g1, g2⟩ := List.mem_filter.mp h1
    refine h.2.2 _ (List.mem_cons_of_mem _ (List.mem_filter.mpr ⟨List.mem_map.mpr ⟨q0, g1, rfl⟩, ?_⟩))
    show (!(q0.1 == i) && !(q0.1 + 1 == i && (zv ad q0.2).category == 2)) = true
    rw [z_catS, q_beqE, q_beqE, q_beqE]
    exact g2
theorem z_lset2S {ad : Nat → Nat} {lo : zL} {ls : Array Slot} {n i : Nat} {a : zA} (h : lv_has ls n ((i, zv ad a) :: (z_lm ad lo).filter (fun q => !(q.1 == i) && (!(q.1 == i + 1) && !(q.1 + 1 == i && q.2.category == 2))))) : lv_has ls n (z_lm ad (z_lset2 lo i a)) := by
  refine ⟨h.1, h.2.1, fun q hq => ?_⟩
  obtain ⟨q0, h0, rfl⟩ := List.mem_map.mp hq
  rcases z_insM h0 with rfl | h1
  · exact h.2.2 _ List.mem_cons_self
  · obtain ⟨g1, g2⟩ := List.mem_filter.mp h1
    refine h.2.2 _ (List.mem_cons_of_mem _ (List.mem_filter.mpr ⟨List.mem_map.mpr ⟨q0, g1, rfl⟩, ?_⟩))
    show (!(q0.1 == i) && (!(q0.1 == i + 1) && !(q0.1 + 1 == i && (zv ad q0.2).category == 2))) = true
    rw [z_catS, q_beqE, q_beqE, q_beqE, q_beqE]
    exact g2
theorem z_keepS {ad : Nat → Nat} {lo : zL} {ls : Array Slot} {n : Nat} (ks : List Nat) (h : lv_has ls n (z_lm ad lo)) : lv_has ls n (z_lm ad (z_keep ks lo)) := by
  refine ⟨h.1, h.2.1, fun q hq => ?_⟩
  obtain ⟨q0, h0, rfl⟩ := List.mem_map.mp hq
  exact h.2.2 _ (List.mem_map.mpr ⟨q0, (List.mem_filter.mp h0).1, rfl⟩)
/-- a cell -/
noncomputable def zC (dC : Nat → ClassId) (dI : Nat → Nat → Nat) (dA : FieldType → ClassId) (ad : Nat → Nat) (m : zM) (H : Heap) (c : Nat) : zK → Prop
  | .inl (ty, n) => H[ad c]? = some (vp_cell (dA ty) (n, .inl (fun j => Int32.ofInt (m c j)))) ∧ (ty = .int ∨ ty = .byte ∨ ty = .boolean ∨ ty = .char)
  | .inr (.inl n) => H[ad c]? = some (vp_cell (dA .long) (n, .inr (.inl (fun j => Int64.ofInt (m c j)))))
  | .inr (.inr (.inl cs)) => ∃ g : Nat → Option Nat, H[ad c]? = some (vp_cell (dA (.array .int)) (cs.length, .inr (.inr (.inr (.inr g))))) ∧ ∀ (j d : Nat), cs[j]? = some d → va_rf (g j) = .ref (ad d)
  | .inr (.inr (.inr ci)) => ∃ q : vw_C, vwCl[ci]? = some q ∧ t_OB (ad c) (dC ci) q.2.2 (dI ci) H (vp_V ((List.range q.2.2).map (fun k => zv ad (z_fv m c k))))
/-- the heap holds the table -/
noncomputable def zH (dC : Nat → ClassId) (dI : Nat → Nat → Nat) (dA : FieldType → ClassId) (Hb : Heap) (ad : Nat → Nat) (m : zM) (H : Heap) : Prop :=
  (∀ q : Nat, q < Hb.size → H[q]? = Hb[q]?) ∧ Hb.size ≤ H.size ∧
  ((ad 0 = dA .short ∧ ad 0 < Hb.size) ∧ ∃ scr : Cell, H[ad 0]? = some scr ∧ scr.vm ≠ .unknown ∧ ((scr.slots.size : Nat) : Int) = m 110 0 ∧ ∀ j : Nat, j < scr.slots.size → scr.slots[j]? = some (.int (Int32.ofInt (m 0 j)))) ∧
  (∀ (c : Nat) (κ : zK), c ≠ 0 → zkd c = some κ → Hb.size ≤ ad c ∧ zC dC dI dA ad m H c κ) ∧
  (∀ c d : Nat, (zkd c).isSome = true → (zkd d).isSome = true → ad c = ad d → c = d)
section ZHeap
variable {dC : Nat → ClassId} {dI : Nat → Nat → Nat} {dA : FieldType → ClassId} {Hb : Heap} {ad : Nat → Nat} {m m1 : zM} {H H1 : Heap}
theorem zC.kept {c : Nat} {κ : zK} (h : zC dC dI dA ad m H c κ) (e : H1[ad c]? = H[ad c]?) (em : m1 c = m c) : zC dC dI dA ad m1 H1 c κ := by
  rcases κ with ⟨ty, n⟩ | n | cs | ci
  · refine ⟨?_, h.2⟩
    rw [e, em]
    exact h.1
  · show H1[ad c]? = _
    rw [e, em]
    exact h
  · obtain ⟨g, g1, g2⟩ := h
    exact ⟨g, by rw [e]; exact g1, g2⟩
  · obtain ⟨q, g1, g2⟩ := h
    refine ⟨q, g1, ?_⟩
    have ef : (fun k => zv ad (z_fv m1 c k)) = (fun k => zv ad (z_fv m c k)) := by
      funext k
      unfold z_fv
      rw [em]
    rw [ef]
    exact g2.kept e
theorem z_k110 : zkd 110 = none := rfl
theorem zH.set {c : Nat} {κ : zK} (h : zH dC dI dA Hb ad m H) (hc : zkd c = some κ) (h0 : c ≠ 0) (hz : H1.size = H.size) (ho : ∀ q : Nat, q ≠ ad c → H1[q]? = H[q]?) (hm : ∀ d, d ≠ c → m1 d = m d) (hn : zC dC dI dA ad m1 H1 c κ) : zH dC dI dA Hb ad m1 H1 := by
  obtain ⟨g1, g2, ⟨g3, scr, s1, s2, s3, s4⟩, g4, g5⟩ := h
  have hb := (g4 c κ h0 hc).1
  have h110 : c ≠ 110 := fun e => by rw [e, z_k110] at hc; cases hc
  refine ⟨fun q hq => (ho q (by omega)).trans (g1 q hq), by omega, ⟨g3, scr, ?_, s2, ?_, ?_⟩, fun d κ2 hd0 hd => ?_, g5⟩
  · rw [ho _ (by omega)]
    exact s1
  · rw [hm 110 (fun e => h110 e.symm)]
    exact s3
  · rw [hm 0 (fun e => h0 e.symm)]
    exact s4
  · by_cases e : d = c
    · subst e
      cases Option.some.inj (hc.symm.trans hd)
      exact ⟨hb, hn⟩
    · obtain ⟨k1, k2⟩ := g4 d κ2 hd0 hd
      exact ⟨k1, k2.kept (ho _ (fun q => e (g5 d c (by rw [hd]; rfl) (by rw [hc]; rfl) q))) (hm d e)⟩
theorem zH.grow (h : zH dC dI dA Hb ad m H) (hz : H.size ≤ H1.size) (hq : ∀ q : Nat, q < H.size → H1[q]? = H[q]?) : zH dC dI dA Hb ad m H1 := by
  obtain ⟨g1, g2, ⟨g3, scr, s1, s2, s3, s4⟩, g4, g5⟩ := h
  refine ⟨fun q hq1 => (hq q (by omega)).trans (g1 q hq1), by omega, ⟨g3, scr, ?_, s2, s3, s4⟩, fun d κ2 hd0 hd => ?_, g5⟩
  · rw [hq _ (by omega)]
    exact s1
  · obtain ⟨k1, k2⟩ := g4 d κ2 hd0 hd
    refine ⟨k1, k2.kept (hq _ ?_) rfl⟩
    rcases κ2 with ⟨ty, n⟩ | n | cs | ci
    · exact (Array.getElem?_eq_some_iff.mp k2.1).1
    · exact (Array.getElem?_eq_some_iff.mp (show H[ad d]? = _ from k2)).1
    · obtain ⟨g, k3, -⟩ := k2
      exact (Array.getElem?_eq_some_iff.mp k3).1
    · obtain ⟨q, -, cell, k3, -⟩ := k2
      exact (Array.getElem?_eq_some_iff.mp k3).1
theorem zu_ne {q i d : Nat} {v : Int} (h : d ≠ q) : zu m q i v d = m d := by
  funext j
  show (bif Nat.beq d q && Nat.beq j i then v else m d j) = m d j
  rw [q_beqF h]
  rfl
theorem zu_at {q i : Nat} {v : Int} (j : Nat) : zu m q i v q j = if j = i then v else m q j := by
  show (bif Nat.beq q q && Nat.beq j i then v else m q j) = _
  rw [Nat.beq_refl]
  by_cases e : j = i
  · subst e
    rw [Nat.beq_refl, if_pos rfl]
    rfl
  · rw [q_beqF e, if_neg e]
    rfl
theorem z_cp_ne {q0 q1 sp dp n d : Nat} (h : d ≠ q1) : z_cp m q0 q1 sp dp n d = m d := by
  funext j
  show (bif Nat.beq d q1 && (Nat.ble dp j && Nat.blt j (dp + n)) then m q0 (sp + (j - dp)) else m d j) = m d j
  rw [q_beqF h]
  rfl
theorem z_cp_at {q0 q1 sp dp n : Nat} (j : Nat) : z_cp m q0 q1 sp dp n q1 j = if dp ≤ j ∧ j < dp + n then m q0 (sp + (j - dp)) else m q1 j := by
  show (bif Nat.beq q1 q1 && (Nat.ble dp j && Nat.blt j (dp + n)) then m q0 (sp + (j - dp)) else m q1 j) = _
  rw [Nat.beq_refl]
  by_cases e : dp ≤ j ∧ j < dp + n
  · rw [if_pos e, Nat.ble_eq_true_of_le e.1, show Nat.blt j (dp + n) = true from Nat.ble_eq_true_of_le e.2]
    rfl
  · rw [if_neg e]
    cases h1 : Nat.ble dp j with
    | false => rfl
    | true =>
      cases h2 : Nat.blt j (dp + n) with
      | false => rfl
      | true => exact absurd ⟨Nat.le_of_ble_eq_true h1, q_blt h2⟩ e
end ZHeap
theorem z_bif {b : Bool} {P : Prop} (h : bif b then P else False) : b = true ∧ P := by
  cases b with
  | true => exact ⟨rfl, h⟩
  | false => exact h.elim
theorem z_setL {α : Type} {N a : Nat} {f g : Nat → α} {v : α} (ha : a < N) (h1 : g a = v) (h2 : ∀ k, k ≠ a → g k = f k) : ((List.range N).map f).set a v = (List.range N).map g := by
  apply List.ext_getElem?
  intro i
  rw [List.getElem?_set, List.getElem?_map, List.getElem?_map]
  by_cases e : a = i
  · subst e
    rw [if_pos rfl, if_pos (by rw [List.length_map, List.length_range]; exact ha), List.getElem?_range ha]
    show some v = some (g a)
    rw [h1]
  · rw [if_neg e]
    by_cases hi : i < N
    · rw [List.getElem?_range hi]
      show some (f i) = some (g i)
      rw [h2 i (fun q => e q.symm)]
    · rw [List.getElem?_eq_none (by rw [List.length_range]; omega)]
      rfl
end
-- 39d.zstep.lean.txt
section
/-! Each step of Z is a step of the true machine. -/
noncomputable def zF (dC : Nat → ClassId) (dI : Nat → Nat → Nat) (dA : FieldType → ClassId) (Hb : Heap) (ad : Nat → Nat) (nL : Nat) (g : zG) (ls : Array Slot) (vs : List Value) (H : Heap) (locs : List Loc) : Prop :=
  lv_has ls nL (z_lm ad g.2.1) ∧ vs = g.2.2.1.map (zv ad) ∧ zH dC dI dA Hb ad g.2.2.2 H ∧ ∀ q ∈ locs, Hb.size ≤ q.base
noncomputable def zW (p : Program) (l : Launch) (e : Env) (R : Room) (s : State) (m : MethodId) (args : Array Value) (below : List Frame) (meth : Method) (c : Code) (cells slots : Nat) (Q : State → Prop) (dC : Nat → ClassId) (dI : Nat → Nat → Nat) (dA : FieldType → ClassId) (Hb : Heap) (ad : Nat → Nat) (k : Nat) (g : zG) : Prop :=
  ∀ (ls : Array Slot) (vs : List Value) (H : Heap) (locs : List Loc), zF dC dI dA Hb ad (mL k) g ls vs H locs → W p l e R s m args below meth c H locs cells slots Q (F0 m g.1 ls vs)
section ZStep
variable {p : Program} {l : Launch} {e : Env} {R : Room} {s : State} {m : MethodId} {args : Array Value} {below : List Frame} {meth : Method} {c : Code} {cells slots : Nat} {Q : State → Prop}
variable {dC : Nat → ClassId} {dI : Nat → Nat → Nat} {dA : FieldType → ClassId} {ad : Nat → Nat} {Hb : Heap} {k pc nx a1 a2 a3 : Nat} {z : Int} {lo : zL} {st : List zA} {mm : zM} {G : zG → Prop}
theorem zs_iconst {cz : Int} (C : q_Ctx p R s m args meth c dC dI dA Hb k) (hi : ins k pc = some (.iconst cz, nx, a1, a2, a3, z)) (h : G (nx, lo, .inl cz :: st, mm)) (kk : ∀ g, G g → zW p l e R s m args below meth c cells slots Q dC dI dA Hb ad k g) : zW p l e R s m args below meth c cells slots Q dC dI dA Hb ad k (pc, lo, st, mm) := by
  obtain ⟨hx, hb, hml, hown, hts, hK, hnm, hRf, hRl⟩ := C
  rintro ls vs H locs ⟨hlo, rfl, hH, hlc⟩
  show W p l e R s m args below meth c H locs cells slots Q (F0 m pc ls (st.map (zv ad)))
  obtain ⟨en, hd⟩ := q_dec (n := 1) hi rfl
  subst en
  exact lv_iconst hx hb hd rfl (kk _ h ls _ H locs ⟨hlo, rfl, hH, hlc⟩)
theorem zs_bipush {cz : Int} (C : q_Ctx p R s m args meth c dC dI dA Hb k) (hi : ins k pc = some (.bipush cz, nx, a1, a2, a3, z)) (h : bif s_le (-128) cz && s_le cz 127 then G (nx, lo, .inl cz :: st, mm) else False) (kk : ∀ g, G g → zW p l e R s m args below meth c cells slots Q dC dI dA Hb ad k g) : zW p l e R s m args below meth c cells slots Q dC dI dA Hb ad k (pc, lo, st, mm) := by
  obtain ⟨hx, hb, hml, hown, hts, hK, hnm, hRf, hRl⟩ := C
  rintro ls vs H locs ⟨hlo, rfl, hH, hlc⟩
  show W p l e R s m args below meth c H locs cells slots Q (F0 m pc ls (st.map (zv ad)))
  obtain ⟨en, hd⟩ := q_dec (n := 2) hi rfl
  subst en
  obtain ⟨h1, h⟩ := z_bif h
  rw [Bool.and_eq_true] at h1
  exact lv_bipush hx hb hd (z_bip (s_le_iff.mp h1.1) (s_le_iff.mp h1.2)) (kk _ h ls _ H locs ⟨hlo, rfl, hH, hlc⟩)
theorem zs_sipush {cz : Int} (C : q_Ctx p R s m args meth c dC dI dA Hb k) (hi : ins k pc = some (.sipush cz, nx, a1, a2, a3, z)) (h : bif s_le (-32768) cz && s_le cz 32767 then G (nx, lo, .inl cz :: st, mm) else False) (kk : ∀ g, G g → zW p l e R s m args below meth c cells slots Q dC dI dA Hb ad k g) : zW p l e R s m args below meth c cells slots Q dC dI dA Hb ad k (pc, lo, st, mm) := by
  obtain ⟨hx, hb, hml, hown, hts, hK, hnm, hRf, hRl⟩ := C
  rintro ls vs H locs ⟨hlo, rfl, hH, hlc⟩
  show W p l e R s m args below meth c H locs cells slots Q (F0 m pc ls (st.map (zv ad)))
  obtain ⟨en, hd⟩ := q_dec (n := 3) hi rfl
  subst en
  obtain ⟨h1, h⟩ := z_bif h
  rw [Bool.and_eq_true] at h1
  exact lv_sipush hx hb hd (z_sip (s_le_iff.mp h1.1) (s_le_iff.mp h1.2)) (kk _ h ls _ H locs ⟨hlo, rfl, hH, hlc⟩)
theorem zs_ldc {ci : Nat} (C : q_Ctx p R s m args meth c dC dI dA Hb k) (hi : ins k pc = some (.ldc ci, nx, a1, a2, a3, z)) (h : bif Nat.beq a1 0 then G (nx, lo, .inl z :: st, mm) else False) (kk : ∀ g, G g → zW p l e R s m args below meth c cells slots Q dC dI dA Hb ad k g) : zW p l e R s m args below meth c cells slots Q dC dI dA Hb ad k (pc, lo, st, mm) := by
  obtain ⟨hx, hb, hml, hown, hts, hK, hnm, hRf, hRl⟩ := C
  rintro ls vs H locs ⟨hlo, rfl, hH, hlc⟩
  show W p l e R s m args below meth c H locs cells slots Q (F0 m pc ls (st.map (zv ad)))
  obtain ⟨en, hd⟩ := q_dec (n := 2) hi rfl
  subst en
  obtain ⟨ha, h⟩ := z_bif h
  have hc := (q_rowI hi).2.2.1
  simp only [c_I, ha, Bool.not_true, Bool.false_or] at hc
  exact lv_ldc hx hb hown (hts _ (wAt_mem hc)) hd (kk _ h ls _ H locs ⟨hlo, rfl, hH, hlc⟩)
theorem zs_ldcw {ci : Nat} (C : q_Ctx p R s m args meth c dC dI dA Hb k) (hi : ins k pc = some (.ldc_w ci, nx, a1, a2, a3, z)) (h : bif Nat.beq a1 0 then G (nx, lo, .inl z :: st, mm) else False) (kk : ∀ g, G g → zW p l e R s m args below meth c cells slots Q dC dI dA Hb ad k g) : zW p l e R s m args below meth c cells slots Q dC dI dA Hb ad k (pc, lo, st, mm) := by
  obtain ⟨hx, hb, hml, hown, hts, hK, hnm, hRf, hRl⟩ := C
  rintro ls vs H locs ⟨hlo, rfl, hH, hlc⟩
  show W p l e R s m args below meth c H locs cells slots Q (F0 m pc ls (st.map (zv ad)))
  obtain ⟨en, hd⟩ := q_dec (n := 3) hi rfl
  subst en
  obtain ⟨ha, h⟩ := z_bif h
  have hc := (q_rowI hi).2.2.1
  simp only [c_I, ha, Bool.not_true, Bool.false_or] at hc
  exact lv_ldcw hx hb hown (hts _ (wAt_mem hc)) hd (kk _ h ls _ H locs ⟨hlo, rfl, hH, hlc⟩)
theorem zs_ldc2 {ci : Nat} (C : q_Ctx p R s m args meth c dC dI dA Hb k) (hi : ins k pc = some (.ldc2_w ci, nx, a1, a2, a3, z)) (h : bif Nat.beq a1 0 && Nat.beq nx (pc + 3) then G (nx, lo, .inr (.inr z) :: st, mm) else False) (kk : ∀ g, G g → zW p l e R s m args below meth c cells slots Q dC dI dA Hb ad k g) : zW p l e R s m args below meth c cells slots Q dC dI dA Hb ad k (pc, lo, st, mm) := by
  obtain ⟨hx, hb, hml, hown, hts, hK, hnm, hRf, hRl⟩ := C
  rintro ls vs H locs ⟨hlo, rfl, hH, hlc⟩
  show W p l e R s m args below meth c H locs cells slots Q (F0 m pc ls (st.map (zv ad)))
  obtain ⟨ha, h⟩ := z_bif h
  rw [Bool.and_eq_true] at ha
  have hc := (q_rowI hi).2.2.1
  simp only [c_I, ha.1, Bool.not_true, Bool.false_or] at hc
  have en := Nat.eq_of_beq_eq_true ha.2
  subst en
  have hd := q_dec2 (n := 3) hi rfl
  exact lv_ldc2 hx hb hown (hts _ (wAt_mem hc)) hd (kk _ h ls _ H locs ⟨hlo, rfl, hH, hlc⟩)
theorem zs_lconst {cf : Fin 2} (C : q_Ctx p R s m args meth c dC dI dA Hb k) (hi : ins k pc = some (.lconst cf, nx, a1, a2, a3, z)) (h : G (nx, lo, .inr (.inr ((cf.val : Nat) : Int)) :: st, mm)) (kk : ∀ g, G g → zW p l e R s m args below meth c cells slots Q dC dI dA Hb ad k g) : zW p l e R s m args below meth c cells slots Q dC dI dA Hb ad k (pc, lo, st, mm) := by
  obtain ⟨hx, hb, hml, hown, hts, hK, hnm, hRf, hRl⟩ := C
  rintro ls vs H locs ⟨hlo, rfl, hH, hlc⟩
  show W p l e R s m args below meth c H locs cells slots Q (F0 m pc ls (st.map (zv ad)))
  obtain ⟨en, hd⟩ := q_dec (n := 1) hi rfl
  subst en
  have e0 : Int64.ofNat (cf : Nat) = Int64.ofInt ((cf.val : Nat) : Int) := Int64.ofInt_eq_ofNat.symm
  exact lv_lconst hx hb hd e0 (kk _ h ls _ H locs ⟨hlo, rfl, hH, hlc⟩)
theorem zs_iload_n {ci : Fin 4} (C : q_Ctx p R s m args meth c dC dI dA Hb k) (hi : ins k pc = some (.iload_n ci, nx, a1, a2, a3, z)) (h : z_ld lo ci.val 0 (fun a => G (nx, lo, a :: st, mm))) (kk : ∀ g, G g → zW p l e R s m args below meth c cells slots Q dC dI dA Hb ad k g) : zW p l e R s m args below meth c cells slots Q dC dI dA Hb ad k (pc, lo, st, mm) := by
  obtain ⟨hx, hb, hml, hown, hts, hK, hnm, hRf, hRl⟩ := C
  rintro ls vs H locs ⟨hlo, rfl, hH, hlc⟩
  show W p l e R s m args below meth c H locs cells slots Q (F0 m pc ls (st.map (zv ad)))
  obtain ⟨en, hd⟩ := q_dec (n := 1) hi rfl
  subst en
  unfold z_ld at h
  split at h
  · rename_i a hg
    obtain ⟨ht, h⟩ := z_bif h
    rcases a with v | o | v
    · exact lv_iload_n hx hb hd rfl (z_lgetS hlo hg) (kk _ h ls _ H locs ⟨hlo, rfl, hH, hlc⟩)
    · cases ht
    · cases ht
  · exact h.elim
theorem zs_iload {ci : Nat} (C : q_Ctx p R s m args meth c dC dI dA Hb k) (hi : ins k pc = some (.iload ci, nx, a1, a2, a3, z)) (h : z_ld lo ci 0 (fun a => G (nx, lo, a :: st, mm))) (kk : ∀ g, G g → zW p l e R s m args below meth c cells slots Q dC dI dA Hb ad k g) : zW p l e R s m args below meth c cells slots Q dC dI dA Hb ad k (pc, lo, st, mm) := by
  obtain ⟨hx, hb, hml, hown, hts, hK, hnm, hRf, hRl⟩ := C
  rintro ls vs H locs ⟨hlo, rfl, hH, hlc⟩
  show W p l e R s m args below meth c H locs cells slots Q (F0 m pc ls (st.map (zv ad)))
  obtain ⟨en, hd⟩ := q_dec (n := 2) hi rfl
  subst en
  unfold z_ld at h
  split at h
  · rename_i a hg
    obtain ⟨ht, h⟩ := z_bif h
    rcases a with v | o | v
    · exact lv_iload hx hb hd (z_lgetS hlo hg) (kk _ h ls _ H locs ⟨hlo, rfl, hH, hlc⟩)
    · cases ht
    · cases ht
  · exact h.elim
theorem zs_aload_n {ci : Fin 4} (C : q_Ctx p R s m args meth c dC dI dA Hb k) (hi : ins k pc = some (.aload_n ci, nx, a1, a2, a3, z)) (h : z_ld lo ci.val 1 (fun a => G (nx, lo, a :: st, mm))) (kk : ∀ g, G g → zW p l e R s m args below meth c cells slots Q dC dI dA Hb ad k g) : zW p l e R s m args below meth c cells slots Q dC dI dA Hb ad k (pc, lo, st, mm) := by
  obtain ⟨hx, hb, hml, hown, hts, hK, hnm, hRf, hRl⟩ := C
  rintro ls vs H locs ⟨hlo, rfl, hH, hlc⟩
  show W p l e R s m args below meth c H locs cells slots Q (F0 m pc ls (st.map (zv ad)))
  obtain ⟨en, hd⟩ := q_dec (n := 1) hi rfl
  subst en
  unfold z_ld at h
  split at h
  · rename_i a hg
    obtain ⟨ht, h⟩ := z_bif h
    rcases a with v | o | v
    · cases ht
    · rcases o with _ | o
      · exact lv_aload_nN hx hb hd rfl (z_lgetS hlo hg) (kk _ h ls _ H locs ⟨hlo, rfl, hH, hlc⟩)
      · exact lv_aload_n hx hb hd rfl (z_lgetS hlo hg) (kk _ h ls _ H locs ⟨hlo, rfl, hH, hlc⟩)
    · cases ht
  · exact h.elim
theorem zs_aload {ci : Nat} (C : q_Ctx p R s m args meth c dC dI dA Hb k) (hi : ins k pc = some (.aload ci, nx, a1, a2, a3, z)) (h : z_ld lo ci 1 (fun a => G (nx, lo, a :: st, mm))) (kk : ∀ g, G g → zW p l e R s m args below meth c cells slots Q dC dI dA Hb ad k g) : zW p l e R s m args below meth c cells slots Q dC dI dA Hb ad k (pc, lo, st, mm) := by
  obtain ⟨hx, hb, hml, hown, hts, hK, hnm, hRf, hRl⟩ := C
  rintro ls vs H locs ⟨hlo, rfl, hH, hlc⟩
  show W p l e R s m args below meth c H locs cells slots Q (F0 m pc ls (st.map (zv ad)))
  obtain ⟨en, hd⟩ := q_dec (n := 2) hi rfl
  subst en
  unfold z_ld at h
  split at h
  · rename_i a hg
    obtain ⟨ht, h⟩ := z_bif h
    rcases a with v | o | v
    · cases ht
    · rcases o with _ | o
      · exact lv_aloadN hx hb hd (z_lgetS hlo hg) (kk _ h ls _ H locs ⟨hlo, rfl, hH, hlc⟩)
      · exact lv_aload hx hb hd (z_lgetS hlo hg) (kk _ h ls _ H locs ⟨hlo, rfl, hH, hlc⟩)
    · cases ht
  · exact h.elim
theorem zs_lload_n {ci : Fin 4} (C : q_Ctx p R s m args meth c dC dI dA Hb k) (hi : ins k pc = some (.lload_n ci, nx, a1, a2, a3, z)) (h : z_ld lo ci.val 2 (fun a => G (nx, lo, a :: st, mm))) (kk : ∀ g, G g → zW p l e R s m args below meth c cells slots Q dC dI dA Hb ad k g) : zW p l e R s m args below meth c cells slots Q dC dI dA Hb ad k (pc, lo, st, mm) := by
  obtain ⟨hx, hb, hml, hown, hts, hK, hnm, hRf, hRl⟩ := C
  rintro ls vs H locs ⟨hlo, rfl, hH, hlc⟩
  show W p l e R s m args below meth c H locs cells slots Q (F0 m pc ls (st.map (zv ad)))
  obtain ⟨en, hd⟩ := q_dec (n := 1) hi rfl
  subst en
  unfold z_ld at h
  split at h
  · rename_i a hg
    obtain ⟨ht, h⟩ := z_bif h
    rcases a with v | o | v
    · cases ht
    · cases ht
    · exact lv_lload_n hx hb hd rfl (z_lgetS hlo hg) (kk _ h ls _ H locs ⟨hlo, rfl, hH, hlc⟩)
  · exact h.elim
theorem zs_lload {ci : Nat} (C : q_Ctx p R s m args meth c dC dI dA Hb k) (hi : ins k pc = some (.lload ci, nx, a1, a2, a3, z)) (h : bif Nat.beq nx (pc + 2) then z_ld lo ci 2 (fun a => G (nx, lo, a :: st, mm)) else False) (kk : ∀ g, G g → zW p l e R s m args below meth c cells slots Q dC dI dA Hb ad k g) : zW p l e R s m args below meth c cells slots Q dC dI dA Hb ad k (pc, lo, st, mm) := by
  obtain ⟨hx, hb, hml, hown, hts, hK, hnm, hRf, hRl⟩ := C
  rintro ls vs H locs ⟨hlo, rfl, hH, hlc⟩
  show W p l e R s m args below meth c H locs cells slots Q (F0 m pc ls (st.map (zv ad)))
  obtain ⟨hn, h⟩ := z_bif h
  have en := Nat.eq_of_beq_eq_true hn
  subst en
  have hd := q_dec2 (n := 2) hi rfl
  unfold z_ld at h
  split at h
  · rename_i a hg
    obtain ⟨ht, h⟩ := z_bif h
    rcases a with v | o | v
    · cases ht
    · cases ht
    · exact lv_lload hx hb hd (z_lgetS hlo hg) (kk _ h ls _ H locs ⟨hlo, rfl, hH, hlc⟩)
  · exact h.elim
theorem zs_istore_n {ci : Fin 4} (C : q_Ctx p R s m args meth c dC dI dA Hb k) (hi : ins k pc = some (.istore_n ci, nx, a1, a2, a3, z)) (h : z_st st ci.val 0 (mL k) (fun a r => G (nx, z_lset lo ci.val a, r, mm))) (kk : ∀ g, G g → zW p l e R s m args below meth c cells slots Q dC dI dA Hb ad k g) : zW p l e R s m args below meth c cells slots Q dC dI dA Hb ad k (pc, lo, st, mm) := by
  obtain ⟨hx, hb, hml, hown, hts, hK, hnm, hRf, hRl⟩ := C
  rintro ls vs H locs ⟨hlo, rfl, hH, hlc⟩
  show W p l e R s m args below meth c H locs cells slots Q (F0 m pc ls (st.map (zv ad)))
  obtain ⟨en, hd⟩ := q_dec (n := 1) hi rfl
  subst en
  unfold z_st at h
  split at h
  · rename_i a rr
    obtain ⟨ht, h⟩ := z_bif h
    rw [Bool.and_eq_true] at ht
    obtain ⟨ht, hn0⟩ := ht
    have hn := q_blt hn0
    rcases a with v | o | v
    · exact lv_istore_n hx hb hd rfl hlo hn rfl (fun ls2 h2 => kk _ h ls2 _ H locs ⟨z_lsetS (a := .inl v) h2, rfl, hH, hlc⟩)
    · cases ht
    · cases ht
  · exact h.elim
theorem zs_istore {ci : Nat} (C : q_Ctx p R s m args meth c dC dI dA Hb k) (hi : ins k pc = some (.istore ci, nx, a1, a2, a3, z)) (h : z_st st ci 0 (mL k) (fun a r => G (nx, z_lset lo ci a, r, mm))) (kk : ∀ g, G g → zW p l e R s m args below meth c cells slots Q dC dI dA Hb ad k g) : zW p l e R s m args below meth c cells slots Q dC dI dA Hb ad k (pc, lo, st, mm) := by
  obtain ⟨hx, hb, hml, hown, hts, hK, hnm, hRf, hRl⟩ := C
  rintro ls vs H locs ⟨hlo, rfl, hH, hlc⟩
  show W p l e R s m args below meth c H locs cells slots Q (F0 m pc ls (st.map (zv ad)))
  obtain ⟨en, hd⟩ := q_dec (n := 2) hi rfl
  subst en
  unfold z_st at h
  split at h
  · rename_i a rr
    obtain ⟨ht, h⟩ := z_bif h
    rw [Bool.and_eq_true] at ht
    obtain ⟨ht, hn0⟩ := ht
    have hn := q_blt hn0
    rcases a with v | o | v
    · exact lv_istore hx hb hd hlo hn rfl (fun ls2 h2 => kk _ h ls2 _ H locs ⟨z_lsetS (a := .inl v) h2, rfl, hH, hlc⟩)
    · cases ht
    · cases ht
  · exact h.elim
theorem zs_astore_n {ci : Fin 4} (C : q_Ctx p R s m args meth c dC dI dA Hb k) (hi : ins k pc = some (.astore_n ci, nx, a1, a2, a3, z)) (h : z_st st ci.val 1 (mL k) (fun a r => G (nx, z_lset lo ci.val a, r, mm))) (kk : ∀ g, G g → zW p l e R s m args below meth c cells slots Q dC dI dA Hb ad k g) : zW p l e R s m args below meth c cells slots Q dC dI dA Hb ad k (pc, lo, st, mm) := by
  obtain ⟨hx, hb, hml, hown, hts, hK, hnm, hRf, hRl⟩ := C
  rintro ls vs H locs ⟨hlo, rfl, hH, hlc⟩
  show W p l e R s m args below meth c H locs cells slots Q (F0 m pc ls (st.map (zv ad)))
  obtain ⟨en, hd⟩ := q_dec (n := 1) hi rfl
  subst en
  unfold z_st at h
  split at h
  · rename_i a rr
    obtain ⟨ht, h⟩ := z_bif h
    rw [Bool.and_eq_true] at ht
    obtain ⟨ht, hn0⟩ := ht
    have hn := q_blt hn0
    rcases a with v | o | v
    · cases ht
    · rcases o with _ | o
      · exact lv_astore_nN hx hb hd rfl hlo hn rfl (fun ls2 h2 => kk _ h ls2 _ H locs ⟨z_lsetS (a := .inr (.inl none)) h2, rfl, hH, hlc⟩)
      · exact lv_astore_n hx hb hd rfl hlo hn rfl (fun ls2 h2 => kk _ h ls2 _ H locs ⟨z_lsetS (a := .inr (.inl (some o))) h2, rfl, hH, hlc⟩)
    · cases ht
  · exact h.elim
theorem zs_astore {ci : Nat} (C : q_Ctx p R s m args meth c dC dI dA Hb k) (hi : ins k pc = some (.astore ci, nx, a1, a2, a3, z)) (h : z_st st ci 1 (mL k) (fun a r => G (nx, z_lset lo ci a, r, mm))) (kk : ∀ g, G g → zW p l e R s m args below meth c cells slots Q dC dI dA Hb ad k g) : zW p l e R s m args below meth c cells slots Q dC dI dA Hb ad k (pc, lo, st, mm) := by
  obtain ⟨hx, hb, hml, hown, hts, hK, hnm, hRf, hRl⟩ := C
  rintro ls vs H locs ⟨hlo, rfl, hH, hlc⟩
  show W p l e R s m args below meth c H locs cells slots Q (F0 m pc ls (st.map (zv ad)))
  obtain ⟨en, hd⟩ := q_dec (n := 2) hi rfl
  subst en
  unfold z_st at h
  split at h
  · rename_i a rr
    obtain ⟨ht, h⟩ := z_bif h
    rw [Bool.and_eq_true] at ht
    obtain ⟨ht, hn0⟩ := ht
    have hn := q_blt hn0
    rcases a with v | o | v
    · cases ht
    · rcases o with _ | o
      · exact lv_astoreN hx hb hd hlo hn rfl (fun ls2 h2 => kk _ h ls2 _ H locs ⟨z_lsetS (a := .inr (.inl none)) h2, rfl, hH, hlc⟩)
      · exact lv_astore hx hb hd hlo hn rfl (fun ls2 h2 => kk _ h ls2 _ H locs ⟨z_lsetS (a := .inr (.inl (some o))) h2, rfl, hH, hlc⟩)
    · cases ht
  · exact h.elim
theorem zs_lstore_n {ci : Fin 4} (C : q_Ctx p R s m args meth c dC dI dA Hb k) (hi : ins k pc = some (.lstore_n ci, nx, a1, a2, a3, z)) (h : z_st st ci.val 2 (mL k) (fun a r => G (nx, z_lset2 lo ci.val a, r, mm))) (kk : ∀ g, G g → zW p l e R s m args below meth c cells slots Q dC dI dA Hb ad k g) : zW p l e R s m args below meth c cells slots Q dC dI dA Hb ad k (pc, lo, st, mm) := by
  obtain ⟨hx, hb, hml, hown, hts, hK, hnm, hRf, hRl⟩ := C
  rintro ls vs H locs ⟨hlo, rfl, hH, hlc⟩
  show W p l e R s m args below meth c H locs cells slots Q (F0 m pc ls (st.map (zv ad)))
  obtain ⟨en, hd⟩ := q_dec (n := 1) hi rfl
  subst en
  unfold z_st at h
  split at h
  · rename_i a rr
    obtain ⟨ht, h⟩ := z_bif h
    rw [Bool.and_eq_true] at ht
    obtain ⟨ht, hn0⟩ := ht
    have hn := q_blt hn0
    rcases a with v | o | v
    · cases ht
    · cases ht
    · exact lv_lstore_n hx hb hd rfl hlo hn rfl (fun ls2 h2 => kk _ h ls2 _ H locs ⟨z_lset2S (a := .inr (.inr v)) h2, rfl, hH, hlc⟩)
  · exact h.elim
theorem zs_lstore {ci : Nat} (C : q_Ctx p R s m args meth c dC dI dA Hb k) (hi : ins k pc = some (.lstore ci, nx, a1, a2, a3, z)) (h : bif Nat.beq nx (pc + 2) then z_st st ci 2 (mL k) (fun a r => G (nx, z_lset2 lo ci a, r, mm)) else False) (kk : ∀ g, G g → zW p l e R s m args below meth c cells slots Q dC dI dA Hb ad k g) : zW p l e R s m args below meth c cells slots Q dC dI dA Hb ad k (pc, lo, st, mm) := by
  obtain ⟨hx, hb, hml, hown, hts, hK, hnm, hRf, hRl⟩ := C
  rintro ls vs H locs ⟨hlo, rfl, hH, hlc⟩
  show W p l e R s m args below meth c H locs cells slots Q (F0 m pc ls (st.map (zv ad)))
  obtain ⟨hnx, h⟩ := z_bif h
  have en := Nat.eq_of_beq_eq_true hnx
  subst en
  have hd := q_dec2 (n := 2) hi rfl
  rcases st with _ | ⟨a, rr⟩
  · exact False.elim h
  · dsimp only [z_st] at h
    obtain ⟨ht, h⟩ := z_bif h
    rw [Bool.and_eq_true] at ht
    obtain ⟨ht, hn0⟩ := ht
    have hn := q_blt hn0
    rcases a with v | o | v
    · cases ht
    · cases ht
    · exact lv_lstore hx hb hd hlo hn rfl (fun ls2 h2 => kk _ h ls2 _ H locs ⟨z_lset2S (a := .inr (.inr v)) h2, rfl, hH, hlc⟩)
theorem zs_iinc {ci : Nat} {cz : Int} (C : q_Ctx p R s m args meth c dC dI dA Hb k) (hi : ins k pc = some (.iinc ci cz, nx, a1, a2, a3, z)) (h : bif Nat.blt ci (mL k) then (match z_lget lo ci with
      | some (.inl v) => G (nx, z_lset lo ci (.inl (v + cz)), st, mm)
      | _ => False) else False) (kk : ∀ g, G g → zW p l e R s m args below meth c cells slots Q dC dI dA Hb ad k g) : zW p l e R s m args below meth c cells slots Q dC dI dA Hb ad k (pc, lo, st, mm) := by
  obtain ⟨hx, hb, hml, hown, hts, hK, hnm, hRf, hRl⟩ := C
  rintro ls vs H locs ⟨hlo, rfl, hH, hlc⟩
  show W p l e R s m args below meth c H locs cells slots Q (F0 m pc ls (st.map (zv ad)))
  obtain ⟨en, hd⟩ := q_dec (n := 3) hi rfl
  subst en
  obtain ⟨hn0, h⟩ := z_bif h
  have hn := q_blt hn0
  split at h
  · rename_i v hg
    obtain ⟨j, hj⟩ := List.getElem?_of_mem (show (ci, Value.int (Int32.ofInt v)) ∈ z_lm ad lo from List.mem_map.mpr ⟨_, z_lgetM hg, rfl⟩)
    exact lv_iinc hx hb hd hlo hj (Int32.ofInt_add v cz).symm hn rfl (fun ls2 h2 => kk _ h ls2 _ H locs ⟨z_lsetS (a := .inl (v + cz)) h2, rfl, hH, hlc⟩)
  · exact h.elim
theorem zs_iadd  (C : q_Ctx p R s m args meth c dC dI dA Hb k) (hi : ins k pc = some (.iadd, nx, a1, a2, a3, z)) (h : z_o2 st (fun a b r => G (nx, lo, .inl (a + b) :: r, mm))) (kk : ∀ g, G g → zW p l e R s m args below meth c cells slots Q dC dI dA Hb ad k g) : zW p l e R s m args below meth c cells slots Q dC dI dA Hb ad k (pc, lo, st, mm) := by
  obtain ⟨hx, hb, hml, hown, hts, hK, hnm, hRf, hRl⟩ := C
  rintro ls vs H locs ⟨hlo, rfl, hH, hlc⟩
  show W p l e R s m args below meth c H locs cells slots Q (F0 m pc ls (st.map (zv ad)))
  obtain ⟨en, hd⟩ := q_dec (n := 1) hi rfl
  subst en
  unfold z_o2 at h
  split at h
  · rename_i b a rr
    have e0 : Int32.ofInt a + Int32.ofInt b = Int32.ofInt (a + b) := (Int32.ofInt_add a b).symm
    refine lv_iadd hx hb hd (kk _ h ls _ H locs ⟨hlo, ?_, hH, hlc⟩)
    exact congrArg (fun w => Value.int w :: rr.map (zv ad)) e0
  · exact h.elim
theorem zs_isub  (C : q_Ctx p R s m args meth c dC dI dA Hb k) (hi : ins k pc = some (.isub, nx, a1, a2, a3, z)) (h : z_o2 st (fun a b r => G (nx, lo, .inl (a - b) :: r, mm))) (kk : ∀ g, G g → zW p l e R s m args below meth c cells slots Q dC dI dA Hb ad k g) : zW p l e R s m args below meth c cells slots Q dC dI dA Hb ad k (pc, lo, st, mm) := by
  obtain ⟨hx, hb, hml, hown, hts, hK, hnm, hRf, hRl⟩ := C
  rintro ls vs H locs ⟨hlo, rfl, hH, hlc⟩
  show W p l e R s m args below meth c H locs cells slots Q (F0 m pc ls (st.map (zv ad)))
  obtain ⟨en, hd⟩ := q_dec (n := 1) hi rfl
  subst en
  unfold z_o2 at h
  split at h
  · rename_i b a rr
    have e0 : Int32.ofInt a - Int32.ofInt b = Int32.ofInt (a - b) := (Int32.ofInt_sub a b).symm
    refine lv_isub hx hb hd (kk _ h ls _ H locs ⟨hlo, ?_, hH, hlc⟩)
    exact congrArg (fun w => Value.int w :: rr.map (zv ad)) e0
  · exact h.elim
theorem zs_imul  (C : q_Ctx p R s m args meth c dC dI dA Hb k) (hi : ins k pc = some (.imul, nx, a1, a2, a3, z)) (h : z_o2 st (fun a b r => G (nx, lo, .inl (a * b) :: r, mm))) (kk : ∀ g, G g → zW p l e R s m args below meth c cells slots Q dC dI dA Hb ad k g) : zW p l e R s m args below meth c cells slots Q dC dI dA Hb ad k (pc, lo, st, mm) := by
  obtain ⟨hx, hb, hml, hown, hts, hK, hnm, hRf, hRl⟩ := C
  rintro ls vs H locs ⟨hlo, rfl, hH, hlc⟩
  show W p l e R s m args below meth c H locs cells slots Q (F0 m pc ls (st.map (zv ad)))
  obtain ⟨en, hd⟩ := q_dec (n := 1) hi rfl
  subst en
  unfold z_o2 at h
  split at h
  · rename_i b a rr
    have e0 : Int32.ofInt a * Int32.ofInt b = Int32.ofInt (a * b) := (Int32.ofInt_mul a b).symm
    refine lv_imul hx hb hd (kk _ h ls _ H locs ⟨hlo, ?_, hH, hlc⟩)
    exact congrArg (fun w => Value.int w :: rr.map (zv ad)) e0
  · exact h.elim
theorem zs_iand  (C : q_Ctx p R s m args meth c dC dI dA Hb k) (hi : ins k pc = some (.iand, nx, a1, a2, a3, z)) (h : z_o2 st (fun a b r => G (nx, lo, .inl (z_and a b) :: r, mm))) (kk : ∀ g, G g → zW p l e R s m args below meth c cells slots Q dC dI dA Hb ad k g) : zW p l e R s m args below meth c cells slots Q dC dI dA Hb ad k (pc, lo, st, mm) := by
  obtain ⟨hx, hb, hml, hown, hts, hK, hnm, hRf, hRl⟩ := C
  rintro ls vs H locs ⟨hlo, rfl, hH, hlc⟩
  show W p l e R s m args below meth c H locs cells slots Q (F0 m pc ls (st.map (zv ad)))
  obtain ⟨en, hd⟩ := q_dec (n := 1) hi rfl
  subst en
  unfold z_o2 at h
  split at h
  · rename_i b a rr
    have e0 : Int32.ofInt a &&& Int32.ofInt b = Int32.ofInt (z_and a b) := z_ofN.symm
    refine lv_iand hx hb hd (kk _ h ls _ H locs ⟨hlo, ?_, hH, hlc⟩)
    exact congrArg (fun w => Value.int w :: rr.map (zv ad)) e0
  · exact h.elim
theorem zs_ior  (C : q_Ctx p R s m args meth c dC dI dA Hb k) (hi : ins k pc = some (.ior, nx, a1, a2, a3, z)) (h : z_o2 st (fun a b r => G (nx, lo, .inl (z_or a b) :: r, mm))) (kk : ∀ g, G g → zW p l e R s m args below meth c cells slots Q dC dI dA Hb ad k g) : zW p l e R s m args below meth c cells slots Q dC dI dA Hb ad k (pc, lo, st, mm) := by
  obtain ⟨hx, hb, hml, hown, hts, hK, hnm, hRf, hRl⟩ := C
  rintro ls vs H locs ⟨hlo, rfl, hH, hlc⟩
  show W p l e R s m args below meth c H locs cells slots Q (F0 m pc ls (st.map (zv ad)))
  obtain ⟨en, hd⟩ := q_dec (n := 1) hi rfl
  subst en
  unfold z_o2 at h
  split at h
  · rename_i b a rr
    have e0 : Int32.ofInt a ||| Int32.ofInt b = Int32.ofInt (z_or a b) := z_ofN.symm
    refine lv_ior hx hb hd (kk _ h ls _ H locs ⟨hlo, ?_, hH, hlc⟩)
    exact congrArg (fun w => Value.int w :: rr.map (zv ad)) e0
  · exact h.elim
theorem zs_ixor  (C : q_Ctx p R s m args meth c dC dI dA Hb k) (hi : ins k pc = some (.ixor, nx, a1, a2, a3, z)) (h : z_o2 st (fun a b r => G (nx, lo, .inl (z_xor a b) :: r, mm))) (kk : ∀ g, G g → zW p l e R s m args below meth c cells slots Q dC dI dA Hb ad k g) : zW p l e R s m args below meth c cells slots Q dC dI dA Hb ad k (pc, lo, st, mm) := by
  obtain ⟨hx, hb, hml, hown, hts, hK, hnm, hRf, hRl⟩ := C
  rintro ls vs H locs ⟨hlo, rfl, hH, hlc⟩
  show W p l e R s m args below meth c H locs cells slots Q (F0 m pc ls (st.map (zv ad)))
  obtain ⟨en, hd⟩ := q_dec (n := 1) hi rfl
  subst en
  unfold z_o2 at h
  split at h
  · rename_i b a rr
    have e0 : Int32.ofInt a ^^^ Int32.ofInt b = Int32.ofInt (z_xor a b) := z_ofN.symm
    refine lv_ixor hx hb hd (kk _ h ls _ H locs ⟨hlo, ?_, hH, hlc⟩)
    exact congrArg (fun w => Value.int w :: rr.map (zv ad)) e0
  · exact h.elim
theorem zs_ishl  (C : q_Ctx p R s m args meth c dC dI dA Hb k) (hi : ins k pc = some (.ishl, nx, a1, a2, a3, z)) (h : z_o2 st (fun a b r => G (nx, lo, .inl (z_shl a b) :: r, mm))) (kk : ∀ g, G g → zW p l e R s m args below meth c cells slots Q dC dI dA Hb ad k g) : zW p l e R s m args below meth c cells slots Q dC dI dA Hb ad k (pc, lo, st, mm) := by
  obtain ⟨hx, hb, hml, hown, hts, hK, hnm, hRf, hRl⟩ := C
  rintro ls vs H locs ⟨hlo, rfl, hH, hlc⟩
  show W p l e R s m args below meth c H locs cells slots Q (F0 m pc ls (st.map (zv ad)))
  obtain ⟨en, hd⟩ := q_dec (n := 1) hi rfl
  subst en
  unfold z_o2 at h
  split at h
  · rename_i b a rr
    have e0 : Int32.ofInt a <<< (Int32.ofInt b &&& 31) = Int32.ofInt (z_shl a b) := z_ofN.symm
    refine lv_ishl hx hb hd (kk _ h ls _ H locs ⟨hlo, ?_, hH, hlc⟩)
    exact congrArg (fun w => Value.int w :: rr.map (zv ad)) e0
  · exact h.elim
theorem zs_ishr  (C : q_Ctx p R s m args meth c dC dI dA Hb k) (hi : ins k pc = some (.ishr, nx, a1, a2, a3, z)) (h : z_o2 st (fun a b r => G (nx, lo, .inl (z_shr a b) :: r, mm))) (kk : ∀ g, G g → zW p l e R s m args below meth c cells slots Q dC dI dA Hb ad k g) : zW p l e R s m args below meth c cells slots Q dC dI dA Hb ad k (pc, lo, st, mm) := by
  obtain ⟨hx, hb, hml, hown, hts, hK, hnm, hRf, hRl⟩ := C
  rintro ls vs H locs ⟨hlo, rfl, hH, hlc⟩
  show W p l e R s m args below meth c H locs cells slots Q (F0 m pc ls (st.map (zv ad)))
  obtain ⟨en, hd⟩ := q_dec (n := 1) hi rfl
  subst en
  unfold z_o2 at h
  split at h
  · rename_i b a rr
    have e0 : Int32.ofInt a >>> (Int32.ofInt b &&& 31) = Int32.ofInt (z_shr a b) := z_ofN.symm
    refine lv_ishr hx hb hd (kk _ h ls _ H locs ⟨hlo, ?_, hH, hlc⟩)
    exact congrArg (fun w => Value.int w :: rr.map (zv ad)) e0
  · exact h.elim
theorem zs_iushr  (C : q_Ctx p R s m args meth c dC dI dA Hb k) (hi : ins k pc = some (.iushr, nx, a1, a2, a3, z)) (h : z_o2 st (fun a b r => G (nx, lo, .inl (z_ush a b) :: r, mm))) (kk : ∀ g, G g → zW p l e R s m args below meth c cells slots Q dC dI dA Hb ad k g) : zW p l e R s m args below meth c cells slots Q dC dI dA Hb ad k (pc, lo, st, mm) := by
  obtain ⟨hx, hb, hml, hown, hts, hK, hnm, hRf, hRl⟩ := C
  rintro ls vs H locs ⟨hlo, rfl, hH, hlc⟩
  show W p l e R s m args below meth c H locs cells slots Q (F0 m pc ls (st.map (zv ad)))
  obtain ⟨en, hd⟩ := q_dec (n := 1) hi rfl
  subst en
  unfold z_o2 at h
  split at h
  · rename_i b a rr
    have e0 : ((Int32.ofInt a).toUInt32 >>> ((Int32.ofInt b).toUInt32 &&& Int32.toUInt32 31)).toInt32 = Int32.ofInt (z_ush a b) := z_ofN.symm
    refine lv_iushr hx hb hd e0 (kk _ h ls _ H locs ⟨hlo, ?_, hH, hlc⟩)
    exact congrArg (fun w => Value.int w :: rr.map (zv ad)) rfl
  · exact h.elim
theorem zs_idiv  (C : q_Ctx p R s m args meth c dC dI dA Hb k) (hi : ins k pc = some (.idiv, nx, a1, a2, a3, z)) (h : z_o2 st (fun a b r => ¬ wr b = 0 ∧ G (nx, lo, .inl (Int.tdiv (wr a) (wr b)) :: r, mm))) (kk : ∀ g, G g → zW p l e R s m args below meth c cells slots Q dC dI dA Hb ad k g) : zW p l e R s m args below meth c cells slots Q dC dI dA Hb ad k (pc, lo, st, mm) := by
  obtain ⟨hx, hb, hml, hown, hts, hK, hnm, hRf, hRl⟩ := C
  rintro ls vs H locs ⟨hlo, rfl, hH, hlc⟩
  show W p l e R s m args below meth c H locs cells slots Q (F0 m pc ls (st.map (zv ad)))
  obtain ⟨en, hd⟩ := q_dec (n := 1) hi rfl
  subst en
  unfold z_o2 at h
  split at h
  · rename_i b a rr
    obtain ⟨hne, h⟩ := h
    have e0 : Int32.ofInt a / Int32.ofInt b = Int32.ofInt (Int.tdiv (wr a) (wr b)) := z_divS a b
    refine lv_idiv hx hb hd (z_neS hne) (kk _ h ls _ H locs ⟨hlo, ?_, hH, hlc⟩)
    exact congrArg (fun w => Value.int w :: rr.map (zv ad)) e0
  · exact h.elim
theorem zs_irem  (C : q_Ctx p R s m args meth c dC dI dA Hb k) (hi : ins k pc = some (.irem, nx, a1, a2, a3, z)) (h : z_o2 st (fun a b r => ¬ wr b = 0 ∧ G (nx, lo, .inl (Int.tmod (wr a) (wr b)) :: r, mm))) (kk : ∀ g, G g → zW p l e R s m args below meth c cells slots Q dC dI dA Hb ad k g) : zW p l e R s m args below meth c cells slots Q dC dI dA Hb ad k (pc, lo, st, mm) := by
  obtain ⟨hx, hb, hml, hown, hts, hK, hnm, hRf, hRl⟩ := C
  rintro ls vs H locs ⟨hlo, rfl, hH, hlc⟩
  show W p l e R s m args below meth c H locs cells slots Q (F0 m pc ls (st.map (zv ad)))
  obtain ⟨en, hd⟩ := q_dec (n := 1) hi rfl
  subst en
  unfold z_o2 at h
  split at h
  · rename_i b a rr
    obtain ⟨hne, h⟩ := h
    have e0 := z_remS a b
    refine lv_irem hx hb hd (z_neS hne) (kk _ h ls _ H locs ⟨hlo, ?_, hH, hlc⟩)
    exact congrArg (fun w => Value.int w :: rr.map (zv ad)) e0
  · exact h.elim
theorem zs_ineg  (C : q_Ctx p R s m args meth c dC dI dA Hb k) (hi : ins k pc = some (.ineg, nx, a1, a2, a3, z)) (h : z_o1 st (fun a r => G (nx, lo, .inl (-a) :: r, mm))) (kk : ∀ g, G g → zW p l e R s m args below meth c cells slots Q dC dI dA Hb ad k g) : zW p l e R s m args below meth c cells slots Q dC dI dA Hb ad k (pc, lo, st, mm) := by
  obtain ⟨hx, hb, hml, hown, hts, hK, hnm, hRf, hRl⟩ := C
  rintro ls vs H locs ⟨hlo, rfl, hH, hlc⟩
  show W p l e R s m args below meth c H locs cells slots Q (F0 m pc ls (st.map (zv ad)))
  obtain ⟨en, hd⟩ := q_dec (n := 1) hi rfl
  subst en
  unfold z_o1 at h
  split at h
  · rename_i a rr
    exact lv_ineg hx hb hd (kk _ h ls _ H locs ⟨hlo, congrArg (fun w => Value.int w :: rr.map (zv ad)) (Int32.ofInt_neg a).symm, hH, hlc⟩)
  · exact h.elim
theorem zs_i2b  (C : q_Ctx p R s m args meth c dC dI dA Hb k) (hi : ins k pc = some (.i2b, nx, a1, a2, a3, z)) (h : z_o1 st (fun a r => G (nx, lo, .inl (z_b8 a) :: r, mm))) (kk : ∀ g, G g → zW p l e R s m args below meth c cells slots Q dC dI dA Hb ad k g) : zW p l e R s m args below meth c cells slots Q dC dI dA Hb ad k (pc, lo, st, mm) := by
  obtain ⟨hx, hb, hml, hown, hts, hK, hnm, hRf, hRl⟩ := C
  rintro ls vs H locs ⟨hlo, rfl, hH, hlc⟩
  show W p l e R s m args below meth c H locs cells slots Q (F0 m pc ls (st.map (zv ad)))
  obtain ⟨en, hd⟩ := q_dec (n := 1) hi rfl
  subst en
  unfold z_o1 at h
  split at h
  · rename_i a rr
    exact lv_i2b hx hb hd (z_i2b a) (kk _ h ls _ H locs ⟨hlo, rfl, hH, hlc⟩)
  · exact h.elim
theorem zs_i2s  (C : q_Ctx p R s m args meth c dC dI dA Hb k) (hi : ins k pc = some (.i2s, nx, a1, a2, a3, z)) (h : z_o1 st (fun a r => G (nx, lo, .inl (z_s16 a) :: r, mm))) (kk : ∀ g, G g → zW p l e R s m args below meth c cells slots Q dC dI dA Hb ad k g) : zW p l e R s m args below meth c cells slots Q dC dI dA Hb ad k (pc, lo, st, mm) := by
  obtain ⟨hx, hb, hml, hown, hts, hK, hnm, hRf, hRl⟩ := C
  rintro ls vs H locs ⟨hlo, rfl, hH, hlc⟩
  show W p l e R s m args below meth c H locs cells slots Q (F0 m pc ls (st.map (zv ad)))
  obtain ⟨en, hd⟩ := q_dec (n := 1) hi rfl
  subst en
  unfold z_o1 at h
  split at h
  · rename_i a rr
    exact lv_i2s hx hb hd (z_i2s a) (kk _ h ls _ H locs ⟨hlo, rfl, hH, hlc⟩)
  · exact h.elim
theorem zs_i2c  (C : q_Ctx p R s m args meth c dC dI dA Hb k) (hi : ins k pc = some (.i2c, nx, a1, a2, a3, z)) (h : z_o1 st (fun a r => G (nx, lo, .inl (a % 65536) :: r, mm))) (kk : ∀ g, G g → zW p l e R s m args below meth c cells slots Q dC dI dA Hb ad k g) : zW p l e R s m args below meth c cells slots Q dC dI dA Hb ad k (pc, lo, st, mm) := by
  obtain ⟨hx, hb, hml, hown, hts, hK, hnm, hRf, hRl⟩ := C
  rintro ls vs H locs ⟨hlo, rfl, hH, hlc⟩
  show W p l e R s m args below meth c H locs cells slots Q (F0 m pc ls (st.map (zv ad)))
  obtain ⟨en, hd⟩ := q_dec (n := 1) hi rfl
  subst en
  unfold z_o1 at h
  split at h
  · rename_i a rr
    exact lv_i2c hx hb hd (z_i2c a) (kk _ h ls _ H locs ⟨hlo, rfl, hH, hlc⟩)
  · exact h.elim
theorem zs_i2l  (C : q_Ctx p R s m args meth c dC dI dA Hb k) (hi : ins k pc = some (.i2l, nx, a1, a2, a3, z)) (h : z_o1 st (fun a r => G (nx, lo, .inr (.inr (wr a)) :: r, mm))) (kk : ∀ g, G g → zW p l e R s m args below meth c cells slots Q dC dI dA Hb ad k g) : zW p l e R s m args below meth c cells slots Q dC dI dA Hb ad k (pc, lo, st, mm) := by
  obtain ⟨hx, hb, hml, hown, hts, hK, hnm, hRf, hRl⟩ := C
  rintro ls vs H locs ⟨hlo, rfl, hH, hlc⟩
  show W p l e R s m args below meth c H locs cells slots Q (F0 m pc ls (st.map (zv ad)))
  obtain ⟨en, hd⟩ := q_dec (n := 1) hi rfl
  subst en
  unfold z_o1 at h
  split at h
  · rename_i a rr
    exact lv_i2l hx hb hd (z_i2l a) (kk _ h ls _ H locs ⟨hlo, rfl, hH, hlc⟩)
  · exact h.elim
theorem zs_l2i  (C : q_Ctx p R s m args meth c dC dI dA Hb k) (hi : ins k pc = some (.l2i, nx, a1, a2, a3, z)) (h : match st with
      | .inr (.inr a) :: r => G (nx, lo, .inl (wl a) :: r, mm)
      | _ => False) (kk : ∀ g, G g → zW p l e R s m args below meth c cells slots Q dC dI dA Hb ad k g) : zW p l e R s m args below meth c cells slots Q dC dI dA Hb ad k (pc, lo, st, mm) := by
  obtain ⟨hx, hb, hml, hown, hts, hK, hnm, hRf, hRl⟩ := C
  rintro ls vs H locs ⟨hlo, rfl, hH, hlc⟩
  show W p l e R s m args below meth c H locs cells slots Q (F0 m pc ls (st.map (zv ad)))
  obtain ⟨en, hd⟩ := q_dec (n := 1) hi rfl
  subst en
  split at h
  · rename_i a rr
    exact lv_l2i hx hb hd (z_l2i a) (kk _ h ls _ H locs ⟨hlo, rfl, hH, hlc⟩)
  · exact h.elim
theorem zs_ladd  (C : q_Ctx p R s m args meth c dC dI dA Hb k) (hi : ins k pc = some (.ladd, nx, a1, a2, a3, z)) (h : z_l2 st (fun a b r => G (nx, lo, .inr (.inr (a + b)) :: r, mm))) (kk : ∀ g, G g → zW p l e R s m args below meth c cells slots Q dC dI dA Hb ad k g) : zW p l e R s m args below meth c cells slots Q dC dI dA Hb ad k (pc, lo, st, mm) := by
  obtain ⟨hx, hb, hml, hown, hts, hK, hnm, hRf, hRl⟩ := C
  rintro ls vs H locs ⟨hlo, rfl, hH, hlc⟩
  show W p l e R s m args below meth c H locs cells slots Q (F0 m pc ls (st.map (zv ad)))
  obtain ⟨en, hd⟩ := q_dec (n := 1) hi rfl
  subst en
  unfold z_l2 at h
  split at h
  · rename_i b a rr
    exact lv_ladd hx hb hd (kk _ h ls _ H locs ⟨hlo, congrArg (fun w => Value.long w :: rr.map (zv ad)) (Int64.ofInt_add a b).symm, hH, hlc⟩)
  · exact h.elim
theorem zs_lmul  (C : q_Ctx p R s m args meth c dC dI dA Hb k) (hi : ins k pc = some (.lmul, nx, a1, a2, a3, z)) (h : z_l2 st (fun a b r => G (nx, lo, .inr (.inr (a * b)) :: r, mm))) (kk : ∀ g, G g → zW p l e R s m args below meth c cells slots Q dC dI dA Hb ad k g) : zW p l e R s m args below meth c cells slots Q dC dI dA Hb ad k (pc, lo, st, mm) := by
  obtain ⟨hx, hb, hml, hown, hts, hK, hnm, hRf, hRl⟩ := C
  rintro ls vs H locs ⟨hlo, rfl, hH, hlc⟩
  show W p l e R s m args below meth c H locs cells slots Q (F0 m pc ls (st.map (zv ad)))
  obtain ⟨en, hd⟩ := q_dec (n := 1) hi rfl
  subst en
  unfold z_l2 at h
  split at h
  · rename_i b a rr
    exact lv_lmul hx hb hd (kk _ h ls _ H locs ⟨hlo, congrArg (fun w => Value.long w :: rr.map (zv ad)) (Int64.ofInt_mul a b).symm, hH, hlc⟩)
  · exact h.elim
theorem zs_ldiv  (C : q_Ctx p R s m args meth c dC dI dA Hb k) (hi : ins k pc = some (.ldiv, nx, a1, a2, a3, z)) (h : z_l2 st (fun a b r => ¬ wl b = 0 ∧ G (nx, lo, .inr (.inr (Int.tdiv (wl a) (wl b))) :: r, mm))) (kk : ∀ g, G g → zW p l e R s m args below meth c cells slots Q dC dI dA Hb ad k g) : zW p l e R s m args below meth c cells slots Q dC dI dA Hb ad k (pc, lo, st, mm) := by
  obtain ⟨hx, hb, hml, hown, hts, hK, hnm, hRf, hRl⟩ := C
  rintro ls vs H locs ⟨hlo, rfl, hH, hlc⟩
  show W p l e R s m args below meth c H locs cells slots Q (F0 m pc ls (st.map (zv ad)))
  obtain ⟨en, hd⟩ := q_dec (n := 1) hi rfl
  subst en
  unfold z_l2 at h
  split at h
  · rename_i b a rr
    obtain ⟨hne, h⟩ := h
    exact lv_ldiv hx hb hd (z_lneS hne) (kk _ h ls _ H locs ⟨hlo, congrArg (fun w => Value.long w :: rr.map (zv ad)) (z_ldivS a b), hH, hlc⟩)
  · exact h.elim
theorem zs_lrem  (C : q_Ctx p R s m args meth c dC dI dA Hb k) (hi : ins k pc = some (.lrem, nx, a1, a2, a3, z)) (h : z_l2 st (fun a b r => ¬ wl b = 0 ∧ G (nx, lo, .inr (.inr (Int.tmod (wl a) (wl b))) :: r, mm))) (kk : ∀ g, G g → zW p l e R s m args below meth c cells slots Q dC dI dA Hb ad k g) : zW p l e R s m args below meth c cells slots Q dC dI dA Hb ad k (pc, lo, st, mm) := by
  obtain ⟨hx, hb, hml, hown, hts, hK, hnm, hRf, hRl⟩ := C
  rintro ls vs H locs ⟨hlo, rfl, hH, hlc⟩
  show W p l e R s m args below meth c H locs cells slots Q (F0 m pc ls (st.map (zv ad)))
  obtain ⟨en, hd⟩ := q_dec (n := 1) hi rfl
  subst en
  unfold z_l2 at h
  split at h
  · rename_i b a rr
    obtain ⟨hne, h⟩ := h
    exact lv_lrem hx hb hd (z_lneS hne) (kk _ h ls _ H locs ⟨hlo, congrArg (fun w => Value.long w :: rr.map (zv ad)) (z_lremS a b), hH, hlc⟩)
  · exact h.elim
theorem zs_lcmp  (C : q_Ctx p R s m args meth c dC dI dA Hb k) (hi : ins k pc = some (.lcmp, nx, a1, a2, a3, z)) (h : z_l2 st (fun a b r => G (nx, lo, .inl (z_lc a b) :: r, mm))) (kk : ∀ g, G g → zW p l e R s m args below meth c cells slots Q dC dI dA Hb ad k g) : zW p l e R s m args below meth c cells slots Q dC dI dA Hb ad k (pc, lo, st, mm) := by
  obtain ⟨hx, hb, hml, hown, hts, hK, hnm, hRf, hRl⟩ := C
  rintro ls vs H locs ⟨hlo, rfl, hH, hlc⟩
  show W p l e R s m args below meth c H locs cells slots Q (F0 m pc ls (st.map (zv ad)))
  obtain ⟨en, hd⟩ := q_dec (n := 1) hi rfl
  subst en
  unfold z_l2 at h
  split at h
  · rename_i b a rr
    exact W.lcmp hx hb hd (kk _ h ls _ H locs ⟨hlo, congrArg (fun w => Value.int w :: rr.map (zv ad)) (z_lcS a b), hH, hlc⟩)
  · exact h.elim
theorem zs_ifc {cc : ClassFile.Cond} {cz : Int} (C : q_Ctx p R s m args meth c dC dI dA Hb k) (hi : ins k pc = some (.ifCond cc cz, nx, a1, a2, a3, z)) (h : z_o1 st (fun a r => (z_tst cc (wr a) 0 → G (a1, lo, r, mm)) ∧ (¬ z_tst cc (wr a) 0 → G (nx, lo, r, mm)))) (kk : ∀ g, G g → zW p l e R s m args below meth c cells slots Q dC dI dA Hb ad k g) : zW p l e R s m args below meth c cells slots Q dC dI dA Hb ad k (pc, lo, st, mm) := by
  obtain ⟨hx, hb, hml, hown, hts, hK, hnm, hRf, hRl⟩ := C
  rintro ls vs H locs ⟨hlo, rfl, hH, hlc⟩
  show W p l e R s m args below meth c H locs cells slots Q (F0 m pc ls (st.map (zv ad)))
  obtain ⟨en, hd⟩ := q_dec (n := 3) hi rfl
  subst en
  have hc := (q_rowI hi).2.2.1
  simp only [c_I, Bool.and_eq_true, decide_eq_true_eq] at hc
  have ht := hc.1
  unfold z_o1 at h
  split at h
  · rename_i a rr
    have e0 : wr 0 = 0 := by decide
    have e1 : (0 : Int32) = Int32.ofInt 0 := rfl
    have S := z_cmpS cc a 0
    rw [e0, ← e1] at S
    have B : (q_holds cc (Int32.ofInt a) (0) → W p l e R s m args below meth c H locs cells slots Q (F0 m a1 ls (rr.map (zv ad)))) ∧ (¬ q_holds cc (Int32.ofInt a) (0) → W p l e R s m args below meth c H locs cells slots Q (F0 m (pc + 3) ls (rr.map (zv ad)))) := ⟨fun q => kk _ (h.1 (S.mp q)) ls _ H locs ⟨hlo, rfl, hH, hlc⟩, fun q => kk _ (h.2 (fun q2 => q (S.mpr q2))) ls _ H locs ⟨hlo, rfl, hH, hlc⟩⟩
    cases cc with
    | eq => exact lv_if_eq hx hb hd ht (fun q => B.1 (q_holdeq q)) (fun q => B.2 (q_nholdeq q))
    | ne => exact lv_if_ne hx hb hd ht (fun q => B.1 (q_holdne q)) (fun q => B.2 (q_nholdne q))
    | lt => exact lv_if_lt hx hb hd ht (fun q => B.1 (q_holdlt q)) (fun q => B.2 (q_nholdlt q))
    | ge => exact lv_if_ge hx hb hd ht (fun q => B.1 (q_holdge q)) (fun q => B.2 (q_nholdge q))
    | gt => exact lv_if_gt hx hb hd ht (fun q => B.1 (q_holdgt q)) (fun q => B.2 (q_nholdgt q))
    | le => exact lv_if_le hx hb hd ht (fun q => B.1 (q_holdle q)) (fun q => B.2 (q_nholdle q))
  · exact h.elim
theorem zs_icmp {cc : ClassFile.Cond} {cz : Int} (C : q_Ctx p R s m args meth c dC dI dA Hb k) (hi : ins k pc = some (.if_icmp cc cz, nx, a1, a2, a3, z)) (h : z_o2 st (fun a b r => (z_tst cc (wr a) (wr b) → G (a1, lo, r, mm)) ∧ (¬ z_tst cc (wr a) (wr b) → G (nx, lo, r, mm)))) (kk : ∀ g, G g → zW p l e R s m args below meth c cells slots Q dC dI dA Hb ad k g) : zW p l e R s m args below meth c cells slots Q dC dI dA Hb ad k (pc, lo, st, mm) := by
  obtain ⟨hx, hb, hml, hown, hts, hK, hnm, hRf, hRl⟩ := C
  rintro ls vs H locs ⟨hlo, rfl, hH, hlc⟩
  show W p l e R s m args below meth c H locs cells slots Q (F0 m pc ls (st.map (zv ad)))
  obtain ⟨en, hd⟩ := q_dec (n := 3) hi rfl
  subst en
  have hc := (q_rowI hi).2.2.1
  simp only [c_I, Bool.and_eq_true, decide_eq_true_eq] at hc
  have ht := hc.1
  unfold z_o2 at h
  split at h
  · rename_i b a rr
    have S := z_cmpS cc a b
    have B : (q_holds cc (Int32.ofInt a) (Int32.ofInt b) → W p l e R s m args below meth c H locs cells slots Q (F0 m a1 ls (rr.map (zv ad)))) ∧ (¬ q_holds cc (Int32.ofInt a) (Int32.ofInt b) → W p l e R s m args below meth c H locs cells slots Q (F0 m (pc + 3) ls (rr.map (zv ad)))) := ⟨fun q => kk _ (h.1 (S.mp q)) ls _ H locs ⟨hlo, rfl, hH, hlc⟩, fun q => kk _ (h.2 (fun q2 => q (S.mpr q2))) ls _ H locs ⟨hlo, rfl, hH, hlc⟩⟩
    cases cc with
    | eq => exact lv_icmp_eq hx hb hd ht (fun q => B.1 (q_holdeq q)) (fun q => B.2 (q_nholdeq q))
    | ne => exact lv_icmp_ne hx hb hd ht (fun q => B.1 (q_holdne q)) (fun q => B.2 (q_nholdne q))
    | lt => exact lv_icmp_lt hx hb hd ht (fun q => B.1 (q_holdlt q)) (fun q => B.2 (q_nholdlt q))
    | ge => exact lv_icmp_ge hx hb hd ht (fun q => B.1 (q_holdge q)) (fun q => B.2 (q_nholdge q))
    | gt => exact lv_icmp_gt hx hb hd ht (fun q => B.1 (q_holdgt q)) (fun q => B.2 (q_nholdgt q))
    | le => exact lv_icmp_le hx hb hd ht (fun q => B.1 (q_holdle q)) (fun q => B.2 (q_nholdle q))
  · exact h.elim
theorem zs_goto {cz : Int} (C : q_Ctx p R s m args meth c dC dI dA Hb k) (hi : ins k pc = some (.goto cz, nx, a1, a2, a3, z)) (h : G (a1, lo, st, mm)) (kk : ∀ g, G g → zW p l e R s m args below meth c cells slots Q dC dI dA Hb ad k g) : zW p l e R s m args below meth c cells slots Q dC dI dA Hb ad k (pc, lo, st, mm) := by
  obtain ⟨hx, hb, hml, hown, hts, hK, hnm, hRf, hRl⟩ := C
  rintro ls vs H locs ⟨hlo, rfl, hH, hlc⟩
  show W p l e R s m args below meth c H locs cells slots Q (F0 m pc ls (st.map (zv ad)))
  have hc := (q_rowI hi).2.2.1
  simp only [c_I, Bool.and_eq_true, decide_eq_true_eq] at hc
  obtain ⟨en, hd⟩ := q_dec (n := 3) hi rfl
  exact lv_goto hx hb hd hc.1 (kk _ h ls _ H locs ⟨hlo, rfl, hH, hlc⟩)
theorem zs_dup  (C : q_Ctx p R s m args meth c dC dI dA Hb k) (hi : ins k pc = some (.dup, nx, a1, a2, a3, z)) (h : match st with
      | a :: r => bif Nat.beq (z_cat a) 1 then G (nx, lo, a :: a :: r, mm) else False
      | _ => False) (kk : ∀ g, G g → zW p l e R s m args below meth c cells slots Q dC dI dA Hb ad k g) : zW p l e R s m args below meth c cells slots Q dC dI dA Hb ad k (pc, lo, st, mm) := by
  obtain ⟨hx, hb, hml, hown, hts, hK, hnm, hRf, hRl⟩ := C
  rintro ls vs H locs ⟨hlo, rfl, hH, hlc⟩
  show W p l e R s m args below meth c H locs cells slots Q (F0 m pc ls (st.map (zv ad)))
  obtain ⟨en, hd⟩ := q_dec (n := 1) hi rfl
  subst en
  split at h
  · rename_i a rr
    obtain ⟨h1, h⟩ := z_bif h
    exact lv_dup hx hb hd ((z_catS ad a).trans (Nat.eq_of_beq_eq_true h1)) (kk _ h ls _ H locs ⟨hlo, rfl, hH, hlc⟩)
  · exact h.elim
theorem zs_pop  (C : q_Ctx p R s m args meth c dC dI dA Hb k) (hi : ins k pc = some (.pop, nx, a1, a2, a3, z)) (h : match st with
      | a :: r => bif Nat.beq (z_cat a) 1 then G (nx, lo, r, mm) else False
      | _ => False) (kk : ∀ g, G g → zW p l e R s m args below meth c cells slots Q dC dI dA Hb ad k g) : zW p l e R s m args below meth c cells slots Q dC dI dA Hb ad k (pc, lo, st, mm) := by
  obtain ⟨hx, hb, hml, hown, hts, hK, hnm, hRf, hRl⟩ := C
  rintro ls vs H locs ⟨hlo, rfl, hH, hlc⟩
  show W p l e R s m args below meth c H locs cells slots Q (F0 m pc ls (st.map (zv ad)))
  obtain ⟨en, hd⟩ := q_dec (n := 1) hi rfl
  subst en
  split at h
  · rename_i a rr
    obtain ⟨h1, h⟩ := z_bif h
    exact lv_pop hx hb hd ((z_catS ad a).trans (Nat.eq_of_beq_eq_true h1)) (kk _ h ls _ H locs ⟨hlo, rfl, hH, hlc⟩)
  · exact h.elim
theorem zs_dup_x1  (C : q_Ctx p R s m args meth c dC dI dA Hb k) (hi : ins k pc = some (.dup_x1, nx, a1, a2, a3, z)) (h : match st with
      | a :: b :: r => bif Nat.beq (z_cat a) 1 && Nat.beq (z_cat b) 1 then G (nx, lo, a :: b :: a :: r, mm) else False
      | _ => False) (kk : ∀ g, G g → zW p l e R s m args below meth c cells slots Q dC dI dA Hb ad k g) : zW p l e R s m args below meth c cells slots Q dC dI dA Hb ad k (pc, lo, st, mm) := by
  obtain ⟨hx, hb, hml, hown, hts, hK, hnm, hRf, hRl⟩ := C
  rintro ls vs H locs ⟨hlo, rfl, hH, hlc⟩
  show W p l e R s m args below meth c H locs cells slots Q (F0 m pc ls (st.map (zv ad)))
  obtain ⟨en, hd⟩ := q_dec (n := 1) hi rfl
  subst en
  split at h
  · rename_i a b rr
    obtain ⟨h1, h⟩ := z_bif h
    rw [Bool.and_eq_true] at h1
    exact lv_dup_x1 hx hb hd ((z_catS ad a).trans (Nat.eq_of_beq_eq_true h1.1)) ((z_catS ad b).trans (Nat.eq_of_beq_eq_true h1.2)) (kk _ h ls _ H locs ⟨hlo, rfl, hH, hlc⟩)
  · exact h.elim
theorem zs_dup2  (C : q_Ctx p R s m args meth c dC dI dA Hb k) (hi : ins k pc = some (.dup2, nx, a1, a2, a3, z)) (h : match st with
      | a :: b :: r => bif Nat.beq (z_cat a) 1 && Nat.beq (z_cat b) 1 then G (nx, lo, a :: b :: a :: b :: r, mm) else False
      | _ => False) (kk : ∀ g, G g → zW p l e R s m args below meth c cells slots Q dC dI dA Hb ad k g) : zW p l e R s m args below meth c cells slots Q dC dI dA Hb ad k (pc, lo, st, mm) := by
  obtain ⟨hx, hb, hml, hown, hts, hK, hnm, hRf, hRl⟩ := C
  rintro ls vs H locs ⟨hlo, rfl, hH, hlc⟩
  show W p l e R s m args below meth c H locs cells slots Q (F0 m pc ls (st.map (zv ad)))
  obtain ⟨en, hd⟩ := q_dec (n := 1) hi rfl
  subst en
  split at h
  · rename_i a b rr
    obtain ⟨h1, h⟩ := z_bif h
    rw [Bool.and_eq_true] at h1
    exact lv_dup2_11 hx hb hd ((z_catS ad a).trans (Nat.eq_of_beq_eq_true h1.1)) ((z_catS ad b).trans (Nat.eq_of_beq_eq_true h1.2)) (kk _ h ls _ H locs ⟨hlo, rfl, hH, hlc⟩)
  · exact h.elim
end ZStep
end
-- 39e.zstep2.lean.txt
section
/-! Switches, fields, rows. -/
theorem z_tabS {w : Int} {pc : Nat} {G : Nat → Prop} {d : Int} : ∀ {os : List Int} {z : Int}, z_tab w pc G d z os → (∀ o, z ≤ w → os[(w - z).toNat]? = some o → G ((pc : Int) + o).toNat) ∧ ((w < z ∨ z + (os.length : Int) ≤ w) → G ((pc : Int) + d).toNat)
  | [], z, h => ⟨fun o _ ho => by simp at ho, fun _ => h⟩
  | o0 :: os, z, h => by
    obtain ⟨h1, h2⟩ := h
    refine ⟨fun o hz ho => ?_, fun hw => ?_⟩
    · by_cases e : w = z
      · rw [show (w - z).toNat = 0 by omega] at ho
        simp at ho
        rw [← ho]
        exact h1 e
      · refine (z_tabS (h2 e)).1 o (by omega) ?_
        rw [show (w - z).toNat = (w - (z + 1)).toNat + 1 by omega] at ho
        simpa using ho
    · rw [List.length_cons] at hw
      exact (z_tabS (h2 (by omega))).2 (by omega)
theorem z_lookS {w : Int} {pc : Nat} {G : Nat → Prop} {d : Int} : ∀ {ps : List (Int × Int)}, z_look w pc G d ps → G ((pc : Int) + Op.lookupswitch.offset ps d w).toNat
  | [], h => h
  | (a, o) :: r, h => by
    obtain ⟨h1, h2⟩ := h
    rw [Op.lookupswitch.offset_cons]
    by_cases e : a = w
    · rw [if_pos e]
      exact h1 e.symm
    · rw [if_neg e]
      exact z_lookS (h2 (fun q => e q.symm))
theorem z_spS {w : Int} {G : Nat → Prop} : ∀ {cs : List Nat} {z : Int}, z_sp w G z cs → z ≤ w → ∀ c, cs[(w - z).toNat]? = some c → G c
  | [], z, _, _, c, hc => by simp at hc
  | c0 :: cs, z, h, hz, c, hc => by
    obtain ⟨h1, h2⟩ := h
    by_cases e : w = z
    · rw [show (w - z).toNat = 0 by omega] at hc
      simp at hc
      rw [← hc]
      exact h1 e
    · refine z_spS h2 (by omega) c ?_
      rw [show (w - z).toNat = (w - (z + 1)).toNat + 1 by omega] at hc
      simpa using hc
theorem z_ciS {q ci : Nat} (h : Nat.beq (z_ci q) ci = true) {w : vw_C} (hw : vwCl[ci]? = some w) : zkd q = some (.inr (.inr (.inr ci))) ∧ q ≠ 0 := by
  have e := Nat.eq_of_beq_eq_true h
  have h1 : zkd q = some (.inr (.inr (.inr ci))) := by
    unfold z_ci at e
    split at e
    · rename_i c2 hq
      rw [hq, e]
    · rw [← e] at hw
      exact absurd hw (by simp [vwCl])
  refine ⟨h1, fun e0 => ?_⟩
  rw [e0] at h1
  cases h1
theorem z_rwS {m : zM} {q : Nat} {ty : FieldType} {n : Int} (h : z_rw m q = some (ty, n)) (h0 : q ≠ 0) : ∃ n0 : Nat, zkd q = some (.inl (ty, n0)) ∧ n = (n0 : Int) := by
  unfold z_rw at h
  rw [q_beqF h0] at h
  simp only [cond_false] at h
  split at h
  · rename_i ty2 n2 hq
    cases h
    exact ⟨_, hq, rfl⟩
  · cases h
theorem z_rw0 {m : zM} {ty : FieldType} {n : Int} (h : z_rw m 0 = some (ty, n)) : ty = .int ∧ n = m 110 0 := by
  cases h
  exact ⟨rfl, rfl⟩
theorem z_lrS {q : Nat} {n : Int} (h : z_lr q = some n) : ∃ n0 : Nat, zkd q = some (.inr (.inl n0)) ∧ n = (n0 : Int) ∧ q ≠ 0 := by
  unfold z_lr at h
  split at h
  · rename_i n2 hq
    cases h
    refine ⟨_, hq, rfl, fun e0 => ?_⟩
    rw [e0] at hq
    cases hq
  · cases h
theorem z_rrS {q : Nat} {cs : List Nat} (h : z_rr q = some cs) : zkd q = some (.inr (.inr (.inl cs))) ∧ q ≠ 0 := by
  unfold z_rr at h
  split at h
  · rename_i n2 hq
    cases h
    refine ⟨hq, fun e0 => ?_⟩
    rw [e0] at hq
    cases hq
  · cases h
theorem z_keepT {ty : FieldType} {kind : Nat} {v : Int} (h : p_is ty kind = true) (hf : z_fit ty v) : q_keep ty (Int32.ofInt v) = Int32.ofInt v := by
  rcases q_isT h with ⟨-, rfl⟩ | ⟨-, rfl⟩ | ⟨-, rfl⟩ | ⟨-, rfl⟩
  · rfl
  · show vp_nar .byte (Int32.ofInt v) = _
    rw [vp_nar_byte]
    exact (q_i2bB _).2.2 (by rw [wrE]; exact hf.1) (by rw [wrE]; exact hf.2)
  · exact (s_bool1 _).2.2 (by rw [wrE]; exact hf.1) (by rw [wrE]; exact hf.2)
  · show vp_nar .char (Int32.ofInt v) = _
    rw [vp_nar_char, ← lg_i2c_nf]
    exact (q_i2cB _).2.2 (by rw [wrE]; exact hf.1) (by rw [wrE]; exact hf.2)
theorem z_ffitS {ad : Nat → Nat} {ty : FieldType} {v : Int} (h : z_ffit ty v) : narrow ty (zv ad (.inl v)) = zv ad (.inl v) ∧ fits ty (zv ad (.inl v)) = true := by
  unfold z_ffit at h
  split at h
  · exact ⟨rfl, rfl⟩
  · have hc : Int32.ofInt v = 0 ∨ Int32.ofInt v = 1 := by
      by_cases h0 : wr v = 0
      · exact Or.inl (z_eq32 (by rw [wrE, h0]; rfl))
      · exact Or.inr (z_eq32 (by rw [wrE, show wr v = 1 by omega]; rfl))
    show narrow .boolean (.int (Int32.ofInt v)) = .int (Int32.ofInt v) ∧ fits .boolean (.int (Int32.ofInt v)) = true
    rcases hc with e | e
    · rw [e]
      exact ⟨rfl, rfl⟩
    · rw [e]
      exact ⟨rfl, rfl⟩
  · exact h.elim
theorem z_isAS {ty : FieldType} (h : z_isA ty = true) : ∃ t, ty = .array t := by
  unfold z_isA at h
  split at h
  · exact ⟨_, rfl⟩
  · cases h
section ZStep2
variable {p : Program} {l : Launch} {e : Env} {R : Room} {s : State} {m : MethodId} {args : Array Value} {below : List Frame} {meth : Method} {c : Code} {cells slots : Nat} {Q : State → Prop}
variable {dC : Nat → ClassId} {dI : Nat → Nat → Nat} {dA : FieldType → ClassId} {ad : Nat → Nat} {Hb : Heap} {k pc nx a1 a2 a3 : Nat} {z : Int} {lo : zL} {st : List zA} {mm : zM} {G : zG → Prop}
theorem zs_tsw {d low high : Int} {os : Array Int} (C : q_Ctx p R s m args meth c dC dI dA Hb k) (hi : ins k pc = some (.tableswitch d low high os, nx, a1, a2, a3, z)) (h : bif decide (high - low + 1 = (os.size : Int)) then z_o1 st (fun a r => z_tab (wr a) pc (fun t => G (t, lo, r, mm)) d low os.toList) else False) (kk : ∀ g, G g → zW p l e R s m args below meth c cells slots Q dC dI dA Hb ad k g) : zW p l e R s m args below meth c cells slots Q dC dI dA Hb ad k (pc, lo, st, mm) := by
  obtain ⟨hx, hb, hml, hown, hts, hK, hnm, hRf, hRl⟩ := C
  rintro ls vs H locs ⟨hlo, rfl, hH, hlc⟩
  show W p l e R s m args below meth c H locs cells slots Q (F0 m pc ls (st.map (zv ad)))
  have hc := (q_rowI hi).2.2.1
  have hd := (q_rowI hi).2.1
  simp only [c_I, Bool.and_eq_true, decide_eq_true_eq] at hc
  replace h := z_bif h
  obtain ⟨hsz, h⟩ := h
  replace hsz := of_decide_eq_true hsz
  unfold z_o1 at h
  split at h
  · rename_i a rr
    have hl : (os.toList.length : Int) = (os.size : Int) := by rw [Array.length_toList]
    obtain ⟨t1, t2⟩ := z_tabS h
    by_cases hin : low ≤ wr a ∧ wr a ≤ high
    · have hlt : (wr a - low).toNat < os.toList.length := by omega
      have ho : os.toList[(wr a - low).toNat]? = some (os.toList[(wr a - low).toNat]) := List.getElem?_eq_getElem hlt
      generalize os.toList[(wr a - low).toNat] = off at ho
      have hoff : 0 ≤ (pc : Int) + off := of_decide_eq_true (List.all_eq_true.mp hc.2 off (List.mem_of_getElem? ho))
      refine lv_tableIn (tgt := ((pc : Int) + off).toNat) hx hb hd (by rw [wrE]; omega) (by rw [wrE]; omega) (by rw [wrE, ← Array.getElem?_toList]; exact ho) (by rw [Int.toNat_of_nonneg hoff]) ?_
      exact kk _ (t1 off hin.1 ho) ls _ H locs ⟨hlo, rfl, hH, hlc⟩
    · refine lv_tableOut (tgt := ((pc : Int) + d).toNat) hx hb hd (by rw [wrE]; omega) (by rw [Int.toNat_of_nonneg hc.1]) ?_
      exact kk _ (t2 (by omega)) ls _ H locs ⟨hlo, rfl, hH, hlc⟩
  · exact h.elim
theorem zs_lsw {d : Int} {ps : Array (Int × Int)} (C : q_Ctx p R s m args meth c dC dI dA Hb k) (hi : ins k pc = some (.lookupswitch d ps, nx, a1, a2, a3, z)) (h : bif (ps.toList.zip (ps.toList.drop 1)).all (fun q => decide (q.1.1 < q.2.1)) && ps.toList.all (fun q => s_le 0 ((pc : Int) + q.2)) && s_le 0 ((pc : Int) + d) then z_o1 st (fun a r => z_look (wr a) pc (fun t => G (t, lo, r, mm)) d ps.toList) else False) (kk : ∀ g, G g → zW p l e R s m args below meth c cells slots Q dC dI dA Hb ad k g) : zW p l e R s m args below meth c cells slots Q dC dI dA Hb ad k (pc, lo, st, mm) := by
  obtain ⟨hx, hb, hml, hown, hts, hK, hnm, hRf, hRl⟩ := C
  rintro ls vs H locs ⟨hlo, rfl, hH, hlc⟩
  show W p l e R s m args below meth c H locs cells slots Q (F0 m pc ls (st.map (zv ad)))
  have hd := (q_rowI hi).2.1
  replace h := z_bif h
  obtain ⟨hh, h⟩ := h
  simp only [Bool.and_eq_true] at hh
  unfold z_o1 at h
  split at h
  · rename_i a rr
    have hoff : 0 ≤ (pc : Int) + Op.lookupswitch.offset ps.toList d (wr a) := by
      rcases s_offMem (d := d) (x := wr a) (ps := ps.toList) with h1 | ⟨q, h1, h2⟩
      · rw [h1]
        exact s_le_iff.mp hh.2
      · rw [h2]
        exact s_le_iff.mp (List.all_eq_true.mp hh.1.2 q h1)
    refine lv_lookup (off := Op.lookupswitch.offset ps.toList d (wr a)) (tgt := ((pc : Int) + Op.lookupswitch.offset ps.toList d (wr a)).toNat) hx hb hd hh.1.1 (by rw [wrE]) (by rw [Int.toNat_of_nonneg hoff]) ?_
    exact kk _ (z_lookS h) ls _ H locs ⟨hlo, rfl, hH, hlc⟩
  · exact h.elim
theorem zs_getf {ci : Nat} (C : q_Ctx p R s m args meth c dC dI dA Hb k) (hi : ins k pc = some (.getfield ci, nx, a1, a2, a3, z)) (h : match st with
      | .inr (.inl (some q)) :: r => bif Nat.beq (z_ci q) a1 then z_gf mm q a2 (fun v => G (nx, lo, v :: r, mm)) else False
      | _ => False) (kk : ∀ g, G g → zW p l e R s m args below meth c cells slots Q dC dI dA Hb ad k g) : zW p l e R s m args below meth c cells slots Q dC dI dA Hb ad k (pc, lo, st, mm) := by
  obtain ⟨hx, hb, hml, hown, hts, hK, hnm, hRf, hRl⟩ := C
  rintro ls vs H locs ⟨hlo, rfl, hH, hlc⟩
  show W p l e R s m args below meth c H locs cells slots Q (F0 m pc ls (st.map (zv ad)))
  obtain ⟨en, hd⟩ := q_dec (n := 3) hi rfl
  subst en
  have hc := (q_rowI hi).2.2.1
  obtain ⟨w, hw1, hw2, hw3, hw4⟩ := q_fldW hc
  split at h
  · rename_i q rr
    replace h := z_bif h
    obtain ⟨hj, h⟩ := h
    obtain ⟨hk1, hk0⟩ := z_ciS hj hw1
    obtain ⟨-, q2, g2, g3⟩ := hH.2.2.2.1 _ _ hk0 hk1
    cases Option.some.inj (hw1.symm.trans g2)
    have gx : ((List.range w.2.2).map (fun k => zv ad (z_fv mm q k)))[a2]? = some (zv ad (z_fv mm q a2)) := by
      rw [List.getElem?_map, List.getElem?_range hw2]
      rfl
    refine q_get (D := (dC, dI)) hx hb hts (q_clsA _ _ hw1).1 hown hK.1 g3 hw1 a2 hw2 (hts _ hw3) hw4 gx hd ?_
    unfold z_gf at h
    cases h9 : Nat.beq (z_fk q a2) 999 with
    | false =>
      rw [h9] at h
      exact kk _ h ls _ H locs ⟨hlo, rfl, hH, hlc⟩
    | true =>
      rw [h9] at h
      have e9 := Nat.eq_of_beq_eq_true h9
      obtain ⟨h1, h2, h3⟩ := h
      have ev : z_fv mm q a2 = .inr (.inl (z_rd (mm q a2))) := by
        unfold z_fv
        rw [e9]
        rfl
      rw [ev]
      rcases h1 with h1 | h1
      · rw [h1]
        exact kk _ (h2 h1) ls _ H locs ⟨hlo, rfl, hH, hlc⟩
      · rw [h1]
        exact kk _ (h3 h1) ls _ H locs ⟨hlo, rfl, hH, hlc⟩
  · exact h.elim
theorem z_putH {q ci : Nat} {w : vw_C} {H H1 : Heap} {mm : zM} {v : zA} {x : Int} (hH : zH dC dI dA Hb ad mm H) (hw1 : vwCl[ci]? = some w) (hw2 : a2 < w.2.2) (hk1 : zkd q = some (.inr (.inr (.inr ci)))) (hk0 : q ≠ 0) (hv : z_fv (zu mm q a2 x) q a2 = v) (z1 : H1.size = H.size) (z2 : ∀ y : Nat, y ≠ ad q → H1[y]? = H[y]?) (z3 : t_OB (ad q) (dC ci) w.2.2 (dI ci) H1 (vp_V (((List.range w.2.2).map (fun k => zv ad (z_fv mm q k))).set a2 (zv ad v)))) : zH dC dI dA Hb ad (zu mm q a2 x) H1 := by
  refine hH.set hk1 hk0 z1 z2 (fun d hd => zu_ne hd) ⟨w, hw1, ?_⟩
  rw [z_setL (g := fun k => zv ad (z_fv (zu mm q a2 x) q k)) hw2 (by show zv ad (z_fv (zu mm q a2 x) q a2) = _; rw [hv]) (fun j hj => ?_)] at z3
  · exact z3
  · show zv ad (z_fv (zu mm q a2 x) q j) = zv ad (z_fv mm q j)
    unfold z_fv
    rw [zu_at, if_neg hj]
theorem zs_putf {ci : Nat} (C : q_Ctx p R s m args meth c dC dI dA Hb k) (hi : ins k pc = some (.putfield ci, nx, a1, a2, a3, z)) (h : match st with
      | v :: .inr (.inl (some q)) :: r => bif Nat.beq (z_ci q) a1 then z_pf mm q a1 a2 v (fun m1 => G (nx, lo, r, m1)) else False
      | _ => False) (kk : ∀ g, G g → zW p l e R s m args below meth c cells slots Q dC dI dA Hb ad k g) : zW p l e R s m args below meth c cells slots Q dC dI dA Hb ad k (pc, lo, st, mm) := by
  obtain ⟨hx, hb, hml, hown, hts, hK, hnm, hRf, hRl⟩ := C
  rintro ls vs H locs ⟨hlo, rfl, hH, hlc⟩
  show W p l e R s m args below meth c H locs cells slots Q (F0 m pc ls (st.map (zv ad)))
  obtain ⟨en, hd⟩ := q_dec (n := 3) hi rfl
  subst en
  have hc := (q_rowI hi).2.2.1
  have hc' : c_fld k ci a1 a2 a3 = true ∧ c_fin k a1 a2 = true := by simpa only [c_I, Bool.and_eq_true] using hc
  obtain ⟨w, hw1, hw2, hw3, hw4⟩ := q_fldW hc'.1
  split at h
  · rename_i v q rr
    replace h := z_bif h
    obtain ⟨hj, h⟩ := h
    obtain ⟨hk1, hk0⟩ := z_ciS hj hw1
    obtain ⟨gb, q2, g2, g3⟩ := hH.2.2.2.1 _ _ hk0 hk1
    cases Option.some.inj (hw1.symm.trans g2)
    have hcl := q_clsA _ _ hw1
    have go : ∀ (x : Int), z_fv (zu mm q a2 x) q a2 = v → narrow (tyOf a1 a2) (zv ad v) = zv ad v → fits (tyOf a1 a2) (zv ad v) = true → G (pc + 3, lo, rr, zu mm q a2 x) → W p l e R s m args below meth c H locs cells slots Q (F0 m pc ls (zv ad v :: .ref (ad q) :: rr.map (zv ad))) := by
      intro x hv f1 f2 hG
      refine q_put (D := (dC, dI)) hx hb hts hcl.1 (tyOf a1) hcl.2.1 hcl.2.2.1 hown hK.1 g3 hw1 a2 hw2 (hts _ hw3) hw4 ((q_finW hc'.2 hw1).imp id (fun q => ⟨hnm q.1, q.2⟩)) f1 f2 (by rw [List.length_map, List.length_range]; exact hw2) hd (fun H1 sl z1 z2 z3 => ?_)
      refine kk _ hG ls _ H1 _ ⟨hlo, rfl, z_putH hH hw1 hw2 hk1 hk0 hv z1 z2 z3, fun y hy => ?_⟩
      rcases List.mem_append.mp hy with hy | hy
      · exact hlc y hy
      · rw [List.mem_singleton.mp hy]
        exact gb
    unfold z_pf at h
    cases h0 : Nat.beq (z_fk q a2) 0 with
    | true =>
      rw [h0] at h
      simp only [cond_true] at h
      split at h
      · rename_i a
        obtain ⟨hf, h⟩ := h
        obtain ⟨f1, f2⟩ := z_ffitS (ad := ad) hf
        refine go a ?_ f1 f2 h
        unfold z_fv
        rw [h0, zu_at, if_pos rfl]
        rfl
      · exact h.elim
    | false =>
      rw [h0] at h
      simp only [cond_false] at h
      cases h9 : Nat.beq (z_fk q a2) 999 with
      | false =>
        rw [h9] at h
        exact h.elim
      | true =>
        rw [h9] at h
        simp only [cond_true] at h
        split at h
        · rename_i w9
          replace h := z_bif h
          obtain ⟨hb9, h⟩ := h
          rw [Bool.and_eq_true, Bool.or_eq_true] at hb9
          obtain ⟨t9, e9⟩ := z_isAS hb9.2
          refine go (w9 : Int) ?_ (by rw [e9]; rfl) (by rw [e9]; rfl) h
          unfold z_fv
          rw [h0, h9, zu_at, if_pos rfl]
          rcases hb9.1 with h8 | h8
          · rw [Nat.eq_of_beq_eq_true h8]
            rfl
          · rw [Nat.eq_of_beq_eq_true h8]
            rfl
        · exact h.elim
  · exact h.elim
theorem zs_rld {kind : Nat} (C : q_Ctx p R s m args meth c dC dI dA Hb k) (hi : ins k pc = some (q_ldI kind, nx, a1, a2, a3, z)) (h : z_rdR mm st kind (fun v r => G (nx, lo, .inl v :: r, mm))) (kk : ∀ g, G g → zW p l e R s m args below meth c cells slots Q dC dI dA Hb ad k g) : zW p l e R s m args below meth c cells slots Q dC dI dA Hb ad k (pc, lo, st, mm) := by
  obtain ⟨hx, hb, hml, hown, hts, hK, hnm, hRf, hRl⟩ := C
  rintro ls vs H locs ⟨hlo, rfl, hH, hlc⟩
  show W p l e R s m args below meth c H locs cells slots Q (F0 m pc ls (st.map (zv ad)))
  have hlen : c_lenI (q_ldI kind) = some 1 := by rcases kind with _ | _ | kind <;> rfl
  obtain ⟨en, hd⟩ := q_dec (n := 1) hi hlen
  subst en
  unfold z_rdR at h
  split at h
  · rename_i i q rr
    split at h
    · rename_i ty n hrw
      replace h := z_bif h
      obtain ⟨hty, hix, h⟩ := h
      have fin : W p l e R s m args below meth c H locs cells slots Q (F0 m (pc + 1) ls (.int (Int32.ofInt (mm q (wr i).toNat)) :: rr.map (zv ad))) := kk _ h ls _ H locs ⟨hlo, rfl, hH, hlc⟩
      by_cases h0 : q = 0
      · subst h0
        obtain ⟨rfl, rfl⟩ := z_rw0 hrw
        obtain ⟨⟨s2, s3⟩, scr, t1, t2, t3, t4⟩ := hH.2.2.1
        have t3 : ((scr.slots.size : Nat) : Int) = mm 110 0 := t3
        have ek : kind = 0 := by rcases q_isT hty with ⟨e, -⟩ | ⟨-, e⟩ | ⟨-, e⟩ | ⟨-, e⟩ <;> first | exact e | cases e
        subst ek
        rw [← t3] at hix
        obtain ⟨i1, i2, i3⟩ := z_ixS hix
        have hsc : Hb[dA .short]? = some scr := by
          rw [← s2, ← hH.1 _ s3]
          exact t1
        refine W.iald (v := .int (Int32.ofInt (mm 0 (wr i).toNat))) hx hb t1 (hK.2.2.1.2 scr hsc) t2 i1 ?_ rfl rfl hd fin
        rw [i3]
        exact t4 _ i2
      · obtain ⟨n0, hk, rfl⟩ := z_rwS hrw h0
        obtain ⟨gb, g1, g2⟩ := hH.2.2.2.1 _ _ h0 hk
        obtain ⟨i1, i2, i3⟩ := z_ixS hix
        refine q_ld hx hb (q_ofT hty hK) g1 i1 hd ?_ ?_
        · rcases q_isT hty with ⟨rfl, e1⟩ | ⟨rfl, e1⟩ | ⟨rfl, e1⟩ | ⟨rfl, e1⟩ <;> simp [q_ldI, e1]
        · rw [i3]
          exact fin
    · exact h.elim
  · exact h.elim
theorem zs_rst {kind : Nat} (C : q_Ctx p R s m args meth c dC dI dA Hb k) (hi : ins k pc = some (q_stI kind, nx, a1, a2, a3, z)) (h : z_wrR mm st kind (fun m1 r => G (nx, lo, r, m1))) (kk : ∀ g, G g → zW p l e R s m args below meth c cells slots Q dC dI dA Hb ad k g) : zW p l e R s m args below meth c cells slots Q dC dI dA Hb ad k (pc, lo, st, mm) := by
  obtain ⟨hx, hb, hml, hown, hts, hK, hnm, hRf, hRl⟩ := C
  rintro ls vs H locs ⟨hlo, rfl, hH, hlc⟩
  show W p l e R s m args below meth c H locs cells slots Q (F0 m pc ls (st.map (zv ad)))
  have hlen : c_lenI (q_stI kind) = some 1 := by rcases kind with _ | _ | kind <;> rfl
  obtain ⟨en, hd⟩ := q_dec (n := 1) hi hlen
  subst en
  unfold z_wrR at h
  split at h
  · rename_i v i q rr
    cases hq0 : Nat.beq q 0 with
    | true =>
      rw [hq0] at h
      exact h.elim
    | false =>
      rw [hq0] at h
      simp only [cond_false] at h
      have h0 : q ≠ 0 := Nat.ne_of_beq_eq_false hq0
      split at h
      · rename_i ty n hrw
        replace h := z_bif h
        obtain ⟨hty, ⟨hix, hfit⟩, h⟩ := h
        obtain ⟨n0, hk, rfl⟩ := z_rwS hrw h0
        obtain ⟨gb, g1, g2⟩ := hH.2.2.2.1 _ _ h0 hk
        obtain ⟨i1, i2, i3⟩ := z_ixS hix
        refine q_st hx hb (q_ofT hty hK) g1 (x := Int32.ofInt v) i1 hd ?_ (fun H1 z1 z2 z3 => ?_)
        · rcases q_isT hty with ⟨rfl, e1⟩ | ⟨rfl, e1⟩ | ⟨rfl, e1⟩ | ⟨rfl, e1⟩ <;> simp [q_stI, e1]
        · rw [z_keepT hty hfit, i3] at z3
          refine kk _ h ls _ H1 _ ⟨hlo, rfl, hH.set hk h0 z1 z2 (fun d hd => zu_ne hd) ⟨?_, g2⟩, fun y hy => ?_⟩
          · rw [z3]
            congr 4
            funext j
            dsimp only
            rw [zu_at]
            unfold upd
            by_cases e : j = (wr i).toNat
            · rw [if_pos e, if_pos e]
            · rw [if_neg e, if_neg e]
          · rcases List.mem_append.mp hy with hy | hy
            · exact hlc y hy
            · rw [List.mem_singleton.mp hy]
              exact gb
      · exact h.elim
  · exact h.elim
theorem zs_lald (C : q_Ctx p R s m args meth c dC dI dA Hb k) (hi : ins k pc = some (.laload, nx, a1, a2, a3, z)) (h : match st with
      | .inl i :: .inr (.inl (some q)) :: r => (match z_lr q with
        | some n => z_ix i n ∧ G (nx, lo, .inr (.inr (mm q (wr i).toNat)) :: r, mm)
        | none => False)
      | _ => False) (kk : ∀ g, G g → zW p l e R s m args below meth c cells slots Q dC dI dA Hb ad k g) : zW p l e R s m args below meth c cells slots Q dC dI dA Hb ad k (pc, lo, st, mm) := by
  obtain ⟨hx, hb, hml, hown, hts, hK, hnm, hRf, hRl⟩ := C
  rintro ls vs H locs ⟨hlo, rfl, hH, hlc⟩
  show W p l e R s m args below meth c H locs cells slots Q (F0 m pc ls (st.map (zv ad)))
  obtain ⟨en, hd⟩ := q_dec (n := 1) hi rfl
  subst en
  split at h
  · rename_i i q rr
    split at h
    · rename_i n hlr
      obtain ⟨hix, h⟩ := h
      obtain ⟨n0, hk, rfl, h0⟩ := z_lrS hlr
      obtain ⟨gb, g1⟩ := hH.2.2.2.1 _ _ h0 hk
      have g1 : H[ad q]? = some (vp_cell (dA .long) (n0, .inr (.inl (fun j => Int64.ofInt (mm q j))))) := g1
      obtain ⟨i1, i2, i3⟩ := z_ixS hix
      refine W.lald (v := .long (Int64.ofInt (mm q (wr i).toNat))) hx hb g1 ((hK.1.2 4 _ rfl).1 n0 (fun j => .long (Int64.ofInt (mm q j)))) (fun q => by cases q) (by show ¬ (Int32.ofInt i < 0 ∨ (arrV _ _ _).slots.size ≤ _); rw [arrV_size]; exact i1) ?_ rfl rfl hd (kk _ h ls _ H locs ⟨hlo, rfl, hH, hlc⟩)
      show (arrV _ _ _).slots[_]? = _
      rw [i3, arrV_read _ _ i2]
    · exact h.elim
  · exact h.elim
theorem zs_last (C : q_Ctx p R s m args meth c dC dI dA Hb k) (hi : ins k pc = some (.lastore, nx, a1, a2, a3, z)) (h : match st with
      | .inr (.inr v) :: .inl i :: .inr (.inl (some q)) :: r => (match z_lr q with
        | some n => z_ix i n ∧ G (nx, lo, r, zu mm q (wr i).toNat v)
        | none => False)
      | _ => False) (kk : ∀ g, G g → zW p l e R s m args below meth c cells slots Q dC dI dA Hb ad k g) : zW p l e R s m args below meth c cells slots Q dC dI dA Hb ad k (pc, lo, st, mm) := by
  obtain ⟨hx, hb, hml, hown, hts, hK, hnm, hRf, hRl⟩ := C
  rintro ls vs H locs ⟨hlo, rfl, hH, hlc⟩
  show W p l e R s m args below meth c H locs cells slots Q (F0 m pc ls (st.map (zv ad)))
  obtain ⟨en, hd⟩ := q_dec (n := 1) hi rfl
  subst en
  split at h
  · rename_i v i q rr
    split at h
    · rename_i n hlr
      obtain ⟨hix, h⟩ := h
      obtain ⟨n0, hk, rfl, h0⟩ := z_lrS hlr
      obtain ⟨gb, g1⟩ := hH.2.2.2.1 _ _ h0 hk
      have g1 : H[ad q]? = some (vp_cell (dA .long) (n0, .inr (.inl (fun j => Int64.ofInt (mm q j))))) := g1
      obtain ⟨i1, i2, i3⟩ := z_ixS hix
      refine W.last hx hb g1 ((hK.1.2 4 _ rfl).1 n0 (fun j => .long (Int64.ofInt (mm q j)))) (fun q => by cases q) (by show ¬ (Int32.ofInt i < 0 ∨ (arrV _ _ _).slots.size ≤ _); rw [arrV_size]; exact i1) rfl rfl hd fun H1 e1 z1 o1 => ?_
      rw [q_updL, i3] at e1
      refine kk _ h ls _ H1 _ ⟨hlo, rfl, hH.set hk h0 z1 o1 (fun d hd => zu_ne hd) ?_, fun y hy => ?_⟩
      · show H1[ad q]? = _
        rw [e1]
        congr 5
        funext j
        show vp_updL _ _ _ j = Int64.ofInt (zu mm q (wr i).toNat v q j)
        rw [zu_at]
        unfold vp_updL
        by_cases e : j = (wr i).toNat
        · rw [if_pos e, if_pos e]
        · rw [if_neg e, if_neg e]
      · rcases List.mem_append.mp hy with hy | hy
        · exact hlc y hy
        · rw [List.mem_singleton.mp hy]
          exact gb
    · exact h.elim
  · exact h.elim
theorem zs_aald (C : q_Ctx p R s m args meth c dC dI dA Hb k) (hi : ins k pc = some (.aaload, nx, a1, a2, a3, z)) (h : match st with
      | .inl i :: .inr (.inl (some q)) :: r => (match z_rr q with
        | some cs => z_ix i (cs.length : Int) ∧ z_sp (wr i) (fun c => G (nx, lo, .inr (.inl (some c)) :: r, mm)) 0 cs
        | none => False)
      | _ => False) (kk : ∀ g, G g → zW p l e R s m args below meth c cells slots Q dC dI dA Hb ad k g) : zW p l e R s m args below meth c cells slots Q dC dI dA Hb ad k (pc, lo, st, mm) := by
  obtain ⟨hx, hb, hml, hown, hts, hK, hnm, hRf, hRl⟩ := C
  rintro ls vs H locs ⟨hlo, rfl, hH, hlc⟩
  show W p l e R s m args below meth c H locs cells slots Q (F0 m pc ls (st.map (zv ad)))
  obtain ⟨en, hd⟩ := q_dec (n := 1) hi rfl
  subst en
  split at h
  · rename_i i q rr
    split at h
    · rename_i cs hrr
      obtain ⟨hix, h⟩ := h
      obtain ⟨hk, h0⟩ := z_rrS hrr
      obtain ⟨gb, g, g1, g2⟩ := hH.2.2.2.1 _ _ h0 hk
      obtain ⟨i1, i2, i3⟩ := z_ixS hix
      have hc := List.getElem?_eq_getElem i2
      generalize cs[(wr i).toNat] = d at hc
      have hG := z_spS h hix.1 d (by rw [Int.sub_zero]; exact hc)
      refine q_ald hx hb (hK.1.2 5 _ rfl).1 g1 i1 hd ?_
      rw [i3, g2 _ _ hc]
      exact kk _ hG ls _ H locs ⟨hlo, rfl, hH, hlc⟩
    · exact h.elim
  · exact h.elim
theorem zs_alen (C : q_Ctx p R s m args meth c dC dI dA Hb k) (hi : ins k pc = some (.arraylength, nx, a1, a2, a3, z)) (h : match st with
      | .inr (.inl (some q)) :: r => (match z_ln mm q with
        | some n => G (nx, lo, .inl n :: r, mm)
        | none => False)
      | _ => False) (kk : ∀ g, G g → zW p l e R s m args below meth c cells slots Q dC dI dA Hb ad k g) : zW p l e R s m args below meth c cells slots Q dC dI dA Hb ad k (pc, lo, st, mm) := by
  obtain ⟨hx, hb, hml, hown, hts, hK, hnm, hRf, hRl⟩ := C
  rintro ls vs H locs ⟨hlo, rfl, hH, hlc⟩
  show W p l e R s m args below meth c H locs cells slots Q (F0 m pc ls (st.map (zv ad)))
  obtain ⟨en, hd⟩ := q_dec (n := 1) hi rfl
  subst en
  split at h
  · rename_i q rr
    split at h
    · rename_i n hn
      have fin : W p l e R s m args below meth c H locs cells slots Q (F0 m (pc + 1) ls (.int (Int32.ofInt n) :: rr.map (zv ad))) := kk _ h ls _ H locs ⟨hlo, rfl, hH, hlc⟩
      unfold z_ln at hn
      split at hn
      · rename_i ty n1 hrw
        cases hn
        by_cases h0 : q = 0
        · subst h0
          obtain ⟨rfl, rfl⟩ := z_rw0 hrw
          obtain ⟨⟨s2, s3⟩, scr, t1, t2, t3, t4⟩ := hH.2.2.1
          have t3 : ((scr.slots.size : Nat) : Int) = mm 110 0 := t3
          have hsc : Hb[dA .short]? = some scr := by
            rw [← s2, ← hH.1 _ s3]
            exact t1
          rw [← t3] at fin
          exact W.alen (ty := .int) hx hb t1 (hK.2.2.1.2 scr hsc) (q_ofn _) rfl rfl hd fin
        · obtain ⟨n0, hk, rfl⟩ := z_rwS hrw h0
          obtain ⟨gb, g1, g2⟩ := hH.2.2.2.1 _ _ h0 hk
          refine W.alen (ty := ty) hx hb g1 ?_ (by show (arrV _ _ _).slots.size.toInt32 = _; rw [arrV_size]; exact q_ofn _) rfl rfl hd fin
          rcases g2 with e | e | e | e
          · rw [e]; exact (hK.1.2 0 _ rfl).1 _ _
          · rw [e]; exact (hK.1.2 1 _ rfl).1 _ _
          · rw [e]; exact (hK.1.2 2 _ rfl).1 _ _
          · rw [e]; exact (hK.1.2 3 _ rfl).1 _ _
      · split at hn
        · rename_i n1 hlr
          cases hn
          obtain ⟨n0, hk, rfl, h0⟩ := z_lrS hlr
          obtain ⟨gb, g1⟩ := hH.2.2.2.1 _ _ h0 hk
          have g1 : H[ad q]? = some (vp_cell (dA .long) (n0, .inr (.inl (fun j => Int64.ofInt (mm q j))))) := g1
          exact W.alen (ty := .long) hx hb g1 ((hK.1.2 4 _ rfl).1 _ _) (by show (arrV _ _ _).slots.size.toInt32 = _; rw [arrV_size]; exact q_ofn _) rfl rfl hd fin
        · split at hn
          · rename_i cs hrr
            cases hn
            obtain ⟨hk, h0⟩ := z_rrS hrr
            obtain ⟨gb, g, g1, g2⟩ := hH.2.2.2.1 _ _ h0 hk
            exact W.alen (ty := .array .int) hx hb g1 ((hK.1.2 5 _ rfl).1 _ _) (by show (arrV _ _ _).slots.size.toInt32 = _; rw [arrV_size]; exact q_ofn _) rfl rfl hd fin
          · cases hn
    · exact h.elim
  · exact h.elim
theorem zs_copy {ci : Nat} (hlk : Cond.methodLink (mY k).cls ci arraycopyName ∈ tb) (C : q_Ctx p R s m args meth c dC dI dA Hb k) (hi : ins k pc = some (.invokestatic ci, nx, a1, a2, a3, z)) (h : z_copy mm st (fun m1 r => G (nx, lo, r, m1))) (kk : ∀ g, G g → zW p l e R s m args below meth c cells slots Q dC dI dA Hb ad k g) : zW p l e R s m args below meth c cells slots Q dC dI dA Hb ad k (pc, lo, st, mm) := by
  obtain ⟨hx, hb, hml, hown, hts, hK, hnm, hRf, hRl⟩ := C
  rintro ls vs H locs ⟨hlo, rfl, hH, hlc⟩
  show W p l e R s m args below meth c H locs cells slots Q (F0 m pc ls (st.map (zv ad)))
  obtain ⟨en, hd⟩ := q_dec (n := 3) hi rfl
  subst en
  unfold z_copy at h
  split at h
  · rename_i n dp q1 sp q0 rr
    cases hcc : Nat.beq q0 q1 || (Nat.beq q0 0 || (Nat.beq q1 0 || !(Nat.ble (z_cats rr) 8))) with
    | true =>
      rw [hcc] at h
      exact h.elim
    | false =>
      rw [hcc] at h
      simp only [cond_false] at h
      simp only [Bool.or_eq_false_iff, Bool.not_eq_false'] at hcc
      obtain ⟨hne, hq0, hq1, hcat⟩ := hcc
      have hcat : z_cats rr ≤ 8 := Nat.le_of_ble_eq_true hcat
      have h0 : q0 ≠ 0 := Nat.ne_of_beq_eq_false hq0
      have h1 : q1 ≠ 0 := Nat.ne_of_beq_eq_false hq1
      split at h
      · rename_i t0 n0 hr0
        split at h
        · rename_i t1 n1 hr1
          replace h := z_bif h
          obtain ⟨hty, ⟨c1, c2, c3, c4, c5⟩, h⟩ := h
          rw [Bool.and_eq_true] at hty
          obtain ⟨m0, hk0, rfl⟩ := z_rwS hr0 h0
          obtain ⟨m1, hk1, rfl⟩ := z_rwS hr1 h1
          obtain ⟨gb0, f1, -⟩ := hH.2.2.2.1 _ _ h0 hk0
          obtain ⟨gb1, g1, g2⟩ := hH.2.2.2.1 _ _ h1 hk1
          have e0 : t0 = .int := by rcases q_isT hty.1 with ⟨-, e⟩ | ⟨e, -⟩ | ⟨e, -⟩ | ⟨e, -⟩ <;> first | exact e | cases e
          have e1 : t1 = .int := by rcases q_isT hty.2 with ⟨-, e⟩ | ⟨e, -⟩ | ⟨e, -⟩ | ⟨e, -⟩ <;> first | exact e | cases e
          subst e0
          subst e1
          have cl : ∀ x : Int, (Int32.ofInt x).toNatClampNeg = (wr x).toNat := fun x => by
            show (Int32.ofInt x).toInt.toNat = _
            rw [wrE]
          have nl : ∀ x : Int, 0 ≤ wr x → ¬ Int32.ofInt x < 0 := fun x hx q => by
            have := Int32.lt_iff_toInt_lt.mp q
            rw [wrE] at this
            have e3 : (0 : Int32).toInt = 0 := rfl
            omega
          refine q_copy hx hb (by rw [hml]; exact hlo.1.symm) hown (hts _ hlk) (hts _ q_w_nat) (hts _ q_w_sta) (hts _ q_w_sys) (hK.1.2 0 _ rfl).1 f1 g1 (nl _ c1) (nl _ c2) (nl _ c3) (by rw [cl, cl]; omega) (by rw [cl, cl]; omega) (by omega) (by rw [z_catsS]; have : nativeFrameWords "java/lang/System" "arraycopy" 5 ≤ 100 := (by decide); omega) hd (fun H1 Lq hL z1 z2 z3 => ?_)
          rw [cl, cl, cl] at z3
          refine kk _ h ls _ H1 _ ⟨hlo, rfl, hH.set hk1 h1 z1 z2 (fun d hd => z_cp_ne hd) ⟨?_, g2⟩, fun y hy => ?_⟩
          · rw [z3]
            congr 4
            funext j
            dsimp only
            rw [z_cp_at]
            unfold va_cpy
            by_cases e : (wr dp).toNat ≤ j ∧ j < (wr dp).toNat + (wr n).toNat
            · rw [if_pos e, if_pos e]
            · rw [if_neg e, if_neg e]
          · rcases List.mem_append.mp hy with hy | hy
            · exact hlc y hy
            · rw [hL y hy]
              exact gb1
        · exact h.elim
      · exact h.elim
  · exact h.elim
end ZStep2
end
-- 39f.zblk.lean.txt
section
/-! Blocks, calls; what is used of all this behind here: zRules. -/
/-- a call's place -/
noncomputable def z_Site (k pc nx c : Nat) (st as rs : List zA) : Prop := ∃ (x a2 a3 : Nat) (z : Int),
  (ins k pc = some (.invokestatic x, nx, c, a2, a3, z) ∧ z_take a2 [] st = some (as, rs)) ∨
  (ins k pc = some (.invokevirtual x, nx, c, a2, a3, z) ∧ z_take (a2 + 1) [] st = some (as, rs) ∧ ∃ q as', as = .inr (.inl (some q)) :: as' ∧ Nat.beq (z_ci q) (mcl c) = true)
/-- an answer's place -/
noncomputable def z_Ret (k pc : Nat) (st : List zA) (r : Option zA) : Prop := ∃ (nx a1 a2 a3 : Nat) (z : Int),
  (ins k pc = some (.ireturn, nx, a1, a2, a3, z) ∧ ∃ v : Int, st = [.inl v] ∧ r = some (.inl (wr v)) ∧ (mR k = some .int ∨ (mR k = some .boolean ∧ 0 ≤ wr v ∧ wr v ≤ 1))) ∨
  (ins k pc = some (.lreturn, nx, a1, a2, a3, z) ∧ ∃ v : Int, st = [.inr (.inr v)] ∧ r = some (.inr (.inr v)) ∧ mR k = some .long) ∨
  (ins k pc = some (.return_, nx, a1, a2, a3, z) ∧ st = [] ∧ r = none ∧ mR k = none)
section ZBlk
variable {p : Program} {l : Launch} {e : Env} {R : Room} {s : State} {m : MethodId} {args : Array Value} {below : List Frame} {meth : Method} {c : Code} {cells slots : Nat} {Q : State → Prop}
variable {dC : Nat → ClassId} {dI : Nat → Nat → Nat} {dA : FieldType → ClassId} {ad : Nat → Nat} {Hb : Heap} {k : Nat} {G : zG → Prop} {Cc : Nat → List zA → zG → Prop} {Rr : Option zA → zM → Prop} {Tt : zM → Prop}
set_option maxHeartbeats 4000000 in
theorem z_oneS (C : q_Ctx p R s m args meth c dC dI dA Hb k) (kk : ∀ g, G g → zW p l e R s m args below meth c cells slots Q dC dI dA Hb ad k g)
    (kc : ∀ (c0 : Nat) (as : List zA) (nx : Nat) (rs : List zA) (lo : zL) (st : List zA) (pc : Nat) (mm : zM), z_Site k pc nx c0 st as rs → z_cats rs ≤ 8 → c0 < 304 → Cc c0 as (nx, lo, rs, mm) → zW p l e R s m args below meth c cells slots Q dC dI dA Hb ad k (pc, lo, st, mm))
    (kr : ∀ (r : Option zA) (pc : Nat) (lo : zL) (st : List zA) (mm : zM), z_Ret k pc st r → Rr r mm → zW p l e R s m args below meth c cells slots Q dC dI dA Hb ad k (pc, lo, st, mm))
    (kt : ∀ (pc : Nat) (lo : zL) (st : List zA) (mm : zM), q_n99 k pc = true → pc < mN k → z_cats st ≤ 8 → Tt mm → zW p l e R s m args below meth c cells slots Q dC dI dA Hb ad k (pc, lo, st, mm))
    {pc : Nat} {lo : zL} {st : List zA} {mm : zM} (h : z_one k G Cc Rr Tt pc lo st mm) : zW p l e R s m args below meth c cells slots Q dC dI dA Hb ad k (pc, lo, st, mm) := by
  unfold z_one at h
  cases hi : ins k pc with
  | none => rw [hi] at h; exact h.elim
  | some row =>
    rw [hi] at h
    obtain ⟨i, nx, a1, a2, a3, z⟩ := row
    cases i <;> dsimp only at h
    case iconst cz => exact zs_iconst C hi h kk
    case bipush cz => exact zs_bipush C hi h kk
    case sipush cz => exact zs_sipush C hi h kk
    case ldc ci => exact zs_ldc C hi h kk
    case ldc_w ci => exact zs_ldcw C hi h kk
    case ldc2_w ci => exact zs_ldc2 C hi h kk
    case lconst cf => exact zs_lconst C hi h kk
    case iload_n ci => exact zs_iload_n C hi h kk
    case iload ci => exact zs_iload C hi h kk
    case aload_n ci => exact zs_aload_n C hi h kk
    case aload ci => exact zs_aload C hi h kk
    case lload_n ci => exact zs_lload_n C hi h kk
    case lload ci => exact zs_lload C hi h kk
    case istore_n ci => exact zs_istore_n C hi h kk
    case istore ci => exact zs_istore C hi h kk
    case astore_n ci => exact zs_astore_n C hi h kk
    case astore ci => exact zs_astore C hi h kk
    case lstore_n ci => exact zs_lstore_n C hi h kk
    case lstore ci => exact zs_lstore C hi h kk
    case iinc ci cz => exact zs_iinc C hi h kk
    case iadd => exact zs_iadd C hi h kk
    case isub => exact zs_isub C hi h kk
    case imul => exact zs_imul C hi h kk
    case iand => exact zs_iand C hi h kk
    case ior => exact zs_ior C hi h kk
    case ixor => exact zs_ixor C hi h kk
    case ishl => exact zs_ishl C hi h kk
    case ishr => exact zs_ishr C hi h kk
    case iushr => exact zs_iushr C hi h kk
    case idiv => exact zs_idiv C hi h kk
    case irem => exact zs_irem C hi h kk
    case ineg => exact zs_ineg C hi h kk
    case i2b => exact zs_i2b C hi h kk
    case i2s => exact zs_i2s C hi h kk
    case i2c => exact zs_i2c C hi h kk
    case i2l => exact zs_i2l C hi h kk
    case l2i => exact zs_l2i C hi h kk
    case ladd => exact zs_ladd C hi h kk
    case lmul => exact zs_lmul C hi h kk
    case ldiv => exact zs_ldiv C hi h kk
    case lrem => exact zs_lrem C hi h kk
    case lcmp => exact zs_lcmp C hi h kk
    case ifCond cc cz => exact zs_ifc C hi h kk
    case if_icmp cc cz => exact zs_icmp C hi h kk
    case goto cz => exact zs_goto C hi h kk
    case tableswitch d low high os => exact zs_tsw C hi h kk
    case lookupswitch d ps => exact zs_lsw C hi h kk
    case dup => exact zs_dup C hi h kk
    case pop => exact zs_pop C hi h kk
    case dup_x1 => exact zs_dup_x1 C hi h kk
    case dup2 => exact zs_dup2 C hi h kk
    case getfield ci => exact zs_getf C hi h kk
    case putfield ci => exact zs_putf C hi h kk
    case iaload => exact zs_rld (kind := 0) C hi h kk
    case baload => exact zs_rld (kind := 1) C hi h kk
    case caload => exact zs_rld (kind := 2) C hi h kk
    case iastore => exact zs_rst (kind := 0) C hi h kk
    case bastore => exact zs_rst (kind := 1) C hi h kk
    case castore => exact zs_rst (kind := 2) C hi h kk
    case laload => exact zs_lald C hi h kk
    case lastore => exact zs_last C hi h kk
    case aaload => exact zs_aald C hi h kk
    case arraylength => exact zs_alen C hi h kk
    case invokestatic x =>
      cases h901 : Nat.beq a1 901 with
      | true =>
        rw [h901] at h
        have hc := (q_rowI hi).2.2.1
        simp only [c_I, h901, cond_true] at hc
        exact zs_copy (wAt_mem hc) C hi h kk
      | false =>
        rw [h901] at h
        simp only [cond_false, z_inv] at h
        split at h
        · rename_i as rs ht
          obtain ⟨hb, h⟩ := z_bif h
          rw [Bool.and_eq_true] at hb
          exact kc a1 as nx rs lo st pc mm ⟨x, a2, a3, z, Or.inl ⟨hi, ht⟩⟩ (Nat.le_of_ble_eq_true hb.1) (q_blt hb.2) h
        · exact h.elim
    case invokevirtual x =>
      simp only [z_inv] at h
      split at h
      · rename_i as rs ht
        replace h := z_bif h
        obtain ⟨hb, h⟩ := h
        rw [Bool.and_eq_true] at hb
        unfold z_rcv at h
        split at h
        · rename_i q as2
          replace h := z_bif h
          obtain ⟨hq, h⟩ := h
          exact kc a1 _ nx rs lo st pc mm ⟨x, a2, a3, z, Or.inr ⟨hi, ht, q, as2, rfl, hq⟩⟩ (Nat.le_of_ble_eq_true hb.1) (q_blt hb.2) h
        · exact h.elim
      · exact h.elim
    case ireturn =>
      split at h
      · rename_i v
        unfold z_ret at h
        split at h
        · rename_i hR
          exact kr _ pc lo _ mm ⟨nx, a1, a2, a3, z, Or.inl ⟨hi, v, rfl, rfl, Or.inl hR⟩⟩ h
        · rename_i hR
          exact kr _ pc lo _ mm ⟨nx, a1, a2, a3, z, Or.inl ⟨hi, v, rfl, rfl, Or.inr ⟨hR, h.1⟩⟩⟩ h.2
        · exact h.elim
      · exact h.elim
    case lreturn =>
      split at h
      · rename_i v
        split at h
        · rename_i hR
          exact kr _ pc lo _ mm ⟨nx, a1, a2, a3, z, Or.inr (Or.inl ⟨hi, v, rfl, rfl, hR⟩)⟩ h
        · exact h.elim
      · exact h.elim
    case return_ =>
      split at h
      · split at h
        · rename_i hR
          exact kr _ pc lo _ mm ⟨nx, a1, a2, a3, z, Or.inr (Or.inr ⟨hi, rfl, rfl, hR⟩)⟩ h
        · exact h.elim
      · exact h.elim
    case new x =>
      obtain ⟨hb, h⟩ := z_bif h
      rw [Bool.and_eq_true] at hb
      exact kt pc lo st mm (by simp only [q_n99, hi, hb.1, Bool.and_self]) (q_ins hi).2 (Nat.le_of_ble_eq_true hb.2) h
    all_goals exact h.elim
theorem z_stopS : ∀ {stp : List (Nat × List Nat)} {g g2 : zG}, z_stop stp g = some g2 → ∃ ks, g2 = (g.1, z_keep ks g.2.1, g.2.2.1, g.2.2.2)
  | [], g, g2, h => by cases h
  | x :: r, g, g2, h => by
    unfold z_stop at h
    cases hb : Nat.beq x.1 g.1 with
    | true =>
      rw [hb] at h
      cases h
      exact ⟨x.2, rfl⟩
    | false =>
      rw [hb] at h
      exact z_stopS h
theorem z_blkS {stp : List (Nat × List Nat)} (C : q_Ctx p R s m args meth c dC dI dA Hb k) (kk : ∀ g, G g → zW p l e R s m args below meth c cells slots Q dC dI dA Hb ad k g)
    (kc : ∀ (c0 : Nat) (as : List zA) (nx : Nat) (rs : List zA) (lo : zL) (st : List zA) (pc : Nat) (mm : zM), z_Site k pc nx c0 st as rs → z_cats rs ≤ 8 → c0 < 304 → Cc c0 as (nx, lo, rs, mm) → zW p l e R s m args below meth c cells slots Q dC dI dA Hb ad k (pc, lo, st, mm))
    (kr : ∀ (r : Option zA) (pc : Nat) (lo : zL) (st : List zA) (mm : zM), z_Ret k pc st r → Rr r mm → zW p l e R s m args below meth c cells slots Q dC dI dA Hb ad k (pc, lo, st, mm))
    (kt : ∀ (pc : Nat) (lo : zL) (st : List zA) (mm : zM), q_n99 k pc = true → pc < mN k → z_cats st ≤ 8 → Tt mm → zW p l e R s m args below meth c cells slots Q dC dI dA Hb ad k (pc, lo, st, mm)) :
    ∀ (n : Nat) (g : zG), z_blk stp k G Cc Rr Tt n g → zW p l e R s m args below meth c cells slots Q dC dI dA Hb ad k g
  | 0, g, h => kk g h
  | n + 1, (pc, lo, st, mm), h => by
    refine z_oneS (G := fun g1 => match z_stop stp g1 with
      | some g2 => G g2
      | none => z_blk stp k G Cc Rr Tt n g1) C (fun g1 h1 => ?_) kc kr kt h
    cases hs : z_stop stp g1 with
    | some g2 =>
      have h1 : G g2 := by
        have h2 := h1
        rw [hs] at h2
        exact h2
      obtain ⟨ks, rfl⟩ := z_stopS hs
      intro ls vs H locs F
      exact kk _ h1 ls vs H locs ⟨z_keepS ks F.1, F.2⟩
    | none =>
      have h1 : z_blk stp k G Cc Rr Tt n g1 := by
        have h2 := h1
        rw [hs] at h2
        exact h2
      exact z_blkS C kk kc kr kt n g1 h1
end ZBlk
noncomputable def z_args : Nat → List zA → zL
  | _, [] => []
  | i, a :: as => (i, a) :: z_args (i + z_cat a) as
noncomputable abbrev zX : Type := Launch × (Nat → ClassId) × (Nat → Nat → Nat) × (FieldType → ClassId) × Heap × (Nat → Nat)
noncomputable def zQ (x : zX) (κ : Option zA → zM → Prop) : Array Value → State → Outcome → State → Prop := fun _ _ o t => ∃ (r : Option zA) (m1 : zM), o = .returned (r.map (zv x.2.2.2.2.2)) ∧ κ r m1 ∧ zH x.2.1 x.2.2.1 x.2.2.2.1 x.2.2.2.2.1 x.2.2.2.2.2 m1 t.heap
/-- from g, in a body of k, at most D deep, it comes to an answer and a table of which κ holds -/
noncomputable def zT (x : zX) (D k : Nat) (g : zG) (κ : Option zA → zM → Prop) : Prop := ∀ (p : Program) (e : Env) (s : State) (m : MethodId) (args : Array Value) (below : List Frame) (meth : Method) (c : Code), q_Ctx p (q_rm D 0 0) s m args meth c x.2.1 x.2.2.1 x.2.2.2.1 x.2.2.2.2.1 k → meth.sig.returnType = mR k → meth.locks = false →
  zW p x.1 e (q_rm D 0 0) s m args below meth c 0 0 (MQ below (zQ x κ) args s 0 0 (fun q => x.2.2.2.2.1.size ≤ q)) x.2.1 x.2.2.1 x.2.2.2.1 x.2.2.2.2.1 x.2.2.2.2.2 k g
theorem z_argsL {ad : Nat → Nat} : ∀ {as : List zA} (i : Nat), ∀ q ∈ z_lm ad (z_args i as), q ∈ lv_args i (as.map (zv ad))
  | [], _, q, hq => nomatch hq
  | a :: as, i, q, hq => by
    unfold z_args at hq
    show q ∈ lv_args i (zv ad a :: as.map (zv ad))
    unfold lv_args
    rcases List.mem_cons.mp hq with rfl | hq
    · exact List.mem_cons_self
    · have g1 := z_argsL (i + z_cat a) q hq
      rw [← z_catS ad] at g1
      have e : (if (zv ad a).category = 2 then i + 2 else i + 1) = i + (zv ad a).category := by
        rcases lv_cat (zv ad a) with h1 | h1 <;> rw [h1] <;> simp
      rw [e]
      exact List.mem_cons_of_mem _ g1
theorem z_met {x : zX} {κ : Option zA → zM → Prop} {D c : Nat} {as : List zA} {mm : zM} {H0 : Heap} (hk : c < 303) (hp : c_plain c = true) (hcat : z_cats as ≤ mL c) (hH : zH x.2.1 x.2.2.1 x.2.2.2.1 x.2.2.2.2.1 x.2.2.2.2.2 mm H0) (hT : zT x D c (0, z_args 0 as, [], mm) κ) :
    Met x.1 (mY c) (q_ws c) (q_rm D 0 0) (q_Pc x.2.1 x.2.2.1 x.2.2.2.1 x.2.2.2.2.1 H0 (as.map (zv x.2.2.2.2.2))) (zQ x κ) 0 0 (fun q => x.2.2.2.2.1.size ≤ q) := by
  obtain ⟨w1, w2, w3, w4, w5, w6, w7⟩ := q_MW (q_meth hk hp)
  refine va_MetF (cc := mC c) (maxL := mL c) (ret := mR c) w3 rfl ?_
  intro p e s m args below meth cd s₁ B hml hv
  obtain ⟨rfl, hK, hHH⟩ := hv
  have hts0 := atoms_spec (ws := q_ws c) B.pre
  have hts : ∀ w ∈ tb, w.before (as.map (zv x.2.2.2.2.2)).toArray s = true := fun w hw => hts0 w (List.mem_cons_of_mem _ hw)
  have hown : s.vm.findClass (mY c).cls = some m.cls := findClass_of_methodNamed B.named
  have hlocks := B.notSynchronized
  have hnm : meth.name = (mY c).name := (name_of_methodNamed B.named B.method).1
  have hret := B.returns
  have C : q_Ctx p (q_rm D 0 0) s m (as.map (zv x.2.2.2.2.2)).toArray meth cd x.2.1 x.2.2.1 x.2.2.2.1 x.2.2.2.2.1 c := ⟨B.exec, B.bytes, hml, hown, hts, hK, fun q => hnm.trans q, by show 8 ≤ D + 8; omega, by show 400 ≤ 80 * D + 400; omega⟩
  have hl := lv_entry (as.map (zv x.2.2.2.2.2)) (n := mL c) (by rw [q_slN, z_catsS]; exact hcat)
  rw [lg_entry_eq, hHH]
  generalize (lg_sl (as.map (zv x.2.2.2.2.2)) ++ List.replicate (mL c - (lg_sl (as.map (zv x.2.2.2.2.2))).length) Slot.unset).toArray = ls at hl ⊢
  exact hT p e s m _ below meth cd C hret hlocks ls [] H0 [] ⟨⟨hl.1, hl.2.1, fun q hq => hl.2.2 q (z_argsL 0 q hq)⟩, rfl, hH, fun q hq => nomatch hq⟩
theorem z_takeS : ∀ {n : Nat} {acc st as rs : List zA}, z_take n acc st = some (as, rs) → ∃ ws, st = ws ++ rs ∧ as = ws.reverse ++ acc ∧ ws.length = n
  | 0, acc, st, as, rs, h => by
    cases h
    exact ⟨[], rfl, rfl, rfl⟩
  | n + 1, acc, [], as, rs, h => by cases h
  | n + 1, acc, a :: st, as, rs, h => by
    obtain ⟨ws, e1, e2, e3⟩ := z_takeS (n := n) (acc := a :: acc) (st := st) h
    refine ⟨a :: ws, by rw [e1]; rfl, ?_, by rw [List.length_cons, e3]⟩
    rw [e2, List.reverse_cons, List.append_assoc]
    rfl
section ZCall
variable {p : Program} {e : Env} {R : Room} {s : State} {m : MethodId} {args : Array Value} {below : List Frame} {meth : Method} {cd : Code} {cells slots : Nat} {Q : State → Prop} {x : zX} {k c D pc nx : Nat} {lo : zL} {st as rs : List zA} {mm : zM} {κ : Option zA → zM → Prop}
theorem z_callS (C : q_Ctx p R s m args meth cd x.2.1 x.2.2.1 x.2.2.2.1 x.2.2.2.2.1 k) (site : z_Site k pc nx c st as rs) (hcat : z_cats rs ≤ 8) (hk : c < 303) (hp : c_plain c = true) (hca : z_cats as ≤ mL c) (hD : D + 1 + 8 ≤ R.frames) (hD2 : 80 * (D + 1) + 400 ≤ R.locals) (hcl : cells ≤ R.cells) (hsl : slots ≤ R.slots)
    (hT : zT x D c (0, z_args 0 as, [], mm) κ) (kk : ∀ r m1, κ r m1 → zW p x.1 e R s m args below meth cd cells slots Q x.2.1 x.2.2.1 x.2.2.2.1 x.2.2.2.2.1 x.2.2.2.2.2 k (nx, lo, r.toList ++ rs, m1)) : zW p x.1 e R s m args below meth cd cells slots Q x.2.1 x.2.2.1 x.2.2.2.1 x.2.2.2.2.1 x.2.2.2.2.2 k (pc, lo, st, mm) := by
  obtain ⟨l, dC, dI, dA, Hb, ad⟩ := x
  dsimp only at C hT kk ⊢
  rintro ls vs H locs ⟨hlo, rfl, hH, hlc⟩
  show W p l e R s m args below meth cd H locs cells slots Q (F0 m pc ls (st.map (zv ad)))
  obtain ⟨hx, hb, hml, hown, hts, hK, hnm, hRf, hRl⟩ := C
  obtain ⟨w1, w2, w3, w4, w5, w6, w7⟩ := q_MW (q_meth hk hp)
  have hlo1 : ls.size = mL k := hlo.1
  have key0 : ∀ y : Nat, y ≤ 40 → 8 + (y + 11) + (80 * D + 400) ≤ R.locals := q_key0 (by omega)
  have hroom : (q_rm D 0 0).frames + 1 ≤ R.frames ∧ 8 + (mL c + 11) + (q_rm D 0 0).locals ≤ R.locals := ⟨by rw [show (q_rm D 0 0).frames = D + 8 from rfl]; omega, key0 _ w7⟩
  have blind : ∀ vv, FrameBlind (q_Pc dC dI dA Hb H vv) := fun vv a U g mk q => ⟨q.1, q.2.1.calling, q.2.2⟩
  have pre : ∀ vv : List Value, ∀ U : State, U.heap = H → s.WarmedH U.vm → q_Pc dC dI dA Hb H vv vv.toArray U := fun vv U hU hW => ⟨rfl, hK.moved hW, hU⟩
  have hM := z_met (x := (l, dC, dI, dA, Hb, ad)) hk hp hca hH hT
  dsimp only at hM
  have fin : nx = pc + 3 → ∀ (a : Array Value) (v : Option Value) (st2 t : State) (locs1 : List Loc), zQ (l, dC, dI, dA, Hb, ad) κ a st2 (.returned v) t → (∀ q ∈ locs1, Hb.size ≤ q.base) → W p l e R s m args below meth cd t.heap locs1 (cells + 0) (slots + 0) Q (F0 m (pc + 3) ls (v.toList ++ rs.map (zv ad))) := by
    intro hnx a v st2 t locs1 hq hl1
    obtain ⟨r, m1, hr, hκ, hh⟩ := hq
    cases hr
    subst hnx
    refine kk r m1 hκ ls _ t.heap locs1 ⟨hlo, ?_, hh, hl1⟩
    show (r.map (zv ad)).toList ++ rs.map (zv ad) = (r.toList ++ rs).map (zv ad)
    rw [List.map_append]
    cases r <;> rfl
  obtain ⟨xi, a2, a3, z, site⟩ := site
  rcases site with ⟨hi, ht⟩ | ⟨hi, ht, q, as', rfl, hq⟩
  · obtain ⟨en, hd⟩ := q_dec (n := 3) hi rfl
    have hc := (q_rowI hi).2.2.1
    simp only [c_I, q_beqF (show c ≠ 901 by omega), cond_false, nMth, q_bleF (show c < 304 by omega), Bool.false_or, Bool.and_eq_true] at hc
    have ea2 := Nat.eq_of_beq_eq_true hc.2
    obtain ⟨ws, rfl, rfl, g3⟩ := z_takeS ht
    refine q_callW (va_runS (As := (ws.reverse ++ []).map (zv ad)) (rest := rs.map (zv ad)) ⟨hx, hb, hml, hown, hts⟩ hM ⟨callB_of (mP c) hts (q_good w1) rfl rfl rfl (hts _ w2) (hts _ (wAt_mem hc.1.1)) ⟨w4, w5, w6⟩ hroom, hts _ (wAt_mem hc.1.2)⟩ ⟨blind _, pre _⟩ rfl ?_ hlo1 ?_ (lv_room (by rw [z_catsS]; exact hcat)) hd ⟨hcl, hsl⟩) hlc (fin en _)
    · rw [List.length_map, List.append_nil, List.length_reverse, g3, ea2]
    · rw [List.append_nil, List.map_reverse, List.reverse_reverse, List.map_append]
  · obtain ⟨en, hd⟩ := q_dec (n := 3) hi rfl
    have hc := (q_rowI hi).2.2.1
    simp only [c_I, nMth, q_bleF (show c < 304 by omega), Bool.false_or, Bool.and_eq_true] at hc
    have ea2 := Nat.eq_of_beq_eq_true hc.2
    obtain ⟨ws, rfl, e2, g3⟩ := z_takeS ht
    rw [List.append_nil] at e2
    have hws : ws = as'.reverse ++ [.inr (.inl (some q))] := by
      have := congrArg List.reverse e2
      rw [List.reverse_reverse, List.reverse_cons] at this
      exact this.symm
    have hlen : (as'.map (zv ad)).length = mP c := by
      have h9 := congrArg List.length e2
      rw [List.length_cons, List.length_reverse, g3] at h9
      rw [List.length_map]
      omega
    have hq0 := hc.1.2
    unfold c_cls at hq0
    split at hq0
    · rename_i q0 hq1
      have hq2 := of_decide_eq_true hq0
      obtain ⟨hkd, hk0⟩ := z_ciS hq hq1
      obtain ⟨gb, w9, k2, cell, k3, k4, k5, k6⟩ := hH.2.2.2.1 _ _ hk0 hkd
      have hcls : s.vm.findClass (mY c).cls = some cell.cls := by rw [← hq2, k4]; exact (hK.1.1 _ _ hq1).2.1
      refine q_callW (va_runV (As := as'.map (zv ad)) (rest := rs.map (zv ad)) (b := ad q) (C := (mY c).cls) ⟨hx, hb, hml, hown, hts⟩ hM ⟨callB_of (mP c) hts (q_good w1) rfl rfl rfl (hts _ w2) (hts _ (wAt_mem hc.1.1.1.1.2)) ⟨w4, w5, w6⟩ hroom, hts _ (wAt_mem hc.1.1.1.2), hts _ (wAt_mem hc.1.1.2)⟩ ⟨blind _, ⟨cell, k3, by rw [k5]; rfl, hcls⟩, pre _⟩ rfl hlen hlo1 ?_ (lv_room (by rw [z_catsS]; exact hcat)) hd ⟨hcl, hsl⟩) hlc (fin en _)
      rw [hws, List.map_append, List.map_append, List.map_reverse, List.append_assoc]
      rfl
    · cases hq0
end ZCall
/-- who may be called from a plain body -/
noncomputable def z_pl (c : Nat) : Bool := Nat.blt c 299 && !(Nat.beq c 117 || (Nat.beq c 118 || (Nat.beq c 130 || Nat.beq c 162))) && c_plain c
noncomputable def zCall (T : Nat → Nat → zG → (Option zA → zM → Prop) → Prop) (D : Nat) (κ : Option zA → zM → Prop) (k c : Nat) (as : List zA) (f : zG) : Prop := match D with
  | 0 => False
  | D1 + 1 => bif z_pl c && Nat.ble (z_cats as) (mL c) then T D1 c (0, z_args 0 as, [], f.2.2.2) (fun r m1 => T (D1 + 1) k (f.1, f.2.1, r.toList ++ f.2.2.1, m1) κ) else False
/-- who may throw -/
noncomputable def z_thr (k : Nat) : Bool := Nat.beq k 117 || (Nat.beq k 118 || (Nat.beq k 130 || Nat.beq k 162))
theorem z_thrC {k : Nat} (h : z_thr k = true) : k = 117 ∨ k = 118 ∨ k = 130 ∨ k = 162 := by
  simp only [z_thr, Bool.or_eq_true] at h
  rcases h with h | h | h | h
  · exact Or.inl (Nat.eq_of_beq_eq_true h)
  · exact Or.inr (Or.inl (Nat.eq_of_beq_eq_true h))
  · exact Or.inr (Or.inr (Or.inl (Nat.eq_of_beq_eq_true h)))
  · exact Or.inr (Or.inr (Or.inr (Nat.eq_of_beq_eq_true h)))
theorem z_plT {c : Nat} (h : z_pl c = true) : z_thr c = false := by
  simp only [z_pl, Bool.and_eq_true, Bool.not_eq_true'] at h
  exact h.1.2
noncomputable def zXC (x : zX) (κ : Option zA → zM → Prop) : String → State → State → Prop := fun Ee _ t => Ee = q_nse ∧ ∃ m1 : zM, κ none m1 ∧ zH x.2.1 x.2.2.1 x.2.2.2.1 x.2.2.2.2.1 x.2.2.2.2.2 m1 t.heap
/-- as zT, of a method that may throw: it ends with none then -/
noncomputable def zTX (x : zX) (D k : Nat) (g : zG) (κ : Option zA → zM → Prop) : Prop := ∀ (p : Program) (e : Env) (s : State) (m : MethodId) (args : Array Value) (below : List Frame) (meth : Method) (c : Code), q_Ctx p (q_rm D 1 6) s m args meth c x.2.1 x.2.2.1 x.2.2.2.1 x.2.2.2.2.1 k → meth.sig.returnType = mR k → meth.locks = false → (∀ y ∈ c.exceptionTable.toList, False) → x.1.stackTraces = false → (∀ q : Nat, q < x.2.2.2.2.1.size → s.heap[q]? = x.2.2.2.2.1[q]?) →
  zW p x.1 e (q_rm D 1 6) s m args below meth c 0 0 (vx_MQ below (zQ x κ) (zXC x κ) args s 1 6 (fun q => x.2.2.2.2.1.size ≤ q)) x.2.1 x.2.2.1 x.2.2.2.1 x.2.2.2.2.1 x.2.2.2.2.2 k g
noncomputable def zTt (x : zX) (D k : Nat) (g : zG) (κ : Option zA → zM → Prop) : Prop := (z_thr k = true → zTX x D k g κ) ∧ (z_thr k = false → zT x D k g κ)
/-- all that is used of the machine behind here -/
noncomputable def zRules (T : Nat → Nat → zG → (Option zA → zM → Prop) → Prop) : Prop :=
  (∀ (stp : List (Nat × List Nat)) (n D k : Nat) (g : zG) (κ : Option zA → zM → Prop), z_blk stp k (fun g1 => T D k g1 κ) (zCall T D κ k) κ (fun m => z_thr k = true ∧ κ none m) n g → T D k g κ) ∧
  (∀ (ks : List Nat) (D k pc : Nat) (lo : zL) (st : List zA) (m : zM) (κ : Option zA → zM → Prop), T D k (pc, z_keep ks lo, st, m) κ → T D k (pc, lo, st, m) κ)
theorem zRulesP {x : zX} {stp : List (Nat × List Nat)} {n D k : Nat} {g : zG} {κ : Option zA → zM → Prop} (hk : z_thr k = false) (h : z_blk stp k (fun g1 => zTt x D k g1 κ) (zCall (zTt x) D κ k) κ (fun m => z_thr k = true ∧ κ none m) n g) : zT x D k g κ := by
  intro p e s m args below meth c C hret hlocks
  refine z_blkS (G := fun g1 => zTt x D k g1 κ) C (fun g1 h1 => h1.2 hk p e s m args below meth c C hret hlocks) (fun c0 as nx rs lo st pc mm site hcat hc0 hC => ?_) (fun r pc lo st mm hr hκ => ?_) (fun pc lo st mm _ _ _ hF => by rw [hk] at hF; exact absurd hF.1 (by decide)) n g h
  · unfold zCall at hC
    split at hC
    · exact hC.elim
    · rename_i D1
      obtain ⟨hb, hC⟩ := z_bif hC
      rw [Bool.and_eq_true] at hb
      have hpl := hb.1
      have hnt := z_plT hpl
      simp only [z_pl, Bool.and_eq_true] at hpl
      refine z_callS C site hcat (by have := q_blt hpl.1.1; omega) hpl.2 (Nat.le_of_ble_eq_true hb.2) (by show D1 + 1 + 8 ≤ D1 + 1 + 8; omega) (by show 80 * (D1 + 1) + 400 ≤ 80 * (D1 + 1) + 400; omega) (Nat.zero_le _) (Nat.zero_le _) (hC.2 hnt) (fun r m1 h1 => h1.2 hk p e s m args below meth c C hret hlocks)
  · rintro ls vs H locs ⟨hlo, rfl, hH, hlc⟩
    obtain ⟨nx, a1, a2, a3, z, hr⟩ := hr
    rcases hr with ⟨hi, v, rfl, rfl, hR⟩ | ⟨hi, v, rfl, rfl, hR⟩ | ⟨hi, rfl, rfl, hR⟩
    · obtain ⟨en, hd⟩ := q_dec (n := 1) hi rfl
      have ew : zv x.2.2.2.2.2 (.inl (wr v)) = zv x.2.2.2.2.2 (.inl v) := by
        show Value.int (Int32.ofInt (wr v)) = Value.int (Int32.ofInt v)
        rw [← wrE, z_ofN]
      rcases hR with hR | ⟨hR, hb⟩
      · exact W.iret C.1 C.2.1 (hret.trans hR) (fun t ht _ => ⟨some (.inl (wr v)), mm, congrArg (fun q => Outcome.returned (some q)) ew.symm, hκ, by rw [ht]; exact hH⟩) hlc hd
      · refine W.zret (ty := .boolean) C.1 C.2.1 (hret.trans hR) ?_ (fun t ht _ => ⟨some (.inl (wr v)), mm, congrArg (fun q => Outcome.returned (some q)) ew.symm, hκ, by rw [ht]; exact hH⟩) hlc hd
        exact (z_ffitS (ad := x.2.2.2.2.2) (ty := .boolean) hb).1
    · obtain ⟨en, hd⟩ := q_dec (n := 1) hi rfl
      exact W.lret C.1 C.2.1 (hret.trans hR) (fun t ht _ => ⟨some (.inr (.inr v)), mm, rfl, hκ, by rw [ht]; exact hH⟩) hlc hd
    · obtain ⟨en, hd⟩ := q_dec (n := 1) hi rfl
      exact W.vret C.1 C.2.1 (hret.trans hR) (fun t ht _ => ⟨none, mm, rfl, hκ, by rw [ht]; exact hH⟩) hlc hd
set_option maxHeartbeats 4000000 in
theorem zRulesX {x : zX} {stp : List (Nat × List Nat)} {n D k : Nat} {g : zG} {κ : Option zA → zM → Prop} (hk : z_thr k = true) (h : z_blk stp k (fun g1 => zTt x D k g1 κ) (zCall (zTt x) D κ k) κ (fun m => z_thr k = true ∧ κ none m) n g) : zTX x D k g κ := by
  intro p e s m args below meth c C hret hlocks htab hfl hsh
  have hkc := z_thrC hk
  have hcl : (mY k).cls = "SkirtsByTheDay" := by rcases hkc with rfl | rfl | rfl | rfl <;> rfl
  have hRi : mR k = some .int := by rcases hkc with rfl | rfl | rfl | rfl <;> rfl
  refine z_blkS (G := fun g1 => zTt x D k g1 κ) C (fun g1 h1 => h1.1 hk p e s m args below meth c C hret hlocks htab hfl hsh) (fun c0 as nx rs lo st pc mm site hcat hc0 hC => ?_) (fun r pc lo st mm hr hκ => ?_) (fun pc lo st mm g1 g2 h8 hF => ?_) n g h
  · unfold zCall at hC
    split at hC
    · exact hC.elim
    · rename_i D1
      obtain ⟨hb, hC⟩ := z_bif hC
      rw [Bool.and_eq_true] at hb
      have hpl := hb.1
      have hnt := z_plT hpl
      simp only [z_pl, Bool.and_eq_true] at hpl
      refine z_callS C site hcat (by have := q_blt hpl.1.1; omega) hpl.2 (Nat.le_of_ble_eq_true hb.2) (by show D1 + 1 + 8 ≤ D1 + 1 + 8; omega) (by show 80 * (D1 + 1) + 400 ≤ 80 * (D1 + 1) + 400; omega) (Nat.zero_le _) (Nat.zero_le _) (hC.2 hnt) (fun r m1 h1 => h1.1 hk p e s m args below meth c C hret hlocks htab hfl hsh)
  · rintro ls vs H locs ⟨hlo, rfl, hH, hlc⟩
    obtain ⟨nx, a1, a2, a3, z, hr⟩ := hr
    rcases hr with ⟨hi, v, rfl, rfl, hR⟩ | ⟨hi, v, rfl, rfl, hR⟩ | ⟨hi, rfl, rfl, hR⟩
    · obtain ⟨en, hd⟩ := q_dec (n := 1) hi rfl
      have ew : zv x.2.2.2.2.2 (.inl (wr v)) = zv x.2.2.2.2.2 (.inl v) := by
        show Value.int (Int32.ofInt (wr v)) = Value.int (Int32.ofInt v)
        rw [← wrE, z_ofN]
      refine vx_ret (W.widen (k := 1) (n := 6) (by omega) (by omega) ?_)
      exact W.iret C.1 C.2.1 (hret.trans hRi) (fun t ht _ => ⟨some (.inl (wr v)), mm, congrArg (fun q => Outcome.returned (some q)) ew.symm, hκ, by rw [ht]; exact hH⟩) hlc hd
    · rw [hRi] at hR
      cases hR
    · rw [hRi] at hR
      cases hR
  · rintro ls vs H locs ⟨hlo, rfl, hH, hlc⟩
    obtain ⟨n9, is, text, t1, t2, t3, t4, t5, t6⟩ := q_tsC hkc g2 g1
    obtain ⟨hx, hb, hml, hown, hts, hK, hnm, hRf, hRl⟩ := C
    obtain ⟨sa, hsa⟩ := hK.2.2.2.2.1 _ t1
    have hq0 : ∀ q : Nat, q < x.2.2.2.2.1.size → ¬ x.2.2.2.2.1.size ≤ q → s.heap[q]? = x.2.2.2.2.1[q]? := fun q hq _ => hsh q hq
    have hst2 : ((st.map (zv x.2.2.2.2.2)).map fun v => v.category).sum ≤ 8 := by
      rw [z_catsS]
      exact h8
    rw [hcl] at hown
    refine q_throw (own := "SkirtsByTheDay") (cls := q_nse) (Y0 := "java/lang/RuntimeException") (rr := ["java/lang/Exception"]) (ik := 119) (is := is) (ic := 123) (i1 := 13) (by1 := q_b13) (A := fun q => x.2.2.2.2.1.size ≤ q) hx hb hfl (by decide +kernel) (by decide +kernel) (by decide +kernel) (by decide +kernel) hown (by decide) (by decide) (by decide)
      (hts _ q_own_k) (hts _ q_own_i) hsa (q_hat hts hK.2.2.2) (List.all_eq_true.mp q_own_o) (hK.2.2.2.2.2.1.kept hq0) (hK.2.2.2.2.2.2.kept hq0) (fun q hq1 hq2 => ?_) (by rw [hml]; exact hlo.1) t2 t3 t4 t5 t6 (fun y hy => (htab y hy).elim)
      (by show 1 + 4 < D + 8; omega) (by show ((st.map (zv x.2.2.2.2.2)).map fun v => v.category).sum + (13 * (1 + 2) + 43) ≤ 80 * D + 400; omega) (by show 0 + 1 ≤ 1; omega) (by show 0 + 6 ≤ 6; omega) hlocks (fun t hA hz hq => ?_) hlc (by omega) (by omega)
    · have hq3 : q < x.2.2.2.2.1.size := Nat.lt_of_not_le hq2
      rw [hH.1 q hq3, hsh q hq3]
    · exact ⟨rfl, mm, hF.2, hH.grow hz hq⟩
theorem zRulesS (x : zX) : zRules (zTt x) := ⟨fun _ _ _ _ _ _ h => ⟨fun hk => zRulesX hk h, fun hk => zRulesP hk h⟩, fun ks D k pc lo st mm κ h => ⟨fun hk p e s m args below meth c C hret hlocks htab hfl hsh ls vs H locs F => h.1 hk p e s m args below meth c C hret hlocks htab hfl hsh ls vs H locs ⟨z_keepS ks F.1, F.2⟩, fun hk p e s m args below meth c C hret hlocks ls vs H locs F => h.2 hk p e s m args below meth c C hret hlocks ls vs H locs ⟨z_keepS ks F.1, F.2⟩⟩⟩
/-- a method that may throw, as the law's helpers call it -/
theorem z_metX {x : zX} {κ : Option zA → zM → Prop} {D c : Nat} {as : List zA} {mm : zM} {H0 : Heap} (hk : z_thr c = true) (hfl : x.1.stackTraces = false) (hcat : z_cats as ≤ mL c) (hH : zH x.2.1 x.2.2.1 x.2.2.2.1 x.2.2.2.2.1 x.2.2.2.2.2 mm H0) (hT : zTX x D c (0, z_args 0 as, [], mm) κ) :
    vx_Met x.1 (mY c) (q_ws c) (q_rm D 1 6) (q_Pc x.2.1 x.2.2.1 x.2.2.2.1 x.2.2.2.2.1 H0 (as.map (zv x.2.2.2.2.2))) (zQ x κ) (zXC x κ) 1 6 (fun q => x.2.2.2.2.1.size ≤ q) := by
  have hkc := z_thrC hk
  have hk2 : c < 303 := by omega
  have hp : c_plain c = true := by rcases hkc with rfl | rfl | rfl | rfl <;> rfl
  have hcl : (mY c).cls = "SkirtsByTheDay" := by rcases hkc with rfl | rfl | rfl | rfl <;> rfl
  have hpn : plainName (mY c).cls = true := by rw [hcl]; decide +kernel
  obtain ⟨w1, w2, w3, w4, w5, w6, w7⟩ := q_MW (q_meth hk2 hp)
  refine vx_ofW (cc := mC c) (maxL := mL c) (ret := mR c) hpn rfl ?_
  intro p e s m args below meth cd s₁ B hml htab hv
  obtain ⟨rfl, hK, hHH⟩ := hv
  have hts0 := atoms_spec (ws := q_ws c) B.pre
  have hts : ∀ w ∈ tb, w.before (as.map (zv x.2.2.2.2.2)).toArray s = true := fun w hw => hts0 w (List.mem_cons_of_mem _ hw)
  have hown : s.vm.findClass (mY c).cls = some m.cls := findClass_of_methodNamed B.named
  have hlocks := B.notSynchronized
  have hnm : meth.name = (mY c).name := (name_of_methodNamed B.named B.method).1
  have hret := B.returns
  have C : q_Ctx p (q_rm D 1 6) s m (as.map (zv x.2.2.2.2.2)).toArray meth cd x.2.1 x.2.2.1 x.2.2.2.1 x.2.2.2.2.1 c := ⟨B.exec, B.bytes, hml, hown, hts, hK, fun q => hnm.trans q, by show 8 ≤ D + 8; omega, by show 400 ≤ 80 * D + 400; omega⟩
  have hl := lv_entry (as.map (zv x.2.2.2.2.2)) (n := mL c) (by rw [q_slN, z_catsS]; exact hcat)
  rw [lg_entry_eq, hHH]
  generalize (lg_sl (as.map (zv x.2.2.2.2.2)) ++ List.replicate (mL c - (lg_sl (as.map (zv x.2.2.2.2.2))).length) Slot.unset).toArray = ls at hl ⊢
  exact hT p e s m _ below meth cd C hret hlocks htab hfl (fun q hq => by rw [hHH]; exact hH.1 q hq) ls [] H0 [] ⟨⟨hl.1, hl.2.1, fun q hq => hl.2.2 q (z_argsL 0 q hq)⟩, rfl, hH, fun q hq => nomatch hq⟩
noncomputable abbrev zr (c : Nat) : zA := .inr (.inl (some c))
noncomputable abbrev zi (v : Int) : zA := .inl v
noncomputable abbrev zl (v : Int) : zA := .inr (.inr v)
section ZUse
variable {T : Nat → Nat → zG → (Option zA → zM → Prop) → Prop}
theorem zkeep (hT : zRules T) {ks : List Nat} {D k pc : Nat} {lo lo2 : zL} {st : List zA} {m : zM} {κ : Option zA → zM → Prop} (hlo : z_keep ks lo = lo2) (h : T D k (pc, lo2, st, m) κ) : T D k (pc, lo, st, m) κ := hT.2 ks D k pc lo st m κ (hlo ▸ h)
end ZUse
theorem z_ixL {i n : Int} (h : (s_le 0 (wr i) && s_le (wr i + 1) n) = true) : z_ix i n := by
  rw [Bool.and_eq_true] at h
  exact ⟨s_le_iff.mp h.1, by have := s_le_iff.mp h.2; omega⟩
theorem z_b01L {v : Int} (h : (s_le 0 (wr v) && s_le (wr v) 1) = true) : 0 ≤ wr v ∧ wr v ≤ 1 := by
  rw [Bool.and_eq_true] at h
  exact ⟨s_le_iff.mp h.1, s_le_iff.mp h.2⟩
theorem z_leL {a b : Int} (h : s_le a b = true) : a ≤ b := s_le_iff.mp h
end
-- 39g.zuse.lean.txt
section
/-! What block theorems use. -/
noncomputable def s_tstB (c : ClassFile.Cond) (x y : Int) : Bool := match c with
  | .eq => decide (x = y)
  | .ne => !decide (x = y)
  | .lt => decide (x < y)
  | .ge => !decide (x < y)
  | .gt => decide (y < x)
  | .le => !decide (y < x)
theorem z_litT {c : ClassFile.Cond} {x y : Int} (h : s_tstB c x y = true) : z_tst c x y := by
  cases c <;> simp [s_tstB] at h <;> simp only [z_tst] <;> omega
theorem z_litF {c : ClassFile.Cond} {x y : Int} (h : z_tst c x y) (e : s_tstB c x y = false) : False := by
  cases c <;> simp [s_tstB] at e <;> simp only [z_tst] at h <;> omega
theorem z_eqL {x y : Int} (h : decide (x = y) = true) : x = y := of_decide_eq_true h
theorem z_neqL {x y : Int} (h : x = y) (e : decide (x = y) = false) : False := of_decide_eq_false e h
theorem z_neL {x : Int} (h : decide (x = 0) = false) : ¬ x = 0 := of_decide_eq_false h
theorem z_lneL {x : Int} (h : decide (x = 0) = false) : ¬ x = 0 := of_decide_eq_false h
theorem z_n8086 {x : Int} (h : x = 80) (e : x = 86) : False := by omega
theorem wl_id {a : Int} (h1 : -9223372036854775808 ≤ a) (h2 : a ≤ 9223372036854775807) : wl a = a := by
  simp only [wl_def]
  omega
theorem z_tmodB (a b h : Int) (ha : 0 ≤ a) (hb : 1 ≤ b) (hh : a ≤ h ∨ b - 1 ≤ h) : 0 ≤ Int.tmod a b ∧ Int.tmod a b ≤ h := by
  have h1 := Int.tmod_nonneg b ha
  have h2 := Int.tmod_lt_of_pos a (show 0 < b by omega)
  have h3 : Int.tmod a b ≤ a := by
    have e := Int.tmod_def a b
    have := Int.mul_nonneg (show 0 ≤ b by omega) (Int.tdiv_nonneg ha (show 0 ≤ b by omega))
    omega
  omega
theorem z_tdivB (a b h : Int) (ha : 0 ≤ a) (hb : 1 ≤ b) (hh : a ≤ h) : 0 ≤ Int.tdiv a b ∧ Int.tdiv a b ≤ h := by
  have h1 := Int.tdiv_nonneg ha (show 0 ≤ b by omega)
  have h2 : Int.tdiv a b ≤ a := Int.tdiv_le_self b ha
  omega
theorem z_b8B (a : Int) : -128 ≤ z_b8 a ∧ z_b8 a ≤ 127 := by
  unfold z_b8
  omega
theorem z_s16B (a : Int) : -32768 ≤ z_s16 a ∧ z_s16 a ≤ 32767 := by
  unfold z_s16
  omega
theorem z_c16B (a : Int) : 0 ≤ a % 65536 ∧ a % 65536 ≤ 65535 := by omega
theorem z_lcB (a b : Int) : -1 ≤ z_lc a b ∧ z_lc a b ≤ 1 := by
  unfold z_lc
  split
  · omega
  · split <;> omega
theorem z_mulB (a b p q r : Int) (h1 : 0 ≤ a) (h2 : 0 ≤ b) (h3 : a ≤ p) (h4 : b ≤ q) (e : p * q = r) : 0 ≤ a * b ∧ a * b ≤ r := ⟨Int.mul_nonneg h1 h2, e ▸ Int.mul_le_mul h3 h4 h2 (by omega)⟩
theorem z_i32B (x : Int32) : -2147483648 ≤ x.toInt ∧ x.toInt ≤ 2147483647 := ⟨q_low x, q_high x⟩
theorem z_andB (a b : Int) : -2147483648 ≤ z_and a b ∧ z_and a b ≤ 2147483647 := z_i32B _
theorem z_orB (a b : Int) : -2147483648 ≤ z_or a b ∧ z_or a b ≤ 2147483647 := z_i32B _
theorem z_xorB (a b : Int) : -2147483648 ≤ z_xor a b ∧ z_xor a b ≤ 2147483647 := z_i32B _
theorem z_shlB (a b : Int) : -2147483648 ≤ z_shl a b ∧ z_shl a b ≤ 2147483647 := z_i32B _
theorem z_shrB (a b : Int) : -2147483648 ≤ z_shr a b ∧ z_shr a b ≤ 2147483647 := z_i32B _
theorem z_ushB (a b : Int) : -2147483648 ≤ z_ush a b ∧ z_ush a b ≤ 2147483647 := z_i32B _
theorem z_wf {α : Type} {T : Nat → Nat → zG → (Option zA → zM → Prop) → Prop} {D k : Nat} {κ : Option zA → zM → Prop} (μ : α → Nat) (g : α → zG) (I : α → Prop) (step : ∀ a, I a → (∀ b, I b → μ b < μ a → T D k (g b) κ) → T D k (g a) κ) : ∀ a, I a → T D k (g a) κ := by
  have key : ∀ n a, μ a < n → I a → T D k (g a) κ := by
    intro n
    induction n with
    | zero => intro a h; omega
    | succ n ih => intro a h hI; exact step a hI (fun b hb hlt => ih b (by omega) hb)
  intro a hI
  exact key (μ a + 1) a (by omega) hI
theorem z_andC (a : Int) (n : Nat) (hn : n < 2147483648) : 0 ≤ z_and a (n : Int) ∧ z_and a (n : Int) ≤ (n : Int) := by
  unfold z_and
  have e1 : (Int32.ofInt a &&& Int32.ofInt (n : Int)).toBitVec.toNat ≤ n := by
    rw [Int32.toBitVec_and, BitVec.toNat_and]
    refine Nat.le_trans Nat.and_le_right ?_
    have e := z_natS (n : Int)
    omega
  have e2 := s_ofnat (z := (Int32.ofInt a &&& Int32.ofInt (n : Int))) (by omega)
  omega
/-! What numbers lie in the cells. -/
noncomputable def zb75 (j : Nat) : Option (Int × Int) := (bif Nat.ble 0 j && Nat.blt j 6 then some (0, 3) else bif Nat.ble 6 j && Nat.blt j 12 then some ((-1), 7) else bif Nat.ble 12 j && Nat.blt j 20 then some ((-1), 99) else bif Nat.ble 20 j && Nat.blt j 28 then some ((-1), 9) else bif Nat.ble 36 j && Nat.blt j 56 then some (0, 108) else bif Nat.beq j 56 then some (0, 20) else bif Nat.beq j 57 then some (0, 400000) else none)
noncomputable def zbMm (j : Nat) : Option (Int × Int) := (bif Nat.ble 0 j && Nat.blt j 6 then some ((-1), 3) else bif Nat.ble 6 j && Nat.blt j 12 then some ((-1), 7) else bif Nat.ble 12 j && Nat.blt j 20 then some ((-1), 99) else bif Nat.ble 20 j && Nat.blt j 28 then some ((-1), 9) else bif Nat.ble 36 j && Nat.blt j 56 then some (0, 108) else bif Nat.beq j 56 then some (0, 20) else bif Nat.beq j 58 then some (0, 400000) else none)
noncomputable def zbt (c j : Nat) : Option (Int × Int) := (bif Nat.blt c 41 then (bif Nat.blt c 20 then (bif Nat.blt c 10 then (bif Nat.blt c 6 then (bif Nat.blt c 4 then (bif Nat.blt c 3 then (bif Nat.beq c 2 then (bif Nat.beq j 1 then some (0, 80) else bif Nat.beq j 2 then some (0, 80) else bif Nat.beq j 3 then some ((-1), 100) else none) else none) else (bif Nat.beq c 3 then some (0, 65535) else none)) else (bif Nat.blt c 5 then (bif Nat.beq c 4 then (bif Nat.beq j 4 then some (0, 4) else none) else none) else (bif Nat.beq c 5 then some (0, 9) else none))) else (bif Nat.blt c 8 then (bif Nat.blt c 7 then (bif Nat.beq c 6 then some (0, 26) else none) else (bif Nat.beq c 7 then some (0, 9) else none)) else (bif Nat.blt c 9 then (bif Nat.beq c 8 then some (0, 26) else none) else (bif Nat.beq c 9 then (bif Nat.beq j 4 then some (0, 40) else bif Nat.beq j 8 then some (0, 40) else none) else none)))) else (bif Nat.blt c 15 then (bif Nat.blt c 12 then (bif Nat.blt c 11 then (bif Nat.beq c 10 then some ((-1), 65535) else none) else (bif Nat.beq c 11 then some (0, 999) else none)) else (bif Nat.blt c 14 then (bif Nat.beq c 12 then some (0, 39) else none) else (bif Nat.beq c 14 then some ((-1), 65535) else none))) else (bif Nat.blt c 17 then (bif Nat.blt c 16 then (bif Nat.beq c 15 then some (0, 999) else none) else (bif Nat.beq c 16 then some (0, 39) else none)) else (bif Nat.blt c 18 then (bif Nat.beq c 17 then (bif Nat.beq j 0 then some (0, 6) else bif Nat.beq j 1 then some (0, 8) else bif Nat.beq j 11 then some (0, 400000) else none) else none) else (bif Nat.blt c 19 then (bif Nat.beq c 18 then some ((-1), 99) else none) else (bif Nat.beq c 19 then some ((-1), 3) else none)))))) else (bif Nat.blt c 32 then (bif Nat.blt c 25 then (bif Nat.blt c 22 then (bif Nat.blt c 21 then (bif Nat.beq c 20 then some ((-1), 7) else none) else (bif Nat.beq c 21 then some ((-1), 99) else none)) else (bif Nat.blt c 24 then (bif Nat.beq c 22 then some ((-1), 9) else none) else (bif Nat.beq c 24 then some (0, 9) else none))) else (bif Nat.blt c 28 then (bif Nat.blt c 26 then (bif Nat.beq c 25 then (bif Nat.beq j 2 then some (0, 20) else none) else none) else (bif Nat.beq c 26 then some (0, 108) else none)) else (bif Nat.blt c 30 then (bif Nat.beq c 28 then (bif Nat.beq j 4 then some (0, 12) else bif Nat.beq j 5 then some (0, 12) else none) else none) else (bif Nat.blt c 31 then (bif Nat.beq c 30 then zbMm j else none) else (bif Nat.beq c 31 then zbMm j else none))))) else (bif Nat.blt c 36 then (bif Nat.blt c 34 then (bif Nat.blt c 33 then (bif Nat.beq c 32 then zbMm j else none) else (bif Nat.beq c 33 then zbMm j else none)) else (bif Nat.blt c 35 then (bif Nat.beq c 34 then zbMm j else none) else (bif Nat.beq c 35 then zbMm j else none))) else (bif Nat.blt c 38 then (bif Nat.blt c 37 then (bif Nat.beq c 36 then zbMm j else none) else (bif Nat.beq c 37 then zbMm j else none)) else (bif Nat.blt c 39 then (bif Nat.beq c 38 then zbMm j else none) else (bif Nat.blt c 40 then (bif Nat.beq c 39 then zbMm j else none) else (bif Nat.beq c 40 then zbMm j else none))))))) else (bif Nat.blt c 76 then (bif Nat.blt c 62 then (bif Nat.blt c 52 then (bif Nat.blt c 44 then (bif Nat.blt c 42 then (bif Nat.beq c 41 then zbMm j else none) else (bif Nat.beq c 42 then zbMm j else none)) else (bif Nat.blt c 45 then (bif Nat.beq c 44 then zbMm j else none) else (bif Nat.beq c 45 then zbMm j else none))) else (bif Nat.blt c 59 then (bif Nat.blt c 53 then (bif Nat.beq c 52 then (bif Nat.beq j 1 then some (0, 60) else bif Nat.beq j 6 then some (0, 9) else none) else none) else (bif Nat.beq c 53 then some (0, 99) else none)) else (bif Nat.blt c 60 then (bif Nat.beq c 59 then (bif Nat.beq j 4 then some (0, 12) else none) else none) else (bif Nat.blt c 61 then (bif Nat.beq c 60 then some (0, 5) else none) else (bif Nat.beq c 61 then some (0, 3) else none))))) else (bif Nat.blt c 66 then (bif Nat.blt c 64 then (bif Nat.blt c 63 then (bif Nat.beq c 62 then some (0, 9999) else none) else (bif Nat.beq c 63 then some (0, 99) else none)) else (bif Nat.blt c 65 then (bif Nat.beq c 64 then (bif Nat.beq j 2 then some (0, 7) else none) else none) else (bif Nat.beq c 65 then some (0, 20) else none))) else (bif Nat.blt c 72 then (bif Nat.blt c 71 then (bif Nat.beq c 66 then some (0, 99) else none) else (bif Nat.beq c 71 then some (0, 1) else none)) else (bif Nat.blt c 74 then (bif Nat.beq c 72 then (bif Nat.beq j 1 then some (0, 26) else none) else none) else (bif Nat.blt c 75 then (bif Nat.beq c 74 then (bif Nat.beq j 1 then some (0, 4) else bif Nat.beq j 4 then some (0, 6) else bif Nat.beq j 6 then some (0, 8) else bif Nat.beq j 9 then some (0, 80) else bif Nat.beq j 11 then some (0, 32) else bif Nat.beq j 14 then some (0, 80) else bif Nat.beq j 15 then some (0, 80) else bif Nat.beq j 16 then some (0, 100) else bif Nat.beq j 22 then some (0, 6) else bif Nat.beq j 23 then some (0, 8) else bif Nat.beq j 25 then some (0, 40) else bif Nat.beq j 26 then some (0, 1) else bif Nat.beq j 35 then some (0, 12) else bif Nat.beq j 49 then some (0, 26) else bif Nat.beq j 52 then some (0, 12) else bif Nat.beq j 54 then some (0, 7) else none) else none) else (bif Nat.beq c 75 then zb75 j else none)))))) else (bif Nat.blt c 86 then (bif Nat.blt c 80 then (bif Nat.blt c 78 then (bif Nat.blt c 77 then (bif Nat.beq c 76 then some (0, 9) else none) else (bif Nat.beq c 77 then some (0, 26) else none)) else (bif Nat.blt c 79 then (bif Nat.beq c 78 then some (0, 99) else none) else (bif Nat.beq c 79 then some (0, 9) else none))) else (bif Nat.blt c 83 then (bif Nat.blt c 82 then (bif Nat.beq c 80 then some ((-128), 127) else none) else (bif Nat.beq c 82 then some (0, 9) else none)) else (bif Nat.blt c 84 then (bif Nat.beq c 83 then some (0, 26) else none) else (bif Nat.blt c 85 then (bif Nat.beq c 84 then some (0, 99) else none) else (bif Nat.beq c 85 then some (0, 99) else none))))) else (bif Nat.blt c 97 then (bif Nat.blt c 88 then (bif Nat.blt c 87 then (bif Nat.beq c 86 then some ((-128), 127) else none) else (bif Nat.beq c 87 then zb75 (j % 59) else none)) else (bif Nat.blt c 91 then (bif Nat.beq c 88 then zb75 j else none) else (bif Nat.beq c 91 then zb75 j else none))) else (bif Nat.blt c 100 then (bif Nat.blt c 99 then (bif Nat.beq c 97 then some (0, 99) else none) else (bif Nat.beq c 99 then some (0, 9999) else none)) else (bif Nat.blt c 106 then (bif Nat.beq c 100 then some (0, 99) else none) else (bif Nat.blt c 107 then (bif Nat.beq c 106 then zb75 (j % 59) else none) else (bif Nat.beq c 107 then some (0, 1) else none))))))))
noncomputable def zbd (c j : Nat) (v : Int) : Prop := match zbt c j with
  | some q => q.1 ≤ v ∧ v ≤ q.2
  | none => True
noncomputable def zB (m : zM) : Prop := ∀ c j, zbd c j (m c j)
theorem zB_u {m : zM} {q i : Nat} {v : Int} (h : zB m) (hv : zbd q i v) : zB (zu m q i v) := by
  intro c j
  show zbd c j (bif Nat.beq c q && Nat.beq j i then v else m c j)
  cases hc : Nat.beq c q with
  | false => exact h c j
  | true =>
    cases hj : Nat.beq j i with
    | false => exact h c j
    | true =>
      rw [Nat.eq_of_beq_eq_true hc, Nat.eq_of_beq_eq_true hj]
      exact hv
theorem zB_cp {m : zM} {q0 q1 sp dp n : Nat} (h : zB m) (hv : ∀ j, dp ≤ j → j < dp + n → zbd q1 j (m q0 (sp + (j - dp)))) : zB (z_cp m q0 q1 sp dp n) := by
  intro c j
  by_cases hc : c = q1
  · subst hc
    rw [z_cp_at]
    split
    · rename_i e
      exact hv j e.1 e.2
    · exact h c j
  · rw [z_cp_ne hc]
    exact h c j
noncomputable def zsegB (c a b : Nat) (l h : Int) : Bool := (List.range b).all (fun i => Nat.blt i a || (match zbt c i with
  | some q => s_le l q.1 && s_le q.2 h
  | none => false))
theorem q_bltF {a j : Nat} (h : a ≤ j) : Nat.blt j a = false := q_bleF (Nat.lt_succ_of_le h)
theorem zbSn (c a b : Nat) (chk : ((List.range b).all (fun i => Nat.blt i a || (match zbt c i with
  | some _ => false
  | none => true))) = true) (j : Nat) (v : Int) (h1 : a ≤ j) (h2 : j < b) : zbd c j v := by
  have e := List.all_eq_true.mp chk j (List.mem_range.mpr h2)
  rw [show Nat.blt j a = false from q_bltF h1, Bool.false_or] at e
  unfold zbd
  split at e
  · cases e
  · trivial
theorem zSg {m : zM} (hB : zB m) (c a b : Nat) (l h : Int) (chk : zsegB c a b l h = true) (j : Nat) (h1 : a ≤ j) (h2 : j < b) : l ≤ m c j ∧ m c j ≤ h := by
  have e := List.all_eq_true.mp chk j (List.mem_range.mpr h2)
  rw [show Nat.blt j a = false from q_bltF h1, Bool.false_or] at e
  have g := hB c j
  unfold zbd at g
  split at e
  · rename_i q hq
    rw [hq] at g
    rw [Bool.and_eq_true] at e
    exact ⟨Int.le_trans (s_le_iff.mp e.1) g.1, Int.le_trans g.2 (s_le_iff.mp e.2)⟩
  · cases e
theorem zbSg (c a b : Nat) (l h : Int) (chk : ((List.range b).all (fun i => Nat.blt i a || (match zbt c i with
  | some q => s_le q.1 l && s_le h q.2
  | none => true))) = true) (j : Nat) (v : Int) (h1 : a ≤ j) (h2 : j < b) (hv : l ≤ v ∧ v ≤ h) : zbd c j v := by
  have e := List.all_eq_true.mp chk j (List.mem_range.mpr h2)
  rw [show Nat.blt j a = false from q_bltF h1, Bool.false_or] at e
  unfold zbd
  split at e
  · rw [Bool.and_eq_true] at e
    exact ⟨Int.le_trans (s_le_iff.mp e.1) hv.1, Int.le_trans hv.2 (s_le_iff.mp e.2)⟩
  · trivial
noncomputable def zcpB (q0 q1 sp dp n : Nat) : Bool := (List.range n).all (fun t => match zbt q1 (dp + t) with
  | none => true
  | some q => match zbt q0 (sp + t) with
    | some r => s_le q.1 r.1 && s_le r.2 q.2
    | none => false)
theorem zB_cpB {m : zM} {q0 q1 sp dp n : Nat} (hB : zB m) (chk : zcpB q0 q1 sp dp n = true) : zB (z_cp m q0 q1 sp dp n) := by
  refine zB_cp hB (fun j h1 h2 => ?_)
  have e := List.all_eq_true.mp chk (j - dp) (List.mem_range.mpr (by omega))
  have g := hB q0 (sp + (j - dp))
  unfold zbd at g ⊢
  rw [show dp + (j - dp) = j by omega] at e
  split at e
  · rename_i hq
    rw [hq]
    trivial
  · split at e
    · rename_i q hq _ r hr
      rw [hq]
      rw [hr] at g
      rw [Bool.and_eq_true] at e
      exact ⟨Int.le_trans (s_le_iff.mp e.1) g.1, Int.le_trans g.2 (s_le_iff.mp e.2)⟩
    · cases e
theorem zu_off {m : zM} {q i j : Nat} {v : Int} (h : j ≠ i) : zu m q i v q j = m q j := by rw [zu_at, if_neg h]
theorem zu_df {m : zM} {q c i j : Nat} {v : Int} (h : Nat.beq c q = false) : zu m q i v c j = m c j := by
  show (bif Nat.beq c q && Nat.beq j i then v else m c j) = m c j
  rw [h]
  rfl
theorem z_cp_df {m : zM} {q0 q1 sp dp n c j : Nat} (h : Nat.beq c q1 = false) : z_cp m q0 q1 sp dp n c j = m c j := by
  rw [z_cp_ne (fun e => by rw [e, Nat.beq_refl] at h; cases h)]
theorem zu_sm {m : zM} {q i j : Nat} {v : Int} (h : j = i) : zu m q i v q j = v := by rw [zu_at, if_pos h]
end
