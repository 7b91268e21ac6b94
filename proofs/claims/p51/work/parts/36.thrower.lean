/-! Methods that throw, and the law's helpers that catch it. -/
noncomputable def q_b13 : ByteArray := prog_23_method_4_code
noncomputable def q_own : List Cond := q_ownA "SkirtsByTheDay" 123 q_nse "java/lang/RuntimeException" ["java/lang/Exception"] 13 q_b13
theorem q_own_n : (((q_own.filter vx_no).filter (fun w => !goodWord w)).all (fun w => decide (w ∈ q_xw))) = true := by decide +kernel
noncomputable def q_cand : List Nat := [0, 1, 2, 3, 4, 5, 6, 7, 8, 9, 10, 11, 12, 13, 14, 15, 16, 17, 18, 19, 20, 21, 22, 23, 24, 25, 26, 27, 28, 29, 30, 31, 32, 33, 34, 35, 36, 37, 38, 39, 40, 41, 42, 43, 44, 45, 46, 47, 48, 49, 50, 51, 52, 53, 54, 55, 56, 57, 58, 59, 60, 61, 62, 63, 64, 65, 82, 83, 84, 85, 1204, 1209, 1210, 1211, 1212, 1213, 1214, 1215, 1216, 1217, 1218, 1219, 1220, 1221, 1222, 1223, 1224, 1225, 1226, 1227, 1228, 1229, 1230, 1231, 1232, 1233, 1234, 1235, 1236, 1237, 1238, 1239, 1240, 1241, 1242, 1243, 1244, 1245, 1246, 1247, 1249, 1250, 1251, 1252, 1253, 1254, 1255, 1256, 1257, 1258, 1259, 1260, 1261, 1262, 1263, 1264, 1265, 1266, 1267, 1268, 1269, 1270, 1271, 1272, 1273, 1945, 1959, 1960]
theorem q_ownM {w : Cond} (h : (q_cand.any (fun i => decide (lw_g i = some w)) || decide (w ∈ lw_tbl)) = true) : w ∈ lw_tbl := by
  rw [Bool.or_eq_true] at h
  rcases h with h | h
  · obtain ⟨i, -, hi⟩ := List.any_eq_true.mp h
    exact lw_gm i w (of_decide_eq_true hi)
  · exact of_decide_eq_true h
set_option maxRecDepth 100000 in
theorem q_own_g : (((q_own.filter vx_no).filter goodWord).all (fun w => q_cand.any (fun i => decide (lw_g i = some w)) || decide (w ∈ lw_tbl))) = true := by decide +kernel
theorem q_own_o : (Cond.classLink "SkirtsByTheDay" 119 q_nse :: Cond.initialized q_nse :: q_own.filter vx_no).all vx_ot = true := by decide +kernel
theorem q_own_k : Cond.classLink "SkirtsByTheDay" 119 q_nse ∈ tb := wAt_mem (i := 1209) (by decide +kernel)
theorem q_own_i : Cond.initialized q_nse ∈ tb := wAt_mem (i := 85) (by decide +kernel)
theorem q_own_c : Cond.classLink "SkirtsByTheDayLaw" 13 q_nse ∈ tb := wAt_mem (i := 1204) (by decide +kernel)
theorem q_hat {args : Array Value} {s : State} {Hb : Heap} (hts : ∀ w ∈ tb, w.before args s = true) (hX : q_KX Hb s) : ∀ w ∈ q_own.filter vx_no, w.before args s = true := fun w hw => by
  by_cases g : goodWord w = true
  · exact hts w (List.mem_filter.mpr ⟨q_ownM (List.all_eq_true.mp q_own_g w (List.mem_filter.mpr ⟨hw, g⟩)), g⟩)
  · have g2 : (!goodWord w) = true := by simpa using g
    have hx := of_decide_eq_true (List.all_eq_true.mp q_own_n w (List.mem_filter.mpr ⟨hw, g2⟩))
    exact va_Nw.use (q_xwT hx) (hX.1 w hx)
/-- a place that throws: new, dup, ldc or ldc_w, invokespecial, athrow -/
noncomputable def q_TS (k pc : Nat) : Prop := ∃ (n is : Nat) (text : String), (is, text) ∈ q_xs ∧ decode (mC k) pc = .ok (.new 119, 3) ∧ decode (mC k) (pc + 3) = .ok (.dup, 1) ∧ ((decode (mC k) (pc + 4) = .ok (.ldc is, 2) ∧ n = 6) ∨ (decode (mC k) (pc + 4) = .ok (.ldc_w is, 3) ∧ n = 7)) ∧ decode (mC k) (pc + n) = .ok (.invokespecial 123, 3) ∧ decode (mC k) (pc + n + 3) = .ok (.athrow, 1)
noncomputable def q_n99 (k pc : Nat) : Bool := match ins k pc with
  | some q => Nat.beq q.2.2.1 99 && (match q.1 with
    | .new _ => true
    | _ => false)
  | none => false
theorem q_ts0 : q_TS 117 11 := ⟨6, 121, "there is no such one of PEOPLE", by decide +kernel, by decide +kernel, by decide +kernel, Or.inl ⟨by decide +kernel, rfl⟩, by decide +kernel, by decide +kernel⟩
theorem q_ts1 : q_TS 117 106 := ⟨6, 142, "nothing such is told of PEOPLE", by decide +kernel, by decide +kernel, by decide +kernel, Or.inl ⟨by decide +kernel, rfl⟩, by decide +kernel, by decide +kernel⟩
theorem q_ts2 : q_TS 118 11 := ⟨6, 147, "there is no such CLOTH", by decide +kernel, by decide +kernel, by decide +kernel, Or.inl ⟨by decide +kernel, rfl⟩, by decide +kernel, by decide +kernel⟩
theorem q_ts3 : q_TS 118 104 := ⟨6, 164, "nothing such is told of CLOTHS", by decide +kernel, by decide +kernel, by decide +kernel, Or.inl ⟨by decide +kernel, rfl⟩, by decide +kernel, by decide +kernel⟩
theorem q_ts4 : q_TS 130 11 := ⟨7, 256, "there is no such piece in THE BOX", by decide +kernel, by decide +kernel, by decide +kernel, Or.inr ⟨by decide +kernel, rfl⟩, by decide +kernel, by decide +kernel⟩
theorem q_ts5 : q_TS 162 15 := ⟨7, 449, "the ROW has no such number", by decide +kernel, by decide +kernel, by decide +kernel, Or.inr ⟨by decide +kernel, rfl⟩, by decide +kernel, by decide +kernel⟩
set_option maxRecDepth 100000 in
theorem q_tc117 : ∀ pc, pc < mN 117 → q_n99 117 pc = true → pc = 11 ∨ pc = 106 := by decide +kernel
set_option maxRecDepth 100000 in
theorem q_tc118 : ∀ pc, pc < mN 118 → q_n99 118 pc = true → pc = 11 ∨ pc = 104 := by decide +kernel
set_option maxRecDepth 100000 in
theorem q_tc130 : ∀ pc, pc < mN 130 → q_n99 130 pc = true → pc = 11 := by decide +kernel
set_option maxRecDepth 100000 in
theorem q_tc162 : ∀ pc, pc < mN 162 → q_n99 162 pc = true → pc = 15 := by decide +kernel
theorem q_tsC {k pc : Nat} (hk : k = 117 ∨ k = 118 ∨ k = 130 ∨ k = 162) (hp : pc < mN k) (h : q_n99 k pc = true) : q_TS k pc := by
  rcases hk with rfl | rfl | rfl | rfl
  · rcases q_tc117 pc hp h with rfl | rfl
    · exact q_ts0
    · exact q_ts1
  · rcases q_tc118 pc hp h with rfl | rfl
    · exact q_ts2
    · exact q_ts3
  · have e := q_tc130 pc hp h
    subst e
    exact q_ts4
  · have e := q_tc162 pc hp h
    subst e
    exact q_ts5
/-- a heap with more behind it -/
theorem q_G.grow {dC : Nat → ClassId} {dI : Nat → Nat → Nat} {dA : FieldType → ClassId} {rv : List Int} {ad : Nat → Nat} {Hb H0 H H1 : Heap} {E : sE} {h : sH} (hG : q_G dC dI dA rv ad Hb H0 E h H) (hf : E.1 = false) (hz : H.size ≤ H1.size) (hq : ∀ q : Nat, q < H.size → H1[q]? = H[q]?) : q_G dC dI dA rv ad Hb H0 E h H1 := by
  obtain ⟨g1, g2, g3, g4, g5, g6, g7⟩ := hG
  refine ⟨fun q hq1 => (hq q (by omega)).trans (g1 q hq1), fun q hq1 hn => (hq q (by omega)).trans (g2 q hq1 hn), by omega, (fun e => by rw [hf] at e; cases e), fun x hx => (g5 x hx).kept (hq _ (g5 x hx).lt), g6, fun _ => (g7 hf).kept fun i ⟨z, z1, z2, z3⟩ => ⟨⟨z, z1, z2, z3⟩, ?_⟩⟩
  have := (g5 z z1).lt
  rw [z2] at this
  exact hq _ this
noncomputable def q_XC (dC : Nat → ClassId) (dI : Nat → Nat → Nat) (dA : FieldType → ClassId) (rv : List Int) (ad : Nat → Nat) (Hb H0 : Heap) (os : List sO) : String → State → State → Prop := fun Ee _ t =>
  Ee = q_nse ∧ ∃ o ∈ os, ∃ x, o.1 = 1 ∧ q_E (rv ++ x) o.2.2.2.2.2.1 ∧ q_G dC dI dA (rv ++ x) ad Hb H0 o.2.2.2.2.2.1 o.2.2.2.2.2.2 t.heap
section Throwers
variable {l : Launch} {dC : Nat → ClassId} {dI : Nat → Nat → Nat} {dA : FieldType → ClassId} {rv : List Int} {ad : Nat → Nat} {Hb H0 : Heap} {k D mc ms n : Nat} {dp : sF} {X : sF → Nat → List sA → sE → sH → Option sZ} {as : List sA} {E : sE} {h : sH} {os : List sO}
theorem q_newE {pc : Nat} {lo : sL} {st : List sA} {E1 : sE} {h1 : sH} {ret0 : Option sA} (ht : s_step k pc lo st E1 h1 = some (.inr (.inr (1, ret0)))) : q_n99 k pc = true ∧ pc < mN k := by
  unfold s_step at ht
  cases hi : ins k pc with
  | none => rw [hi] at ht; cases ht
  | some row =>
    rw [hi] at ht
    have hp := (q_ins hi).2
    obtain ⟨i, nx, a1, a2, a3, z⟩ := row
    cases i <;> dsimp only at ht
    case new x =>
      cases h99 : Nat.beq a1 99 with
      | true => exact ⟨by simp only [q_n99, hi, h99, Bool.and_self], hp⟩
      | false =>
        rw [h99] at ht
        cases hE9 : E1.1 && s_ids h1 with
        | true => rw [hE9] at ht; cases ht
        | false => rw [hE9] at ht; cases ht
    case ireturn =>
      split at ht
      · unfold s_ret at ht
        split at ht
        · cases ht
        · simp only [cond_eq_ite] at ht
          split at ht <;> cases ht
        · cases ht
      · cases ht
    case lreturn =>
      split at ht
      · split at ht <;> cases ht
      · cases ht
    case return_ =>
      split at ht
      · split at ht <;> cases ht
      · cases ht
    case invokestatic x =>
      simp only [cond_eq_ite, s_inv, s_copy, s_go] at ht
      repeat' (split at ht <;> try (cases ht; done))
    case invokevirtual x =>
      split at ht
      · simp only [cond_eq_ite] at ht
        split at ht <;> cases ht
      · cases ht
    case invokespecial x =>
      simp only [cond_eq_ite, s_go] at ht
      repeat' (split at ht <;> try (cases ht; done))
    all_goals (try simp only [s_go, s_gox, s_br, s_gets, s_puts, s_op2, s_op2o, s_op1, s_lop2, s_ldv, s_andI, s_rld, s_rst] at ht)
    all_goals (first | (cases ht; done) | skip)
    all_goals (repeat' (split at ht <;> try (cases ht; done)))
    all_goals (first | (cases ht; done) | (simp only [cond_eq_ite] at ht; repeat' (split at ht <;> try (cases ht; done))) | skip)
set_option maxHeartbeats 4000000 in
theorem q_metX (hk : k = 117 ∨ k = 118 ∨ k = 130 ∨ k = 162) (hfl : l.stackTraces = false) (hX : q_XOK l dC dI dA Hb ad D dp X)
    (hr : s_run X dp k (fun _ => false) n (0, s_args 0 as, [], E, h) = some (mc, ms, os)) (hv : s_val rv dp = some (D : Int)) (hcat : s_cats as ≤ mL k) (hE : q_E rv E) (hos : ∀ o ∈ os, (o.1 = 0 ∨ (o.1 = 1 ∧ s_cats o.2.2.2.2.1 ≤ 8)) ∧ o.2.2.2.2.2.1.1 = false) {vs : List Value} (hvs : q_L rv ad as vs) (hG0 : q_G dC dI dA rv ad Hb H0 E h H0) :
    vx_Met l (mY k) (q_ws k) (q_rm D mc ms) (q_Pc dC dI dA Hb H0 vs) (q_Qc dC dI dA rv ad Hb H0 os) (q_XC dC dI dA rv ad Hb H0 os) mc ms (fun q => Hb.size ≤ q) := by
  have hk2 : k < 302 := by rcases hk with rfl | rfl | rfl | rfl <;> omega
  have hp : c_plain k = true := by rcases hk with rfl | rfl | rfl | rfl <;> rfl
  have hcl : (mY k).cls = "SkirtsByTheDay" := by rcases hk with rfl | rfl | rfl | rfl <;> rfl
  have hpn : plainName (mY k).cls = true := by rw [hcl]; decide +kernel
  obtain ⟨w1, w2, w3, w4, w5, w6, w7⟩ := q_MW (q_meth hk2 hp)
  refine vx_ofW (cc := mC k) (maxL := mL k) (ret := mR k) hpn rfl ?_
  intro p e s m args below meth c s₁ B hml htab hv0
  obtain ⟨rfl, hK, hH⟩ := hv0
  have hts0 := atoms_spec (ws := q_ws k) B.pre
  have hts : ∀ w ∈ tb, w.before vs.toArray s = true := fun w hw => hts0 w (List.mem_cons_of_mem _ hw)
  have hown : s.vm.findClass (mY k).cls = some m.cls := findClass_of_methodNamed B.named
  have hlocks := B.notSynchronized
  have hnm : meth.name = (mY k).name := (name_of_methodNamed B.named B.method).1
  have hret := B.returns
  have C : q_Ctx p (q_rm D mc ms) s m vs.toArray meth c dC dI dA Hb k := ⟨B.exec, B.bytes, hml, hown, hts, hK, fun q => hnm.trans q, by show 8 ≤ D + 8; omega, by show 400 ≤ 80 * D + 400; omega⟩
  have hl := lv_entry vs (n := mL k) (by rw [q_slN, hvs.cats]; exact hcat)
  rw [lg_entry_eq]
  generalize (lg_sl vs ++ List.replicate (mL k - (lg_sl vs).length) Slot.unset).toArray = ls at hl ⊢
  have hlo : q_Lo rv ad (s_args 0 as) ls (mL k) := ⟨hl.1, hl.2.1, fun q hq => by
    obtain ⟨v, g1, g2⟩ := q_argsL 0 hvs q hq
    exact ⟨v, hl.2.2 _ g1, g2⟩⟩
  show W p l e (q_rm D mc ms) s m vs.toArray below meth c s.heap [] 0 0 _ _
  rw [hH]
  refine q_run C hX (Nat.le_refl _) (Nat.le_refl _) n _ mc ms os rv hr hv ls [] H0 [] 0 0 ⟨hlo, rfl, hE, hG0, fun q hq => nomatch hq⟩ (by show 0 + mc ≤ mc; omega) (by show 0 + ms ≤ ms; omega) (fun o ho ht x ls1 vs1 H1 locs1 cells1 slots1 F1 z1 z2 => ?_)
  obtain ⟨e0, ret0, pc, lo, st, E1, h1⟩ := o
  obtain ⟨he, hef⟩ := hos _ ho
  dsimp only at he hef z1 z2 F1 ⊢
  rcases he with rfl | ⟨rfl, he8⟩
  · have c1 : cells1 ≤ mc := by have z3 : cells1 + 0 ≤ 0 + mc := z1; omega
    have s1 : slots1 ≤ ms := by have z3 : slots1 + 0 ≤ 0 + ms := z2; omega
    rcases ht with ⟨ht, -⟩ | ht
    · cases ht
    · refine vx_ret (W.widen (k := mc) (n := ms) c1 s1 ?_)
      exact q_leave C hret hlocks ht F1 (fun v hv t htH _ => ⟨v, rfl, _, ho, x, rfl, hv, F1.2.2.1, by rw [htH]; exact F1.2.2.2.1⟩)
  · obtain ⟨hlo1, hst1, hE1, hG1, hlc1⟩ := F1
    have c1 : cells1 + 1 ≤ mc := by have z3 : cells1 + 1 ≤ 0 + mc := z1; omega
    have s1 : slots1 + 6 ≤ ms := by have z3 : slots1 + 6 ≤ 0 + ms := z2; omega
    rcases ht with ⟨ht, -⟩ | ht
    · cases ht
    · have ht : s_step k pc lo st E1 h1 = some (.inr (.inr (1, ret0))) := ht
      obtain ⟨g1, g2⟩ := q_newE ht
      obtain ⟨n9, is, text, t1, t2, t3, t4, t5, t6⟩ := q_tsC hk g2 g1
      obtain ⟨sa, hsa⟩ := hK.2.2.2.2.1 _ t1
      have hq0 : ∀ q : Nat, q < Hb.size → ¬ Hb.size ≤ q → s.heap[q]? = Hb[q]? := fun q hq _ => by rw [hH]; exact hG0.1 q hq
      have hst2 : (vs1.map fun v => v.category).sum ≤ 8 := by
        rw [show (vs1.map fun v => v.category).sum = s_cats st from hst1.cats]
        exact he8
      rw [hcl] at hown
      refine q_throw (own := "SkirtsByTheDay") (cls := q_nse) (Y0 := "java/lang/RuntimeException") (rr := ["java/lang/Exception"]) (ik := 119) (is := is) (ic := 123) (i1 := 13) (by1 := q_b13) (A := fun q => Hb.size ≤ q) C.1 C.2.1 hfl (by decide +kernel) (by decide +kernel) (by decide +kernel) (by decide +kernel) hown (by decide) (by decide) (by decide)
        (hts _ q_own_k) (hts _ q_own_i) hsa (q_hat hts hK.2.2.2) (List.all_eq_true.mp q_own_o) (hK.2.2.2.2.2.1.kept hq0) (hK.2.2.2.2.2.2.kept hq0) (fun q hq1 hq2 => ?_) (by rw [hml]; exact hlo1.1) t2 t3 t4 t5 t6 (fun x hx => (htab x hx).elim)
        (by show 1 + 4 < D + 8; omega) (by show _ + (13 * (1 + 2) + 43) ≤ 80 * D + 400; omega) (by show cells1 + 1 ≤ mc; omega) (by show slots1 + 6 ≤ ms; omega) hlocks (fun t hA hz hq => ?_) hlc1 c1 s1
      · have hq3 : q < Hb.size := Nat.lt_of_not_le hq2
        rw [hG1.1 q hq3, hH, hG0.1 q hq3]
      · exact ⟨rfl, _, ho, x, rfl, hE1, hG1.grow hef hz hq⟩
end Throwers
