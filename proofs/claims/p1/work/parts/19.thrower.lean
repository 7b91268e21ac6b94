/-! Methods that throw, and the law's helpers that catch it. -/
def q_b13 : ByteArray := prog_23_method_4_code
def q_own : List Cond := q_ownA "SkirtsByTheDay" 123 q_nse "java/lang/RuntimeException" ["java/lang/Exception"] 13 q_b13
theorem q_own_n : (((q_own.filter vx_no).filter (fun w => !goodWord w)).all (fun w => decide (w ∈ q_xw))) = true := by decide +kernel
set_option maxRecDepth 100000 in
theorem q_own_g : (((q_own.filter vx_no).filter goodWord).all (fun w => decide (w ∈ lw_tbl))) = true := by decide +kernel
theorem q_own_o : (Cond.classLink "SkirtsByTheDay" 119 q_nse :: Cond.initialized q_nse :: q_own.filter vx_no).all vx_ot = true := by decide +kernel
theorem q_own_k : Cond.classLink "SkirtsByTheDay" 119 q_nse ∈ tb := wAt_mem (i := 1209) (by decide +kernel)
theorem q_own_i : Cond.initialized q_nse ∈ tb := wAt_mem (i := 85) (by decide +kernel)
theorem q_own_c : Cond.classLink "SkirtsByTheDayLaw" 13 q_nse ∈ tb := wAt_mem (i := 1204) (by decide +kernel)
theorem q_hat {args : Array Value} {s : State} {Hb : Heap} (hts : ∀ w ∈ tb, w.before args s = true) (hX : q_KX Hb s) : ∀ w ∈ q_own.filter vx_no, w.before args s = true := fun w hw => by
  by_cases g : goodWord w = true
  · exact hts w (List.mem_filter.mpr ⟨of_decide_eq_true (List.all_eq_true.mp q_own_g w (List.mem_filter.mpr ⟨hw, g⟩)), g⟩)
  · have g2 : (!goodWord w) = true := by simpa using g
    have hx := of_decide_eq_true (List.all_eq_true.mp q_own_n w (List.mem_filter.mpr ⟨hw, g2⟩))
    exact va_Nw.use (q_xwT hx) (hX.1 w hx)
/-- a place that throws: new, dup, ldc or ldc_w, invokespecial, athrow -/
def q_TS (k pc : Nat) : Prop := ∃ (n is : Nat) (text : String), (is, text) ∈ q_xs ∧ decode (mC k) pc = .ok (.new 119, 3) ∧ decode (mC k) (pc + 3) = .ok (.dup, 1) ∧ ((decode (mC k) (pc + 4) = .ok (.ldc is, 2) ∧ n = 6) ∨ (decode (mC k) (pc + 4) = .ok (.ldc_w is, 3) ∧ n = 7)) ∧ decode (mC k) (pc + n) = .ok (.invokespecial 123, 3) ∧ decode (mC k) (pc + n + 3) = .ok (.athrow, 1)
def q_n99 (k pc : Nat) : Bool := match ins k pc with
  | some q => Nat.beq q.2.2.1 99 && (match q.1 with
    | .new _ => true
    | _ => false)
  | none => false
theorem q_ts0 : q_TS 117 11 := ⟨6, 121, "there is no such one of PEOPLE", by decide +kernel, by decide +kernel, by decide +kernel, Or.inl ⟨by decide +kernel, rfl⟩, by decide +kernel, by decide +kernel⟩
theorem q_ts1 : q_TS 117 106 := ⟨6, 142, "nothing such is told of PEOPLE", by decide +kernel, by decide +kernel, by decide +kernel, Or.inl ⟨by decide +kernel, rfl⟩, by decide +kernel, by decide +kernel⟩
theorem q_ts2 : q_TS 118 11 := ⟨6, 147, "there is no such CLOTH", by decide +kernel, by decide +kernel, by decide +kernel, Or.inl ⟨by decide +kernel, rfl⟩, by decide +kernel, by decide +kernel⟩
theorem q_ts3 : q_TS 118 104 := ⟨6, 164, "nothing such is told of CLOTHS", by decide +kernel, by decide +kernel, by decide +kernel, Or.inl ⟨by decide +kernel, rfl⟩, by decide +kernel, by decide +kernel⟩
theorem q_ts4 : q_TS 130 11 := ⟨7, 256, "there is no such piece in THE BOX", by decide +kernel, by decide +kernel, by decide +kernel, Or.inr ⟨by decide +kernel, rfl⟩, by decide +kernel, by decide +kernel⟩
theorem q_ts5 : q_TS 162 15 := ⟨7, 449, "the ROW has no such number", by decide +kernel, by decide +kernel, by decide +kernel, Or.inr ⟨by decide +kernel, rfl⟩, by decide +kernel, by decide +kernel⟩
set_option maxRecDepth 100000 in
theorem q_tc117 : ∀ pc, pc < mN 117 → q_n99 117 pc = true → pc = 11 ∨ pc = 106 := by decide +kernel
set_option maxRecDepth 100000 in
theorem q_tc118 : ∀ pc, pc < mN 118 → q_n99 118 pc = true → pc = 11 ∨ pc = 104 := by decide +kernel
set_option maxRecDepth 100000 in
theorem q_tc130 : ∀ pc, pc < mN 130 → q_n99 130 pc = true → pc = 11 := by decide +kernel
set_option maxRecDepth 100000 in
theorem q_tc162 : ∀ pc, pc < mN 162 → q_n99 162 pc = true → pc = 15 := by decide +kernel
theorem q_tsC {k pc : Nat} (hk : k = 117 ∨ k = 118 ∨ k = 130 ∨ k = 162) (hp : pc < mN k) (h : q_n99 k pc = true) : q_TS k pc := by
  rcases hk with rfl | rfl | rfl | rfl
  · rcases q_tc117 pc hp h with rfl | rfl
    · exact q_ts0
    · exact q_ts1
  · rcases q_tc118 pc hp h with rfl | rfl
    · exact q_ts2
    · exact q_ts3
  · have e := q_tc130 pc hp h
    subst e
    exact q_ts4
  · have e := q_tc162 pc hp h
    subst e
    exact q_ts5
def q_XC (dC : Nat → ClassId) (dI : Nat → Nat → Nat) (dA : FieldType → ClassId) (r : Nat → Int32) (b base : Nat) (Hb : Heap) (os : List pO) : String → State → State → Prop := fun Ee _ t =>
  Ee = q_nse ∧ ∃ o ∈ os, q_E r o.2.2.2.2.2.1 ∧ q_G dC dI dA r b base Hb (false, o.2.2.2.2.2.1.2) o.2.2.2.2.2.2 t.heap
section Throwers
variable {l : Launch} {dC : Nat → ClassId} {dI : Nat → Nat → Nat} {dA : FieldType → ClassId} {r : Nat → Int32} {b base L : Nat} {Hb : Heap} {k D mc ms n : Nat} {X : Nat → List pA → pE → pH → Option pZ} {as : List pA} {E : pE} {h : pH} {os : List pO}
theorem q_newE {pc : Nat} {lo : pL} {st : List pA} {E1 : pE} {h1 : pH} {ret0 : Option pA} (ht : p_step L k pc lo st E1 h1 = some (.inr (.inr (1, ret0)))) : q_n99 k pc = true ∧ pc < mN k := by
  unfold p_step at ht
  cases hi : ins k pc with
  | none => rw [hi] at ht; cases ht
  | some row =>
    rw [hi] at ht
    obtain ⟨i, nx, a1, a2, a3, z⟩ := row
    have hp := (q_ins hi).2
    cases i <;> dsimp only at ht
    case new x =>
      cases h99 : Nat.beq a1 99 with
      | true => exact ⟨by simp only [q_n99, hi, h99, Bool.and_self], hp⟩
      | false =>
        rw [h99] at ht
        cases hE9 : E1.1 with
        | true => rw [hE9] at ht; cases ht
        | false => rw [hE9] at ht; cases ht
    case ireturn =>
      split at ht
      · split at ht
        · cases ht
        · split at ht
          · simp only [cond_eq_ite] at ht
            split at ht <;> cases ht
          · cases ht
        · cases ht
      · cases ht
    case return_ =>
      split at ht
      · split at ht <;> cases ht
      · cases ht
    case invokestatic x =>
      simp only [cond_eq_ite, p_inv, p_copy, p_go] at ht
      repeat' (split at ht <;> try (cases ht; done))
    case invokevirtual x =>
      split at ht
      · simp only [cond_eq_ite] at ht
        split at ht <;> cases ht
      · cases ht
    case invokespecial x =>
      simp only [cond_eq_ite, p_go] at ht
      repeat' (split at ht <;> try (cases ht; done))
    all_goals (try simp only [p_go, p_br, p_gets, p_puts, p_op2, p_op1, p_dv, p_rld, p_rst] at ht)
    all_goals (first | (cases ht; done) | skip)
    all_goals (repeat' (split at ht <;> try (cases ht; done)))
    all_goals (first | (cases ht; done) | (simp only [cond_eq_ite] at ht; repeat' (split at ht <;> try (cases ht; done))) | skip)
theorem q_metX (hk : k = 117 ∨ k = 118 ∨ k = 130 ∨ k = 162) (hfl : l.stackTraces = false) (hbb : b < base) (hHb : Hb.size = base) (hX : ∀ c as E h mc ms os, X c as E h = some (mc, ms, os) → q_CallOK l dC dI dA r b base L Hb D c as E h mc ms os)
    (hr : p_run L X k 1000000 n (0, p_args 0 as, [], E, h) = some (mc, ms, os)) (hcat : p_cats as ≤ mL k) (hE : q_E r E) (hos : ∀ o ∈ os, o.1 = 1 ∧ p_cats o.2.2.2.2.1 ≤ 8) {vs : List Value} (hvs : q_L r b base as vs) :
    vx_Met l (mY k) (q_ws k) (q_rm (D + 1) mc ms) (q_Pc dC dI dA r b base L Hb E h vs) (fun _ _ _ _ => False) (q_XC dC dI dA r b base Hb os) mc ms (fun q => base ≤ q) := by
  have hk2 : k < 299 := by rcases hk with rfl | rfl | rfl | rfl <;> omega
  have hp : c_plain k = true := by rcases hk with rfl | rfl | rfl | rfl <;> rfl
  have hcl : (mY k).cls = "SkirtsByTheDay" := by rcases hk with rfl | rfl | rfl | rfl <;> rfl
  obtain ⟨w1, w2, w3, w4, w5, w6, w7⟩ := q_MW (q_meth hk2 hp)
  refine vx_ofW (cc := mC k) (maxL := mL k) (ret := mR k) w3 rfl ?_
  intro p e s m args below meth c s₁ B hml htab hv
  obtain ⟨rfl, hK, hG⟩ := hv
  have hts0 := atoms_spec (ws := q_ws k) B.pre
  have hts : ∀ w ∈ tb, w.before vs.toArray s = true := fun w hw => hts0 w (List.mem_cons_of_mem _ hw)
  have hown : s.vm.findClass (mY k).cls = some m.cls := findClass_of_methodNamed B.named
  have hlocks := B.notSynchronized
  have hnm : meth.name = (mY k).name := (name_of_methodNamed B.named B.method).1
  have C : q_Ctx p (headSpec (q_ws k) (q_rm (D + 1) mc ms)).room s m vs.toArray meth c dC dI dA r b base L Hb k := ⟨B.exec, B.bytes, hml, hown, hts, hK, fun q => hnm.trans q, hbb, by show 8 ≤ D + 1 + 8; omega, by show 400 ≤ 80 * (D + 1) + 400; omega, by omega⟩
  have hl := lv_entry vs (n := mL k) (by rw [q_slN, hvs.cats]; exact hcat)
  rw [lg_entry_eq]
  generalize (lg_sl vs ++ List.replicate (mL k - (lg_sl vs).length) Slot.unset).toArray = ls at hl ⊢
  have hlo : q_Lo r b base (p_args 0 as) ls (mL k) := ⟨hl.1, hl.2.1, fun q hq => by
    obtain ⟨v, g1, g2⟩ := q_argsL 0 hvs q hq
    exact ⟨v, hl.2.2 _ g1, g2⟩⟩
  refine q_run (stop := 1000000) C hX (by show D + 9 ≤ D + 1 + 8; omega) (by show 80 * D + 480 ≤ 80 * (D + 1) + 400; omega) n _ mc ms os hr ls [] s.heap [] 0 0 ⟨hlo, rfl, hE, hG, fun q hq => nomatch hq⟩ (by show 0 + mc ≤ mc; omega) (by show 0 + ms ≤ ms; omega) (fun o ho ht ls1 vs1 H1 locs1 cells1 slots1 F1 z1 z2 => ?_)
  obtain ⟨e0, ret0, pc, lo, st, E1, h1⟩ := o
  obtain ⟨he, he8⟩ := hos _ ho
  simp only at he he8
  subst he
  obtain ⟨hlo1, hst1, hE1, hG1, hlc1⟩ := F1
  have c1 : cells1 + 1 ≤ mc := by have z3 : cells1 + 1 ≤ 0 + mc := z1; omega
  have s1 : slots1 + 6 ≤ ms := by have z3 : slots1 + 6 ≤ 0 + ms := z2; omega
  rcases ht with ⟨ht, -⟩ | ht
  · cases ht
  · have ht : p_step L k pc lo st E1 h1 = some (.inr (.inr (1, ret0))) := ht
    obtain ⟨g1, g2⟩ := q_newE ht
    obtain ⟨n9, is, text, t1, t2, t3, t4, t5, t6⟩ := q_tsC hk g2 g1
    obtain ⟨sa, hsa⟩ := hK.2.2.2.2.2.1 _ t1
    have hq0 : ∀ q : Nat, q < Hb.size → ¬ Hb.size ≤ q → s.heap[q]? = Hb[q]? := fun q hq _ => hG.1 q (by rw [← hHb]; exact hq)
    have hst2 : (vs1.map fun v => v.category).sum ≤ 8 := by
      rw [show (vs1.map fun v => v.category).sum = p_cats st from hst1.cats]
      exact he8
    rw [hcl] at hown
    refine q_throw (own := "SkirtsByTheDay") (cls := q_nse) (Y0 := "java/lang/RuntimeException") (rr := ["java/lang/Exception"]) (ik := 119) (is := is) (ic := 123) (i1 := 13) (by1 := q_b13) (A := fun q => Hb.size ≤ q) C.1 C.2.1 hfl (by decide +kernel) (by decide +kernel) (by decide +kernel) (by decide +kernel) hown (by decide) (by decide) (by decide)
      (hts _ q_own_k) (hts _ q_own_i) hsa (q_hat hts hK.2.2.2.2) (List.all_eq_true.mp q_own_o) (hK.2.2.2.2.2.2.1.kept hq0) (hK.2.2.2.2.2.2.2.kept hq0) (fun q hq1 hq2 => ?_) (by rw [hml]; exact hlo1.1) t2 t3 t4 t5 t6 (fun x hx => (htab x hx).elim)
      (by show 1 + 4 < D + 1 + 8; omega) (by show _ + (13 * (1 + 2) + 43) ≤ 80 * (D + 1) + 400; omega) (by show cells1 + 1 ≤ mc; omega) (by show slots1 + 6 ≤ ms; omega) hlocks (fun t hA hz hq => ?_) hlc1 c1 s1
    · have hq3 : q < base := by rw [← hHb]; exact Nat.lt_of_not_le hq2
      rw [hG1.1 q hq3, hG.1 q hq3]
    · refine ⟨rfl, _, ho, hE1, fun q hq9 => ?_, Nat.le_trans hG1.2.1 hz, (fun hf => by cases hf), fun j c9 hj => ?_⟩
      · rw [hq q (Nat.lt_of_lt_of_le hq9 hG1.2.1)]
        exact hG1.1 q hq9
      · have hc9 := hG1.2.2.2 j c9 hj
        exact hc9.kept (hq _ hc9.lt)
end Throwers
