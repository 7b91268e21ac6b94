/-! A plain method's contract, and its calls. -/
def q_ws (k : Nat) : List Cond := Cond.code (mY k) (mC k) (mL k) (mR k) :: tb
def q_rm (D mc ms : Nat) : Room := { frames := D + 8, cells := mc, slots := ms, locals := 80 * D + 400 }
def q_Pc (dC : Nat → ClassId) (dI : Nat → Nat → Nat) (dA : FieldType → ClassId) (r : Nat → Int32) (b base L : Nat) (Hb : Heap) (E : pE) (h : pH) (vs : List Value) : Array Value → State → Prop := fun a U => a = vs.toArray ∧ q_K dC dI dA r b L Hb U ∧ q_G dC dI dA r b base Hb E h U.heap
def q_ret (r : Nat → Int32) (b base : Nat) : Option pA → Option Value → Prop
  | none, v => v = none
  | some a, v => ∃ w, v = some w ∧ q_A r b base a w
def q_Qc (dC : Nat → ClassId) (dI : Nat → Nat → Nat) (dA : FieldType → ClassId) (r : Nat → Int32) (b base : Nat) (Hb : Heap) (os : List pO) : Array Value → State → Outcome → State → Prop := fun _ _ oc t =>
  ∃ o ∈ os, o.1 = 0 ∧ (∃ v, oc = .returned v ∧ q_ret r b base o.2.1 v) ∧ q_E r o.2.2.2.2.2.1 ∧ q_G dC dI dA r b base Hb o.2.2.2.2.2.1 o.2.2.2.2.2.2 t.heap
theorem q_good {k : Nat} (hc : Cond.code (mY k) (mC k) (mL k) (mR k) ∈ tb) : GoodIn tb (q_ws k) := by
  intro w hw
  rcases List.mem_cons.mp hw with rfl | hw
  · exact ⟨hc, good_of_word (List.mem_filter.mp hc).2⟩
  · exact ⟨hw, good_of_word (List.mem_filter.mp hw).2⟩
theorem q_MW {k : Nat} (h : c_M k = true) : Cond.code (mY k) (mC k) (mL k) (mR k) ∈ tb ∧ Cond.initialized (mY k).cls ∈ tb ∧ plainName (mY k).cls = true ∧ (mY k).cls ≠ "java/lang/invoke/MethodHandle" ∧ (mY k).cls ≠ "java/lang/invoke/VarHandle" ∧ (parseMethodDescriptor (mY k).desc).map (fun d => d.parameters.length) = some (mP k) ∧ mL k ≤ 40 := by
  simp only [c_M, Bool.and_eq_true, decide_eq_true_eq] at h
  exact ⟨wAt_mem h.1.1.1.1.1.1, wAt_mem h.1.1.1.1.1.2, h.1.1.1.1.2, h.1.1.1.2, h.1.1.2, h.1.2, Nat.le_of_ble_eq_true h.2⟩
theorem q_argsL {r : Nat → Int32} {b base : Nat} : ∀ {as : List pA} {vs : List Value} (i : Nat), q_L r b base as vs → ∀ q ∈ p_args i as, ∃ v, (q.1, v) ∈ lv_args i vs ∧ q_A r b base q.2 v
  | [], _, _, _, q, hq => nomatch hq
  | a :: as, vs, i, h, q, hq => by
    obtain ⟨v, vs', rfl, hv, h'⟩ := h
    unfold p_args at hq
    unfold lv_args
    rcases List.mem_cons.mp hq with rfl | hq
    · exact ⟨v, List.mem_cons_self, hv⟩
    · obtain ⟨w, g1, g2⟩ := q_argsL (i + p_cat a) h' q hq
      rw [← q_cat hv] at g1
      have e : (if v.category = 2 then i + 2 else i + 1) = i + v.category := by
        rcases lv_cat v with h1 | h1 <;> rw [h1] <;> simp
      rw [e]
      exact ⟨w, List.mem_cons_of_mem _ g1, g2⟩
theorem q_slN : ∀ (vs : List Value), (lg_sl vs).length = (vs.map fun v => v.category).sum
  | [] => rfl
  | v :: vs => by
    have := q_slN vs
    simp only [List.map_cons, List.sum_cons, ← this]
    cases v <;> simp [lg_sl, Value.category] <;> omega
section Meths
variable {l : Launch} {dC : Nat → ClassId} {dI : Nat → Nat → Nat} {dA : FieldType → ClassId} {r : Nat → Int32} {b base L : Nat} {Hb : Heap} {k D mc ms n : Nat} {X : Nat → List pA → pE → pH → Option pZ} {as : List pA} {E : pE} {h : pH} {os : List pO}
theorem q_met (hk : k < 299) (hp : c_plain k = true) (hbb : b < base) (hX : ∀ c as E h mc ms os, X c as E h = some (mc, ms, os) → q_CallOK l dC dI dA r b base L Hb D c as E h mc ms os)
    (hr : p_run L X k 1000000 n (0, p_args 0 as, [], E, h) = some (mc, ms, os)) (hcat : p_cats as ≤ mL k) (hE : q_E r E) (hos : ∀ o ∈ os, o.1 = 0) {vs : List Value} (hvs : q_L r b base as vs) :
    Met l (mY k) (q_ws k) (q_rm (D + 1) mc ms) (q_Pc dC dI dA r b base L Hb E h vs) (q_Qc dC dI dA r b base Hb os) mc ms (fun q => base ≤ q) := by
  obtain ⟨w1, w2, w3, w4, w5, w6, w7⟩ := q_MW (q_meth hk hp)
  refine Met.ofW (cc := mC k) (maxL := mL k) (ret := mR k) w3 rfl ?_
  intro p e s m args below meth c s₁ B hml hv
  obtain ⟨rfl, hK, hG⟩ := hv
  have hts0 := atoms_spec (ws := q_ws k) B.pre
  have hts : ∀ w ∈ tb, w.before vs.toArray s = true := fun w hw => hts0 w (List.mem_cons_of_mem _ hw)
  have hown : s.vm.findClass (mY k).cls = some m.cls := findClass_of_methodNamed B.named
  have hlocks := B.notSynchronized
  have hnm : meth.name = (mY k).name := (name_of_methodNamed B.named B.method).1
  have hret := B.returns
  have C : q_Ctx p (headSpec (q_ws k) (q_rm (D + 1) mc ms)).room s m vs.toArray meth c dC dI dA r b base L Hb k := ⟨B.exec, B.bytes, hml, hown, hts, hK, fun q => hnm.trans q, hbb, by show 8 ≤ D + 1 + 8; omega, by show 400 ≤ 80 * (D + 1) + 400; omega, by omega⟩
  have hl := lv_entry vs (n := mL k) (by rw [q_slN, hvs.cats]; exact hcat)
  rw [lg_entry_eq]
  generalize (lg_sl vs ++ List.replicate (mL k - (lg_sl vs).length) Slot.unset).toArray = ls at hl ⊢
  have hlo : q_Lo r b base (p_args 0 as) ls (mL k) := ⟨hl.1, hl.2.1, fun q hq => by
    obtain ⟨v, g1, g2⟩ := q_argsL 0 hvs q hq
    exact ⟨v, hl.2.2 _ g1, g2⟩⟩
  refine q_run (stop := 1000000) C hX (by show D + 9 ≤ D + 1 + 8; omega) (by show 80 * D + 480 ≤ 80 * (D + 1) + 400; omega) n _ mc ms os hr ls [] s.heap [] 0 0 ⟨hlo, rfl, hE, hG, fun q hq => nomatch hq⟩ (by show 0 + mc ≤ mc; omega) (by show 0 + ms ≤ ms; omega) (fun o ho ht ls1 vs1 H1 locs1 cells1 slots1 F1 z1 z2 => ?_)
  obtain ⟨e0, ret0, pc, lo, st, E1, h1⟩ := o
  have he := hos _ ho
  simp only at he
  subst he
  obtain ⟨hlo1, hst1, hE1, hG1, hlc1⟩ := F1
  have c1 : cells1 ≤ mc := by have z3 : cells1 + 0 ≤ 0 + mc := z1; omega
  have s1 : slots1 ≤ ms := by have z3 : slots1 + 0 ≤ 0 + ms := z2; omega
  rcases ht with ⟨ht, -⟩ | ht
  · cases ht
  · have ht : p_step L k pc lo st E1 h1 = some (.inr (.inr (0, ret0))) := ht
    have hQ : ∀ (v : Option Value), q_ret r b base ret0 v → ∀ t : State, t.heap = H1 → s.WarmedH t.vm → q_Qc dC dI dA r b base Hb os vs.toArray s (.returned v) t := fun v hv t htH _ => ⟨_, ho, rfl, ⟨v, rfl, hv⟩, hE1, by rw [htH]; exact hG1⟩
    refine W.widen (k := mc) (n := ms) c1 s1 ?_
    unfold p_step at ht
    cases hi : ins k pc with
    | none => rw [hi] at ht; cases ht
    | some row =>
      rw [hi] at ht
      obtain ⟨i, nx, a1, a2, a3, z⟩ := row
      have hk9 : k < 300 := by omega
      cases i <;> dsimp only at ht
      case ireturn =>
        obtain ⟨en, hd⟩ := q_dec (n := 1) hk9 hi rfl
        split at ht
        · rename_i v
          obtain ⟨w, vs', rfl, ⟨y, rfl, hy⟩, hnil⟩ := hst1
          have hnil : vs' = [] := hnil
          subst hnil
          split at ht
          · rename_i hR
            cases ht
            exact W.iret C.1 C.2.1 (hret.trans hR) (hQ _ ⟨_, rfl, y, rfl, hy⟩) hlc1 hd
          · rename_i hR
            split at ht
            · rename_i zz
              simp only [cond_eq_ite, Bool.or_eq_true, decide_eq_true_eq] at ht
              split at ht
              · rename_i hz
                cases ht
                have ey : y = Int32.ofInt zz := hy
                refine W.zret (ty := .boolean) C.1 C.2.1 (hret.trans hR) ?_ (hQ _ ⟨_, rfl, y, rfl, hy⟩) hlc1 hd
                rcases hz with rfl | rfl
                · subst ey; rfl
                · subst ey; rfl
              · cases ht
            · cases ht
          · cases ht
        · cases ht
      case return_ =>
        obtain ⟨en, hd⟩ := q_dec (n := 1) hk9 hi rfl
        split at ht
        · have hnil : vs1 = [] := hst1
          subst hnil
          split at ht
          · rename_i hR
            cases ht
            exact W.vret C.1 C.2.1 (hret.trans hR) (hQ none rfl) hlc1 hd
          · cases ht
        · cases ht
      case new x =>
        simp only [cond_eq_ite] at ht
        split at ht
        · cases ht
        · split at ht <;> cases ht
      case invokestatic x =>
        simp only [cond_eq_ite, p_inv, p_copy, p_go] at ht
        repeat' (split at ht <;> try (cases ht; done))
      case invokevirtual x =>
        split at ht
        · simp only [cond_eq_ite] at ht
          split at ht <;> cases ht
        · cases ht
      case invokespecial x =>
        simp only [cond_eq_ite, p_go] at ht
        repeat' (split at ht <;> try (cases ht; done))
      all_goals (try simp only [p_go, p_br, p_gets, p_puts, p_op2, p_op1, p_dv, p_rld, p_rst] at ht)
      all_goals (first | (cases ht; done) | skip)
      all_goals (repeat' (split at ht <;> try (cases ht; done)))
      all_goals (first | (cases ht; done) | (simp only [cond_eq_ite] at ht; repeat' (split at ht <;> try (cases ht; done))) | skip)
end Meths
