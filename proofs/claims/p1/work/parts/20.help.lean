/-! The law's helpers, and every call. -/
def q_hh (k : Nat) : List (Nat × Nat × Nat × Nat) := bif Nat.blt k 297 then [(0, 10, 13, 13)] else [(0, 9, 12, 13)]
def q_wsH (k : Nat) : List Cond := Cond.codeWith (mY k) (mC k) (mL k) (mR k) (q_hh k) :: tb
/-- a method with a table of its own that returns -/
theorem q_ofWH {l : Launch} {y : MethodName} {ws ws' : List Cond} {rm : Room} {Pc : Array Value → State → Prop} {Qc : Array Value → State → Outcome → State → Prop} {mc ms : Nat} {free : Addr → Prop} {cc : ByteArray} {maxL : Nat} {ret : Option FieldType} {hh : List (Nat × Nat × Nat × Nat)}
    (hy : plainName y.cls = true) (hw : ws = Cond.codeWith y cc maxL ret hh :: ws')
    (body : ∀ p e s m args below meth c s₁, BodyLoose p l y (headSpec ws rm) cc maxL ret e s m args below meth c s₁ → c.maxLocals = maxL → Pc args s →
      W p l e (headSpec ws rm).room s m args below meth c s.heap [] 0 0 (MQ below Qc args s mc ms free) (entryFrame m args maxL)) : Met l y ws rm Pc Qc mc ms free := by
  refine MetFree.of_bodyS (code := cc) (maxLocals := maxL) (ret := ret) hy ?_ ?_
  · intro args s m h hn
    obtain ⟨m9, meth, c, hn9, h1, h2, h3, h4, -, h5, h6, -⟩ := Cond.codeWith_spec (atoms_spec (ws := ws) h _ (by rw [hw]; exact List.mem_cons_self))
    cases hn.symm.trans hn9
    exact ⟨meth, c, h1, h2, h3, h4, h5, h6⟩
  · intro p e s m args below meth c s₁ B hml hP _
    have hh0 : s₁.heap = s.heap := by rw [B.state]; rfl
    obtain ⟨t, a1, o, b1, b2, b3⟩ := body p e s m args below meth c s₁ B hml hP s₁ hh0 (Stand.of_body B)
    exact ⟨t, o, a1, b1, b2, ⟨b3.1, b3.2⟩⟩
def c_H (k : Nat) : Bool := wAt (mW k).1 (.codeWith (mY k) (mC k) (mL k) (mR k) (q_hh k)) && wAt (mW k).2.1 (.initialized (mY k).cls) && plainName (mY k).cls && decide ((mY k).cls ≠ "java/lang/invoke/MethodHandle") && decide ((mY k).cls ≠ "java/lang/invoke/VarHandle") && decide ((parseMethodDescriptor (mY k).desc).map (fun d => d.parameters.length) = some (mP k)) && Nat.ble (mL k) 40 && decide (mR k = some .int) && decide ((mY k).cls = "SkirtsByTheDayLaw")
theorem c_H5 : c_H 295 = true := by decide +kernel
theorem c_H6 : c_H 296 = true := by decide +kernel
theorem c_H7 : c_H 297 = true := by decide +kernel
theorem c_H8 : c_H 298 = true := by decide +kernel
theorem q_goodH {k : Nat} (hc : Cond.codeWith (mY k) (mC k) (mL k) (mR k) (q_hh k) ∈ tb) : GoodIn tb (q_wsH k) := by
  intro w hw
  rcases List.mem_cons.mp hw with rfl | hw
  · exact ⟨hc, good_of_word (List.mem_filter.mp hc).2⟩
  · exact ⟨hw, good_of_word (List.mem_filter.mp hw).2⟩
theorem q_HW {k : Nat} (h : c_H k = true) : Cond.codeWith (mY k) (mC k) (mL k) (mR k) (q_hh k) ∈ tb ∧ Cond.initialized (mY k).cls ∈ tb ∧ plainName (mY k).cls = true ∧ (mY k).cls ≠ "java/lang/invoke/MethodHandle" ∧ (mY k).cls ≠ "java/lang/invoke/VarHandle" ∧ (parseMethodDescriptor (mY k).desc).map (fun d => d.parameters.length) = some (mP k) ∧ mL k ≤ 40 ∧ mR k = some .int ∧ (mY k).cls = "SkirtsByTheDayLaw" := by
  simp only [c_H, Bool.and_eq_true, decide_eq_true_eq] at h
  exact ⟨wAt_mem h.1.1.1.1.1.1.1.1, wAt_mem h.1.1.1.1.1.1.1.2, h.1.1.1.1.1.1.2, h.1.1.1.1.1.2, h.1.1.1.1.2, h.1.1.1.2, Nat.le_of_ble_eq_true h.1.1.2, h.1.2, h.2⟩
section Helpers
variable {l : Launch} {dC : Nat → ClassId} {dI : Nat → Nat → Nat} {dA : FieldType → ClassId} {r : Nat → Int32} {b base L : Nat} {Hb : Heap} {k kc D mc ms : Nat} {E : pE} {h : pH} {os : List pO}
/-- at the call within a helper: what it throws is caught, and 1 is answered -/
theorem q_hcall {p : Program} {e : Env} {R : Room} {s : State} {m : MethodId} {args : Array Value} {below : List Frame} {meth : Method} {c : Code} {pc hp nx a2 a3 x : Nat} {z : Int} {en : ExceptionTableEntry} {As rest : List Value} {q : Nat} {asc : List pA} {ls : Array Slot}
    (hx : p.tables.exec = Jvm.exec) (hb : c.code = mC k) (hml : c.maxLocals = mL k) (hown : s.vm.findClass (mY k).cls = some m.cls) (hts : ∀ w ∈ tb, w.before args s = true) (hK : q_K dC dI dA r b L Hb s) (hG : q_G dC dI dA r b base Hb E h s.heap)
    (hk : k < 299) (hkc : kc < 299) (hkcp : c_plain kc = true) (hcls : (mY k).cls = "SkirtsByTheDayLaw") (hret : meth.sig.returnType = some .int) (hlocks : meth.locks = false)
    (hi : ins k pc = some (.invokevirtual x, nx, kc, a2, a3, z)) (hrc : p_rcv kc (.inr (.inl (some (q + 1))) :: asc) h = true)
    (hM : vx_Met l (mY kc) (q_ws kc) (q_rm D mc ms) (q_Pc dC dI dA r b base L Hb E h (.ref (base + q) :: As)) (fun _ _ _ _ => False) (q_XC dC dI dA r b base Hb os) mc ms (fun q => base ≤ q))
    (hAs : As.length = mP kc) (hrest : (rest.map fun v => v.category).sum ≤ 8) (hls : ls.size = mL k) (htab : c.exceptionTable.toList = [en]) (hcov : covers en pc = true) (hct : en.catchType = 13) (hhp : en.handlerPc = hp)
    (hR : D + 9 ≤ R.frames) (hR2 : 80 * D + 480 ≤ R.locals) (hR3 : mc ≤ R.cells) (hR4 : ms ≤ R.slots)
    (hand : ∀ (q9 : Nat) (H1 : Heap) (locs1 : List Loc), (∀ z ∈ locs1, base ≤ z.base) → (∃ o ∈ os, q_E r o.2.2.2.2.2.1 ∧ q_G dC dI dA r b base Hb (false, o.2.2.2.2.2.1.2) o.2.2.2.2.2.2 H1) → W p l e R s m args below meth c H1 locs1 mc ms (MQ below (q_Qc dC dI dA r b base Hb (os.map p_hout)) args s mc ms (fun q => base ≤ q)) (F0 m hp ls [.ref q9])) :
    W p l e R s m args below meth c s.heap [] 0 0 (MQ below (q_Qc dC dI dA r b base Hb (os.map p_hout)) args s mc ms (fun q => base ≤ q)) (F0 m pc ls (As.reverse ++ .ref (base + q) :: rest)) := by
  obtain ⟨w1, w2, w3, w4, w5, w6, w7⟩ := q_MW (q_meth hkc hkcp)
  have hk9 : k < 300 := by omega
  obtain ⟨en1, hd⟩ := q_dec (n := 3) hk9 hi rfl
  have hc := (q_row hk9 hi).2.2.1
  simp only [c_I, nMth, q_bleF (show kc < 303 by omega), Bool.false_or, Bool.and_eq_true] at hc
  have hroom : (q_rm D mc ms).frames + 1 ≤ R.frames ∧ 8 + (mL kc + 11) + (q_rm D mc ms).locals ≤ R.locals := ⟨by rw [show (q_rm D mc ms).frames = D + 8 from rfl]; omega, q_key0 hR2 _ w7⟩
  unfold p_rcv at hrc
  simp only at hrc
  split at hrc
  · rename_i ci fs ho
    have eci := Nat.eq_of_beq_eq_true hrc
    have hq0 := hc.1.2
    unfold c_cls at hq0
    split at hq0
    · rename_i q0 hq1
      have hq2 := of_decide_eq_true hq0
      obtain ⟨-, us, w9, k1, k2, cell, k3, k4, k5, k6⟩ := q_obj hG ho
      rw [eci] at k2 k4
      cases Option.some.inj (hq1.symm.trans k2)
      have hcl9 : s.vm.findClass (mY kc).cls = some cell.cls := by rw [← hq2, k4]; exact (hK.1.1 _ _ hq1).2.1
      have hrun := vx_runV (p := p) (e := e) (R := R) (below := below) (meth := meth) (locs := []) (cells := 0) (slots := 0) (g := F0 m pc ls (As.reverse ++ .ref (base + q) :: rest)) (As := As) (rest := rest) (b := base + q) (C := (mY kc).cls) ⟨hx, hb, hml, hown, hts⟩ hM
        ⟨callB_of (R := R) (mP kc) hts (q_good w1) rfl rfl rfl (hts _ w2) (hts _ (wAt_mem hc.1.1.1.1.2)) ⟨w4, w5, w6⟩ hroom, hts _ (wAt_mem hc.1.1.1.2), hts _ (wAt_mem hc.1.1.2)⟩
        ⟨fun a U g mk q => ⟨q.1, q.2.1.calling, q.2.2⟩, ⟨cell, k3, by rw [k5]; rfl, hcl9⟩, fun U hU hW => ⟨rfl, hK.moved hW, by rw [hU]; exact hG⟩⟩ rfl hAs hls rfl (lv_room hrest) hd ⟨by rw [Nat.zero_add]; exact hR3, by rw [Nat.zero_add]; exact hR4⟩
      intro T hT X
      rcases hrun T hT X with ⟨v, st₀, t, T', L9, h0, X', hL9, e1, e2, hq, st⟩ | ⟨q9, st₀, t, T', L9, E9, ce, h0, X', hL9, e1, e2, hXC, hce, hcv, hcl, st⟩
      · exact hq.elim
      · obtain ⟨hE9, hos9⟩ := hXC
        subst hE9
        have hlink : (Cond.classLink (mY k).cls en.catchType q_nse).before args s = true := by rw [hct, hcls]; exact hts _ q_own_c
        have K : vx_W p l e R s m args below meth c T'.heap ([] ++ L9) (0 + mc) (0 + ms) (MQ below (q_Qc dC dI dA r b base Hb (os.map p_hout)) args s mc ms (fun q => base ≤ q)) (F0 m pc ls rest) q9 :=
          vx_catch (name := q_nse) hown [] en [] htab (fun z hz => nomatch hz) hcov (by rw [hct]; decide) hlink (va_Nw.use rfl (hK.2.2.2.2.1 _ (by simp [q_xw]))) (by rw [e1]; exact hce) hcv hcl (by
            rw [hhp, Nat.zero_add, Nat.zero_add, List.nil_append]
            exact hand q9 T'.heap L9 hL9 (by rw [e1]; exact hos9))
        obtain ⟨t2, a9, b9⟩ := K T' rfl X'
        exact ⟨t2, st.trans a9, b9⟩
    · cases hq0
  · cases hrc
/-- the end of a helper that caught: 1 -/
theorem q_hend {p : Program} {e : Env} {R : Room} {s : State} {m : MethodId} {args : Array Value} {below : List Frame} {meth : Method} {c : Code} {pc : Nat} {H1 : Heap} {locs1 : List Loc} {ls : Array Slot} (hx : p.tables.exec = Jvm.exec) (hb : c.code = mC k) (hret : meth.sig.returnType = some .int) (hlocks : meth.locks = false)
    (hos : ∀ o ∈ os, o.1 = 1) (hlc : ∀ z ∈ locs1, base ≤ z.base) (hq : ∃ o ∈ os, q_E r o.2.2.2.2.2.1 ∧ q_G dC dI dA r b base Hb (false, o.2.2.2.2.2.1.2) o.2.2.2.2.2.2 H1) (d1 : decode (mC k) pc = .ok (.iconst 1, 1)) (d2 : decode (mC k) (pc + 1) = .ok (.ireturn, 1)) :
    W p l e R s m args below meth c H1 locs1 mc ms (MQ below (q_Qc dC dI dA r b base Hb (os.map p_hout)) args s mc ms (fun q => base ≤ q)) (F0 m pc ls []) := by
  refine lv_iconst (v := 1) hx hb d1 rfl ?_
  refine W.iret hx hb hret (fun t ht hW => ?_) hlc d2
  obtain ⟨o, ho, h1, h2⟩ := hq
  refine ⟨p_hout o, List.mem_map.mpr ⟨o, ho, rfl⟩, ?_, ⟨_, rfl, ?_⟩, ?_, ?_⟩
  · obtain ⟨e0, ret0, pc0, lo0, st0, E0, h0⟩ := o
    rfl
  · obtain ⟨e0, ret0, pc0, lo0, st0, E0, h0⟩ := o
    have he := hos _ ho
    simp only at he
    subst he
    exact ⟨_, rfl, 1, rfl, rfl⟩
  · obtain ⟨e0, ret0, pc0, lo0, st0, E0, h0⟩ := o
    exact h1
  · obtain ⟨e0, ret0, pc0, lo0, st0, E0, h0⟩ := o
    have he := hos _ ho
    simp only at he
    subst he
    rw [ht]
    exact h2
end Helpers
