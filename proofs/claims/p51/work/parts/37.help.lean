/-! The law's helpers: what their one call throws is caught. -/
noncomputable def q_hh (k : Nat) : List (Nat × Nat × Nat × Nat) := bif Nat.blt k 300 then [(0, 10, 13, 13)] else [(0, 9, 12, 13)]
noncomputable def q_wsH (k : Nat) : List Cond := Cond.codeWith (mY k) (mC k) (mL k) (mR k) (q_hh k) :: tb
/-- a method with a table of its own that returns -/
theorem q_ofWH {l : Launch} {y : MethodName} {ws ws' : List Cond} {rm : Room} {Pc : Array Value → State → Prop} {Qc : Array Value → State → Outcome → State → Prop} {mc ms : Nat} {free : Addr → Prop} {cc : ByteArray} {maxL : Nat} {ret : Option FieldType} {hh : List (Nat × Nat × Nat × Nat)}
    (hy : plainName y.cls = true) (hw : ws = Cond.codeWith y cc maxL ret hh :: ws')
    (body : ∀ p e s m args below meth c s₁, BodyLoose p l y (headSpec ws rm) cc maxL ret e s m args below meth c s₁ → c.maxLocals = maxL → Pc args s →
      W p l e (headSpec ws rm).room s m args below meth c s.heap [] 0 0 (MQ below Qc args s mc ms free) (entryFrame m args maxL)) : Met l y ws rm Pc Qc mc ms free := by
  refine MetFree.of_bodyS (code := cc) (maxLocals := maxL) (ret := ret) hy ?_ ?_
  · intro args s m h hn
    obtain ⟨m9, meth, c, hn9, h1, h2, h3, h4, -, h5, h6, -⟩ := Cond.codeWith_spec (atoms_spec (ws := ws) h _ (by rw [hw]; exact List.mem_cons_self))
    cases hn.symm.trans hn9
    exact ⟨meth, c, h1, h2, h3, h4, h5, h6⟩
  · intro p e s m args below meth c s₁ B hml hP _
    have hh0 : s₁.heap = s.heap := by rw [B.state]; rfl
    obtain ⟨t, a1, o, b1, b2, b3⟩ := body p e s m args below meth c s₁ B hml hP s₁ hh0 (Stand.of_body B)
    exact ⟨t, o, a1, b1, b2, ⟨b3.1, b3.2⟩⟩
noncomputable def c_H (k : Nat) : Bool := wAt (mW k).1 (.codeWith (mY k) (mC k) (mL k) (mR k) (q_hh k)) && wAt (mW k).2.1 (.initialized (mY k).cls) && plainName (mY k).cls && decide ((mY k).cls ≠ "java/lang/invoke/MethodHandle") && decide ((mY k).cls ≠ "java/lang/invoke/VarHandle") && decide ((parseMethodDescriptor (mY k).desc).map (fun d => d.parameters.length) = some (mP k)) && Nat.ble (mL k) 40 && decide (mR k = some .int) && decide ((mY k).cls = "SkirtsByTheDayLaw")
theorem c_H5 : c_H 298 = true := by decide +kernel
theorem c_H6 : c_H 299 = true := by decide +kernel
theorem c_H7 : c_H 300 = true := by decide +kernel
theorem c_H8 : c_H 301 = true := by decide +kernel
theorem q_goodH {k : Nat} (hc : Cond.codeWith (mY k) (mC k) (mL k) (mR k) (q_hh k) ∈ tb) : GoodIn tb (q_wsH k) := by
  intro w hw
  rcases List.mem_cons.mp hw with rfl | hw
  · exact ⟨hc, good_of_word (List.mem_filter.mp hc).2⟩
  · exact ⟨hw, good_of_word (List.mem_filter.mp hw).2⟩
theorem q_HW {k : Nat} (h : c_H k = true) : Cond.codeWith (mY k) (mC k) (mL k) (mR k) (q_hh k) ∈ tb ∧ Cond.initialized (mY k).cls ∈ tb ∧ plainName (mY k).cls = true ∧ (mY k).cls ≠ "java/lang/invoke/MethodHandle" ∧ (mY k).cls ≠ "java/lang/invoke/VarHandle" ∧ (parseMethodDescriptor (mY k).desc).map (fun d => d.parameters.length) = some (mP k) ∧ mL k ≤ 40 ∧ mR k = some .int ∧ (mY k).cls = "SkirtsByTheDayLaw" := by
  simp only [c_H, Bool.and_eq_true, decide_eq_true_eq] at h
  exact ⟨wAt_mem h.1.1.1.1.1.1.1.1, wAt_mem h.1.1.1.1.1.1.1.2, h.1.1.1.1.1.1.2, h.1.1.1.1.1.2, h.1.1.1.1.2, h.1.1.1.2, Nat.le_of_ble_eq_true h.1.1.2, h.1.2, h.2⟩
/-- where the call stands, where what it throws is caught -/
noncomputable def s_hpc (c : Nat) : Nat × Nat := bif Nat.blt c 300 then (5, 13) else (4, 12)
/-- behind the call -/
noncomputable def s_hout (X : sF → Nat → List sA → sE → sH → Option sZ) (dp : sF) (c nx : Nat) (lo : sL) (rs : List sA) (o : sO) : Option (List sO) := match o with
  | (0, some a, (_, _, _, E, h)) => (match s_run X dp c (fun _ => false) 20 (nx, lo, a :: rs, E, h) with
    | some (c, s, os) => bif Nat.beq c 0 && Nat.beq s 0 && os.all (fun o => Nat.beq o.1 0) then some os else none
    | none => none)
  | (1, _, (_, _, _, E, h)) => some [(0, some (.inl (s_num 1)), (0, [], [], E, h))]
  | _ => none
noncomputable def s_houts (X : sF → Nat → List sA → sE → sH → Option sZ) (dp : sF) (c nx : Nat) (lo : sL) (rs : List sA) : List sO → Option (List sO)
  | [] => some []
  | o :: r => match s_hout X dp c nx lo rs o with
    | none => none
    | some a => match s_houts X dp c nx lo rs r with
      | none => none
      | some b => some (a ++ b)
noncomputable def s_hrun (X : sF → Nat → List sA → sE → sH → Option sZ) (dp : sF) (c kc : Nat) (as : List sA) (E : sE) (h : sH) : Option sZ := match s_run X (s_sub dp (s_num 1)) c (fun f => Nat.beq f.1 (s_hpc c).1) 20 (0, s_args 0 as, [], E, h) with
  | some (c0, s0, [(e2, _, (pc, lo, st, E1, h1))]) => bif Nat.beq c0 0 && Nat.beq s0 0 && Nat.beq e2 2 && Nat.beq pc (s_hpc c).1 && s_gez E dp 2 then (match ins c pc with
    | some (.invokevirtual _, nx, k2, a2, _, _) => bif Nat.beq k2 kc then (match s_take (a2 + 1) [] st with
      | some (as2, rs) => bif Nat.ble (s_cats rs) 8 && s_rcv kc as2 h1 && Nat.ble (s_cats as2) (mL kc) then (match s_run X (s_sub dp (s_num 2)) kc (fun _ => false) 4000 (0, s_args 0 as2, [], E1, h1) with
        | some (mc, ms, os) => bif os.all (fun o => (Nat.beq o.1 0 || (Nat.beq o.1 1 && Nat.ble (s_cats o.2.2.2.2.1) 8)) && !(o.2.2.2.2.2.1.1) && s_pre h1 o.2.2.2.2.2.2) && s_pre h h1 then (match s_houts X (s_sub dp (s_num 1)) c nx lo rs os with
          | some os2 => bif os2.all (fun o => s_pre h o.2.2.2.2.2.2) then some (mc, ms, os2) else none
          | none => none) else none
        | none => none) else none
      | none => none) else none
    | _ => none) else none
  | _ => none
