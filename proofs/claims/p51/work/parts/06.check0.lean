/-! The tables are what the class files say: each row is what its bytes decode to, each pool number what the tables' words say. -/
noncomputable def wAt (i : Nat) (w : Cond) : Bool := decide (lw_g i = some w) && goodWord w
/-- the words that every method is given -/
noncomputable def tb : List Cond := lw_tbl.filter goodWord
theorem wAt_mem {i : Nat} {w : Cond} (h : wAt i w = true) : w ∈ tb := by
  simp only [wAt, Bool.and_eq_true, decide_eq_true_eq] at h
  exact List.mem_filter.mpr ⟨lw_gm _ _ h.1, h.2⟩
/-- the words of calls of a nest mate's constructor, which are kept apart -/
noncomputable def nw : List Cond := lw_tbl.filter (fun w => match w with
  | .methodLinkNest _ _ _ _ => true
  | _ => false)
noncomputable def nAt (i : Nat) (a : String) (x : Nat) (y : MethodName) (h : String) : Bool := decide (lw_g i = some (.methodLinkNest a x y h))
theorem nAt_mem {i : Nat} {a : String} {x : Nat} {y : MethodName} {h : String} (e : nAt i a x y h = true) : Cond.methodLinkNest a x y h ∈ nw := by
  simp only [nAt, decide_eq_true_eq] at e
  exact List.mem_filter.mpr ⟨lw_gm _ _ e, rfl⟩
noncomputable abbrev mY (k : Nat) : MethodName := (mth k).1
noncomputable abbrev mC (k : Nat) : ByteArray := (mth k).2.1
noncomputable abbrev mN (k : Nat) : Nat := (mth k).2.2.1
noncomputable abbrev mL (k : Nat) : Nat := (mth k).2.2.2.1
noncomputable abbrev mR (k : Nat) : Option FieldType := (mth k).2.2.2.2.1
noncomputable abbrev mP (k : Nat) : Nat := (mth k).2.2.2.2.2.1
noncomputable abbrev mW (k : Nat) : Nat × Nat × Nat × Nat := (mth k).2.2.2.2.2.2
/-- methods that are called as others are: not the law, nor its helpers -/
noncomputable def c_plain (k : Nat) : Bool := !(Nat.beq k 302) && (match p_hlp k with | none => true | some _ => false)
noncomputable def c_M (k : Nat) : Bool := wAt (mW k).1 (.code (mY k) (mC k) (mL k) (mR k)) && wAt (mW k).2.1 (.initialized (mY k).cls) && plainFor (mY k) && decide ((mY k).cls ≠ "java/lang/invoke/MethodHandle") && decide ((mY k).cls ≠ "java/lang/invoke/VarHandle") && decide ((parseMethodDescriptor (mY k).desc).map (fun d => d.parameters.length) = some (mP k)) && Nat.ble (mL k) 40
noncomputable def c_fld (k x a1 a2 a3 : Nat) : Bool := match vwCl[a1]? with
  | some q => Nat.blt a2 q.2.2 && wAt a3 (.fieldLink (mY k).cls x q.1 (q.2.1 a2).2.1 (q.2.1 a2).2.2.1) && decide ((q.2.1 a2).1 = q.1)
  | none => false
noncomputable def c_fin (k a1 a2 : Nat) : Bool := match vwCl[a1]? with
  | some q => !(q.2.1 a2).2.2.2 || (decide ((mY k).name = "<init>") && decide ((q.2.1 a2).1 = (mY k).cls))
  | none => false
noncomputable def c_new (k x a1 a3 : Nat) : Bool := Nat.beq a1 99 || (match vwCl[a1]? with
  | some q => wAt a3 (.classLink (mY k).cls x q.1)
  | none => false)
noncomputable def c_cls (k : Nat) : Bool := match vwCl[mcl k]? with
  | some q => decide (q.1 = (mY k).cls)
  | none => false
noncomputable def c_I (k pc : Nat) : pR → Bool
  | (i, nx, a1, a2, a3, z) => match i with
    | .ldc x => !(Nat.beq a1 0) || wAt a3 (.constant (mY k).cls x (Int32.ofInt z))
    | .ldc_w x => !(Nat.beq a1 0) || wAt a3 (.constant (mY k).cls x (Int32.ofInt z))
    | .ldc2_w x => !(Nat.beq a1 0) || wAt a3 (.constantLong (mY k).cls x (Int64.ofInt z))
    | .ifCond _ o => decide ((pc : Int) + o = (a1 : Int)) && Nat.beq nx (pc + 3)
    | .if_icmp _ o => decide ((pc : Int) + o = (a1 : Int)) && Nat.beq nx (pc + 3)
    | .goto o => decide ((pc : Int) + o = (a1 : Int)) && Nat.beq nx (pc + 3)
    | .tableswitch d _ _ os => decide (0 ≤ (pc : Int) + d) && os.toList.all (fun o => decide (0 ≤ (pc : Int) + o))
    | .getfield x => c_fld k x a1 a2 a3
    | .putfield x => c_fld k x a1 a2 a3 && c_fin k a1 a2
    | .new x => c_new k x a1 a3
    | .multianewarray x d => wAt a3 (.classLink (mY k).cls x "[[I") && Nat.beq d 2
    | .invokestatic x => bif Nat.beq a1 901 then wAt a3 (.methodLink (mY k).cls x arraycopyName) else
        Nat.ble nMth a1 || (wAt a3 (.methodLink (mY k).cls x (mY a1)) && wAt (mW a1).2.2.1 (.static (mY a1)) && Nat.beq a2 (mP a1))
    | .invokevirtual x => Nat.ble nMth a1 || (c_plain a1 && wAt a3 (.methodLink (mY k).cls x (mY a1)) && wAt (mW a1).2.2.1 (.instanceMethod (mY a1)) && wAt (mW a1).2.2.2 (.selects (mY a1).cls (mY a1) (mY a1)) && c_cls a1 && Nat.beq a2 (mP a1))
    | .invokespecial x => bif Nat.beq a1 900 then wAt a3 (.methodLink (mY k).cls x objectInit) else
        Nat.ble nMth a1 || (c_plain a1 && (bif decide (z = 1) then nAt a3 (mY k).cls x (mY a1) "SkirtsByTheDay" else wAt a3 (.methodLink (mY k).cls x (mY a1))) && wAt (mW a1).2.2.1 (.instanceMethod (mY a1)) && decide ((mY a1).name = "<init>") && decide (mR a1 = none) && Nat.beq a2 (mP a1))
    | _ => true
noncomputable def c_row (k pc : Nat) : Bool := match ins k pc with
  | none => true
  | some q => Nat.blt pc q.2.1 && decide (decode (mC k) pc = .ok (q.1, q.2.1 - pc)) && c_I k pc q
noncomputable def c_meth (k : Nat) : Bool := (!(c_plain k) || c_M k) && (List.range (mN k)).all (c_row k)
