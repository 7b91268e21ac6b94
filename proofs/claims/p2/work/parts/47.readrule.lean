/-! The rule is read: two copies into open rows. -/
def s_rmI (ids : List Nat) (h : sH) : sH := h.filter (fun q => !(ids.any (fun k => Nat.beq k q.1)))
/-- an open row of 40 ints, its one field's bounds -/
def s_r40 (E : sE) (h : sH) (q : Nat) : Option (sR × pI) := match s_orow h q with
  | none => none
  | some ro => match ro.2.2.1 with
    | [.inr (i, none)] => bif p_is ro.1 0 && (match s_lit E ro.2.1 with
      | none => false
      | some z => s_ie z 40) then some (ro, i) else none
    | _ => none
def s_cp5 (E : sE) (st : List sA) (q1 q0 : Nat) : Option (sF × List sA) := match st with
  | .inl n :: .inl d :: .inr (.inl (some a)) :: .inl sp :: .inr (.inl (some c)) :: r => bif Nat.beq a q1 && Nat.beq c q0 && s_eqF d (s_num 0) && s_eqF sp (s_num 0) && s_inI E n (0, 40) && Nat.ble (s_cats r) 8 then some (n, r) else none
  | _ => none
def s_rrE (n0 : Nat) (ends : List sN) (ch U : sH) (o : sO) : Bool := Nat.beq o.1 0 && !(o.2.2.2.2.2.1.1) && s_subI ch o.2.2.2.2.2.2 && s_subI (o.2.2.2.2.2.2 ++ U) ch && ends.any (s_okN n0 o.2.1 o.2.2.2.2.2.1 (o.2.2.2.2.2.2 ++ U))
def s_no (h : sH) (l : List Nat) : Bool := l.all (fun k => !(s_hasI h k))
def s_rr3 (X : sF → Nat → List sA → sE → sH → Option sZ) (dp : sF) (n0 : Nat) (ends : List sN) (ch U : sH) (S : sG) : Bool := match s_run X dp 50 (fun _ => false) 200 S with
  | some (c, s, os) => Nat.beq c 0 && Nat.beq s 0 && os.all (fun o => s_no o.2.2.2.2.2.2 [10, 11, 14, 15] && s_rrE n0 ends ch U o)
  | none => false
def s_rr2 (X : sF → Nat → List sA → sE → sH → Option sZ) (dp : sF) (n0 : Nat) (ends : List sN) (ch U : sH) (n : sF) (S : sG) : Bool := match s_run X dp 50 (s_stpP [62]) 200 S with
  | some (c, s, os) => Nat.beq c 0 && Nat.beq s 0 && os.all (fun o => Nat.beq o.1 2 && !(o.2.2.2.2.2.1.1) && Nat.beq o.2.2.1 62 && s_no o.2.2.2.2.2.2 [10, 11, 14, 15] && s_subI ch o.2.2.2.2.2.2 && (match s_cp5 o.2.2.2.2.2.1 o.2.2.2.2.1 11 15 with
    | none => false
    | some (n2, r) => s_eqF n2 n && s_rr3 X dp n0 ends ch U (65, o.2.2.2.1, r, o.2.2.2.2.2.1, o.2.2.2.2.2.2)))
  | none => false
def s_chkR (tab : Nat → List sK) (C : sK) : Bool := match C with
  | (dp, as, E, h, ends) => match s_r40 E h 10, s_r40 E h 11, s_r40 E h 14, s_r40 E h 15 with
    | some (r10, i10), some (r11, i11), some (r14, i14), some (r15, i15) => !E.1 && Nat.ble (s_cats as) (mL 50) && s_sbI i14 i10 && s_sbI i15 i11 && s_nil r10.2.2.2.1 && s_nil r10.2.2.2.2 && s_nil r11.2.2.2.1 && s_nil r11.2.2.2.2 && s_nil r14.2.2.2.1 && s_nil r14.2.2.2.2 && s_nil r15.2.2.2.1 && s_nil r15.2.2.2.2 && (match s_run (s_X tab 8) dp 50 (s_stpP [45]) 200 (0, s_args 0 as, [], E, s_rmI [10, 11] h) with
      | some (c, s, os) => Nat.beq c 0 && Nat.beq s 0 && os.all (fun o => s_no o.2.2.2.2.2.2 [10, 11] && (bif Nat.beq o.1 2 then Nat.beq o.2.2.1 45 && !(o.2.2.2.2.2.1.1) && s_subI h o.2.2.2.2.2.2 && (match s_cp5 o.2.2.2.2.2.1 o.2.2.2.2.1 10 14, s_r40 o.2.2.2.2.2.1 o.2.2.2.2.2.2 14, s_r40 o.2.2.2.2.2.1 o.2.2.2.2.2.2 15 with
        | some (n, r), some (_, j14), some (_, j15) => s_sbI j14 i14 && s_sbI j15 i15 && s_rr2 (s_X tab 8) dp E.2.1.length ends h [(10, .inl r10), (11, .inl r11), (14, .inl r14), (15, .inl r15)] n (48, o.2.2.2.1, r, o.2.2.2.2.2.1, s_rmI [14, 15] o.2.2.2.2.2.2)
        | _, _, _ => false) else s_rrE E.2.1.length ends h [(10, .inl r10), (11, .inl r11)] o))
      | none => false)
    | _, _, _, _ => false
theorem o_rr : s_chkR tab k_42 = true := by decide +kernel
