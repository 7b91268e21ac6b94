/-! Bodies with loops: states at the loops' heads, with measures. -/
noncomputable abbrev sCut : Type := sG × List sF
noncomputable def s_stp (cuts : List sCut) (f : sG) : Bool := cuts.any (fun q => Nat.beq q.1.1 f.1)
/-- the first names stay -/
noncomputable def s_b0 (n0 n : Nat) : sB := (List.range n0).map (fun k => some (s_nm k)) ++ List.replicate (n - n0) none
noncomputable def s_idn (n0 : Nat) : Nat → List sF → Bool
  | 0, _ => true
  | n + 1, f :: r => s_eqF f (s_nm (n0 - (n + 1))) && s_idn n0 n r
  | _ + 1, [] => false
/-- is a state one of a head's, in other words -/
noncomputable def s_toT (n0 : Nat) (T S : sG) : Option (List sF) := match T, S with
  | (pc, lo, st, tE, th), (pc2, lo2, st2, E, h) => bif Nat.beq pc pc2 then
    (match s_allB (s_bH h (s_bLs (s_bLs (s_b0 n0 tE.2.1.length) (lo.map (fun q => q.2)) (lo.map (fun q => (s_lget lo2 q.1).getD (.inr (.inr (.inr ())))))) st st2) th) with
    | none => none
    | some b => bif !E.1 && s_idn n0 n0 b && s_cLo E b lo2 lo && s_cL E b st st2 && s_cE E b tE && s_cH E b h th && s_subI th h then some b else none) else none
/-- what is less from the left -/
noncomputable def s_lex (E : sE) : List sF → List sF → Bool
  | a :: r, b :: s => s_ge2 E (s_sub a b) 1 || (s_eqv E b a && s_lex E r s)
  | _, _ => false
noncomputable def s_sbM (th : List sF) : List sF → Option (List sF)
  | [] => some []
  | f :: r => match s_sbF th f with
    | none => none
    | some g => match s_sbM th r with
      | none => none
      | some l => some (g :: l)
noncomputable def s_okT (n0 : Nat) (ms : Option (List sF)) (S : sG) (q : sCut) : Bool := match s_toT n0 q.1 S with
  | none => false
  | some th => match ms with
    | none => true
    | some a => match s_sbM th q.2 with
      | none => false
      | some b => s_lex S.2.2.2.1 a b
noncomputable def s_okN (n0 : Nat) (ret : Option sA) (E : sE) (h : sH) (n : sN) : Bool := match n with
  | (r2, nE, nh) => match s_allB (s_bH h (match r2, ret with
      | some a, some b => s_bA (s_b0 n0 nE.2.1.length) a b
      | _, _ => s_b0 n0 nE.2.1.length) nh) with
    | none => false
    | some b => !E.1 && s_idn n0 n0 b && (match r2, ret with
      | some a, some c => s_cA E b a c
      | none, none => true
      | _, _ => false) && s_cE E b nE && s_cH E b h nh && s_subI nh h
/-- an end of a run is a head's or one of the contract's -/
noncomputable def s_okO (n0 : Nat) (cuts : List sCut) (ms : Option (List sF)) (ends : List sN) (o : sO) : Bool := bif Nat.beq o.1 2 then cuts.any (s_okT n0 ms o.2.2) else Nat.beq o.1 0 && ends.any (s_okN n0 o.2.1 o.2.2.2.2.2.1 o.2.2.2.2.2.2)
noncomputable def s_okZ (n0 : Nat) (cuts : List sCut) (ms : Option (List sF)) (ends : List sN) (z : Option sZ) : Bool := match z with
  | none => false
  | some (c, s, os) => Nat.beq c 0 && Nat.beq s 0 && os.all (s_okO n0 cuts ms ends)
/-- a measure's parts lie between -2^40 and 2^40 -/
noncomputable def s_mB (E : sE) : List sF → Bool
  | [] => true
  | f :: r => s_inI E f (-1099511627776, 1099511627776) && s_mB E r
noncomputable def s_chk0 (tab : Nat → List sK) (k : Nat) (C : sK) (cuts : List sCut) (n : Nat) : Bool := match C with
  | (dp, as, E, h, ends) => Nat.blt k 302 && c_plain k && Nat.ble (s_cats as) (mL k) && s_okZ E.2.1.length cuts none ends (s_run (s_X tab 8) dp k (s_stp cuts) n (0, s_args 0 as, [], E, h))
noncomputable def s_chk1 (tab : Nat → List sK) (k : Nat) (C : sK) (cuts : List sCut) (n L : Nat) (q : sCut) : Bool := match C with
  | (dp, _, E, _, ends) => Nat.beq q.2.length L && s_mB q.1.2.2.2.1 q.2 && (match s_step k q.1.1 q.1.2.1 q.1.2.2.1 q.1.2.2.2.1 q.1.2.2.2.2 with
    | some (.inl l) => s_okZ E.2.1.length cuts (some q.2) ends (s_all (s_run (s_X tab 8) dp k (s_stp cuts) n) l)
    | _ => false)
