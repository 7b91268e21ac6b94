/-! A call by a contract. -/
/-- a contract: how deep, arguments, what is known, cells; its ends -/
noncomputable abbrev sN : Type := Option sA × sE × sH
noncomputable abbrev sK : Type := sF × List sA × sE × sH × List sN
/-- names are bound where they stand alone (what comes out is checked, not trusted) -/
noncomputable abbrev sB : Type := List (Option sF)
noncomputable def s_dvT (c : Int) : sT → Option sT
  | [] => some []
  | q :: r => bif s_ie (q.2 % c) 0 then (match s_dvT c r with
    | none => none
    | some t => some ((q.1, q.2 / c) :: t)) else none
noncomputable def s_cof (c : Int) : sT → sF
  | [] => s_num 0
  | q :: r => bif s_ie q.2 c then s_nm q.1 else s_cof c r
noncomputable def s_bM (b : sB) (s : sT) : sT → sB
  | [] => b
  | q :: r => s_bM (match b[q.1]? with
    | some none => b.set q.1 (some (s_cof q.2 s))
    | _ => b) s r
noncomputable def s_bF (b : sB) (t s : sF) : sB := match t.1 with
  | [(k, c)] => (match b[k]? with
    | some none => (match s_sub s (s_num t.2) with
      | (u, z) => bif s_ie c 1 then b.set k (some (u, z)) else bif s_ie (z % c) 0 then (match s_dvT c u with
        | none => b
        | some u2 => b.set k (some (u2, z / c))) else b)
    | _ => b)
  | [] => b
  | t => s_bM b s.1 t
noncomputable def s_bA (b : sB) (t s : sA) : sB := match t, s with
  | .inl f, .inl g => s_bF b f g
  | _, _ => b
noncomputable def s_bLs (b : sB) : List sA → List sA → sB
  | t :: r, s :: q => s_bLs (s_bA b t s) r q
  | _, _ => b
noncomputable def s_bW (b : sB) (t s : sW) : sB := match t, s with
  | .inl f, .inl g => s_bF b f g
  | .inr (_, some u), .inr (_, some w) => s_bF b u w
  | _, _ => b
noncomputable def s_bWs (ts ss : List sW) : Nat → Nat → sB → sB
  | 0, _, b => b
  | n + 1, j, b => s_bWs ts ss n (j + 1) (match ts[j % ts.length]?, ss[j % ss.length]? with
    | some t, some s => s_bW b t s
    | _, _ => b)
noncomputable def s_bC (b : sB) (t s : sC) : sB := match t, s with
  | .inl r, .inl q => s_bWs r.2.2.1 q.2.2.1 (max r.2.2.1.length q.2.2.1.length) 0 (s_bF b r.2.1 q.2.1)
  | .inr (.inr (.inr o)), .inr (.inr (.inr o2)) => s_bLs b o.2 o2.2
  | _, _ => b
noncomputable def s_bH (S : sH) (b : sB) : sH → sB
  | [] => b
  | q :: r => s_bH S (match s_hget S q.1 with
    | none => b
    | some c => s_bC b q.2 c) r
noncomputable def s_allB : sB → Option (List sF)
  | [] => some []
  | none :: _ => none
  | some f :: r => match s_allB r with
    | none => none
    | some l => some (f :: l)
/-- in the caller's words -/
noncomputable def s_sbA (th : List sF) (a : sA) : Option sA := match a with
  | .inl f => (match s_sbF th f with
    | none => none
    | some g => some (.inl g))
  | a => some a
noncomputable def s_sbL (th : List sF) : List sA → Option (List sA)
  | [] => some []
  | a :: r => match s_sbA th a with
    | none => none
    | some b => match s_sbL th r with
      | none => none
      | some l => some (b :: l)
noncomputable def s_sbW (th : List sF) (w : sW) : Option sW := match w with
  | .inl f => (match s_sbF th f with
    | none => none
    | some g => some (.inl g))
  | .inr (i, none) => some (.inr (i, none))
  | .inr (i, some u) => (match s_sbF th u with
    | none => none
    | some g => some (.inr (i, some g)))
noncomputable def s_sbWs (th : List sF) : List sW → Option (List sW)
  | [] => some []
  | a :: r => match s_sbW th a with
    | none => none
    | some b => match s_sbWs th r with
      | none => none
      | some l => some (b :: l)
noncomputable def s_sbFa (th : List sF) : List (sF × pI) → Option (List (sF × pI))
  | [] => some []
  | a :: r => match s_sbF th a.1 with
    | none => none
    | some b => match s_sbFa th r with
      | none => none
      | some l => some ((b, a.2) :: l)
noncomputable def s_sbC (th : List sF) (c : sC) : Option sC := match c with
  | .inl (ty, len, fs, _, fa) => (match s_sbF th len with
    | none => none
    | some len2 => bif s_bq (s_nil len.1) (s_nil len2.1) then (match s_sbWs th fs with
      | none => none
      | some fs2 => match s_sbFa th fa with
        | none => none
        | some fa2 => some (.inl (ty, len2, fs2, [], fa2))) else none)
  | .inr (.inr (.inr (ci, fs))) => (match s_sbL th fs with
    | none => none
    | some fs2 => some (.inr (.inr (.inr (ci, fs2)))))
  | c => some c
/-- the caller's cells behind the call -/
noncomputable def s_sbH (th : List sF) (o : sH) : sH → Option sH
  | [] => some []
  | q :: r => match s_sbH th o r with
    | none => none
    | some l => match s_hget o q.1 with
      | none => some (q :: l)
      | some c => match s_sbC th c with
        | none => none
        | some c2 => some ((q.1, c2) :: l)
/-- what the end says of the names that were -/
noncomputable def s_eB (E : sE) : List sF → List pI → List pI → sE
  | f :: r, i :: s, j :: q => s_eB (bif s_ie i.1 j.1 && s_ie i.2 j.2 then E else s_ge (s_ge E (s_sub f (s_num j.1))) (s_sub (s_num j.2) f)) r s q
  | _, _, _ => E
/-- may the names that were be so -/
noncomputable def s_feB (E : sE) : List sF → List pI → Bool
  | f :: r, j :: q => (match s_bnd E f with
    | none => true
    | some i => s_le j.1 i.2 && s_le i.1 j.2) && s_feB E r q
  | _, _ => true
noncomputable def s_eC (th : List sF) : List (sT × Int) → sE → Option sE
  | [], E => some E
  | q :: r, E => match s_sbF th (q.1, -q.2) with
    | none => none
    | some f => s_eC th r (s_ge E f)
noncomputable def s_eN (th : List sF) : List sF → sE → Option sE
  | [], E => some E
  | f :: r, E => match s_sbF th f with
    | none => none
    | some g => s_eN th r (s_ne E g)
noncomputable def s_ex (E : sE) (l : List pI) : sE := (E.1, E.2.1 ++ l, E.2.2.1, E.2.2.2)
noncomputable def s_th2 (th : List sF) (N m : Nat) : List sF := th ++ (List.range m).map (fun j => s_nm (N + j))
noncomputable def s_good : List pI → Bool
  | [] => true
  | i :: r => s_le i.1 i.2 && s_good r
noncomputable def s_subI (h : sH) : sH → Bool
  | [] => true
  | q :: r => (match s_hget h q.1 with
    | none => false
    | some _ => true) && s_subI h r
noncomputable def s_hasI (h : sH) (k : Nat) : Bool := match s_hget h k with
  | none => false
  | some _ => true
/-- who names one of a pair names both -/
noncomputable def s_prs (h : sH) : Bool := s_bq (s_hasI h 10) (s_hasI h 11) && s_bq (s_hasI h 14) (s_hasI h 15)
/-- an end, in the caller's words; none: can't be told; some none: can't be -/
noncomputable def s_end (E : sE) (h : sH) (th : List sF) (B0 : List pI) (n : sN) : Option (Option sO) := match n with
  | (ret, Eo, ho) => match s_eC (s_th2 th E.2.1.length (Eo.2.1.length - th.length)) Eo.2.2.1 (s_eB (s_ex E (Eo.2.1.drop th.length)) th B0 Eo.2.1) with
    | none => none
    | some E2 => bif (s_good E2.2.1 && s_feB E th Eo.2.1) && (s_subI h ho && (!Eo.1 && s_prs ho)) then (match s_eN (s_th2 th E.2.1.length (Eo.2.1.length - th.length)) Eo.2.2.2 E2 with
      | none => none
      | some E3 => match s_sbH (s_th2 th E.2.1.length (Eo.2.1.length - th.length)) ho h with
        | none => none
        | some h2 => match ret with
          | none => some (some (0, none, (0, [], [], E3, h2)))
          | some a => match s_sbA (s_th2 th E.2.1.length (Eo.2.1.length - th.length)) a with
            | none => none
            | some a2 => some (some (0, some a2, (0, [], [], E3, h2)))) else bif s_good E2.2.1 && s_feB E th Eo.2.1 then none else some none
noncomputable def s_ends (E : sE) (h : sH) (th : List sF) (B0 : List pI) : List sN → Option (List sO)
  | [] => some []
  | n :: r => match s_end E h th B0 n with
    | none => none
    | some o => match s_ends E h th B0 r with
      | none => none
      | some l => some (match o with
        | none => l
        | some o => o :: l)
/-- does a contract fit; the ends then -/
noncomputable def s_fit1 (dp : sF) (as : List sA) (E : sE) (h : sH) (C : sK) : Option (List sO) := match C with
  | (cd, cas, cE, ch, ce) => match s_allB (s_bH h (s_bLs (List.replicate cE.2.1.length none) cas as) ch) with
    | none => none
    | some th => bif !E.1 && s_cL E th cas as && s_cE E th cE && s_cH E th h ch && (match s_sbF th cd with
        | none => false
        | some d => s_gez E d 0 && s_ge2 E (s_sub dp d) 1) then s_ends E h th cE.2.1 ce else none
noncomputable def s_fits (dp : sF) (as : List sA) (E : sE) (h : sH) : List sK → Option (List sO)
  | [] => none
  | C :: r => match s_fit1 dp as E h C with
    | some os => some os
    | none => s_fits dp as E h r
