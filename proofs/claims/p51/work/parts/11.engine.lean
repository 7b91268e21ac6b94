/-! The second machine: values are forms, cells by their numbers. -/
/-- a value: an int; a reference; a long, perhaps known; some word -/
noncomputable abbrev sA : Type := sF ⊕ (Option Nat ⊕ (Option Int ⊕ Unit))
/-- a cell: a row of numbers; of longs; of rows; an object -/
noncomputable abbrev sC : Type := sR ⊕ (Nat ⊕ ((Nat × List (Option Nat)) ⊕ (Nat × List sA)))
noncomputable abbrev sH : Type := List (Nat × sC)
noncomputable abbrev sL : Type := List (Nat × sA)
noncomputable abbrev sG : Type := Nat × sL × List sA × sE × sH
/-- an end: 0: answered, 1: thrown, 2: stands still; the last frame -/
noncomputable abbrev sO : Type := Nat × Option sA × sG
noncomputable abbrev sS : Type := List (Nat × Nat × sG) ⊕ ((Nat × List sA × sG) ⊕ (Nat × Option sA))
noncomputable abbrev sZ : Type := Nat × Nat × List sO
noncomputable def s_hget : sH → Nat → Option sC
  | [], _ => none
  | q :: r, k => bif Nat.beq q.1 k then some q.2 else s_hget r k
noncomputable def s_hset (h : sH) (k : Nat) (c : sC) : sH := h.map (fun q => bif Nat.beq q.1 k then (q.1, c) else q)
/-- the cells made so far have the numbers below their number -/
noncomputable def s_ids (h : sH) : Bool := h.all (fun q => Nat.blt q.1 h.length)
noncomputable def s_lget : sL → Nat → Option sA
  | [], _ => none
  | q :: r, i => bif Nat.beq q.1 i then some q.2 else s_lget r i
noncomputable def s_cat (a : sA) : Nat := match a with
  | .inr (.inr (.inl _)) => 2
  | _ => 1
noncomputable def s_lset (lo : sL) (i : Nat) (a : sA) : sL := (i, a) :: lo.filter (fun q => !(Nat.beq q.1 i) && !(Nat.beq (q.1 + 1) i && Nat.beq (s_cat q.2) 2))
noncomputable def s_lset2 (lo : sL) (i : Nat) (a : sA) : sL := (i, a) :: lo.filter (fun q => !(Nat.beq q.1 i) && (!(Nat.beq q.1 (i + 1)) && !(Nat.beq (q.1 + 1) i && Nat.beq (s_cat q.2) 2)))
noncomputable def s_cats (st : List sA) : Nat := (st.map s_cat).sum
noncomputable def s_obj (h : sH) (q : Nat) : Option (Nat × List sA) := match s_hget h q with
  | some (.inr (.inr (.inr o))) => some o
  | _ => none
noncomputable def s_row (h : sH) (q : Nat) : Option sR := match s_hget h q with
  | some (.inl a) => some a
  | _ => none
noncomputable def s_rar (h : sH) (q : Nat) : Option (Nat × List (Option Nat)) := match s_hget h q with
  | some (.inr (.inr (.inl a))) => some a
  | _ => none
noncomputable def s_lrow (h : sH) (q : Nat) : Option Nat := match s_hget h q with
  | some (.inr (.inl n)) => some n
  | _ => none
noncomputable def s_go (nx : Nat) (lo : sL) (st : List sA) (E : sE) (h : sH) : Option sS := some (.inl [(0, 0, nx, lo, st, E, h)])
noncomputable def s_gox (nx : Nat) (lo : sL) (st : List sA) (X : sX) (h : sH) : Option sS := some (.inl [(0, 0, nx, lo, .inl X.2 :: st, X.1, h)])
noncomputable def s_not (l : Option (List (Bool × sE))) : Option (List (Bool × sE)) := match l with
  | none => none
  | some l => some (l.map (fun q => (!q.1, q.2)))
noncomputable def s_cmp (c : ClassFile.Cond) (E : sE) (a b : sF) : Option (List (Bool × sE)) := match c with
  | .eq => s_eq E a b
  | .ne => s_not (s_eq E a b)
  | .lt => s_lt E a b
  | .ge => s_not (s_lt E a b)
  | .gt => s_lt E b a
  | .le => s_not (s_lt E b a)
noncomputable def s_br (t nx : Nat) (lo : sL) (st : List sA) (h : sH) (l : Option (List (Bool × sE))) : Option sS := match l with
  | none => none
  | some l => some (.inl (l.map (fun q => (0, 0, (bif q.1 then t else nx), lo, st, q.2, h))))
noncomputable def s_eqA (E : sE) (x : sF) (z : Int) : sE := s_ge (s_ge E (s_sub x (s_num z))) (s_sub (s_num z) x)
noncomputable def s_nrw (ty : FieldType) (E : sE) (x : sF) : sX := match ty with
  | .byte => s_conv (-128) 127 E x
  | .boolean => s_conv 0 1 E x
  | .char => s_conv 0 65535 E x
  | _ => (E, x)
noncomputable def p_is (ty : FieldType) (k : Nat) : Bool := match k, ty with
  | 0, .int => true
  | 1, .byte => true
  | 1, .boolean => true
  | 2, .char => true
  | _, _ => false
noncomputable def s_zero : FieldType → sA
  | .array _ => .inr (.inl none)
  | .object _ => .inr (.inl none)
  | .long => .inr (.inr (.inl none))
  | _ => .inl (s_num 0)
/-- may a field of this type hold it as it is -/
noncomputable def s_ffit (E : sE) (ty : FieldType) (a : sA) : Bool := match ty, a with
  | .int, .inl _ => true
  | .boolean, .inl f => s_inI E f (0, 1)
  | .array _, .inr (.inl _) => true
  | .object _, .inr (.inl _) => true
  | _, _ => false
noncomputable def p_nF (ci : Nat) : Nat := match vwCl[ci]? with
  | none => 0
  | some q => q.2.2
noncomputable def s_newO (ci : Nat) : List sA := (List.range (p_nF ci)).map (fun k => s_zero (tyOf ci k))
noncomputable def s_rowN (ty : FieldType) (n : Nat) : sR := (ty, s_num n, List.replicate (bif Nat.ble n 12 && Nat.blt 0 n then n else 1) (.inl (s_num 0)), [], [])
noncomputable def s_mna (h : sH) (n k : Nat) : sH := h ++ ((h.length, .inr (.inr (.inl (n, (List.range n).map (fun i => some (h.length + 1 + i)))))) :: (List.range n).map (fun i => (h.length + 1 + i, .inl (.int, s_num k, [.inl (s_num 0)], [], []))))
noncomputable def s_take : Nat → List sA → List sA → Option (List sA × List sA)
  | 0, acc, st => some (acc, st)
  | n + 1, acc, a :: st => s_take n (a :: acc) st
  | _ + 1, _, [] => none
noncomputable def s_inv (a1 a2 nx : Nat) (recv : Bool) (lo : sL) (st : List sA) (E : sE) (h : sH) : Option sS := match s_take (bif recv then a2 + 1 else a2) [] st with
  | some (as, r) => bif Nat.ble (s_cats r) 8 && Nat.blt a1 nMth then some (.inr (.inl (a1, as, (nx, lo, r, E, h)))) else none
  | none => none
/-- is the receiver an object of the class of the method -/
noncomputable def s_rcv (a1 : Nat) (as : List sA) (h : sH) : Bool := match as with
  | .inr (.inl (some q)) :: _ => match s_obj h q with
    | some (ci, _) => Nat.beq ci (mcl a1)
    | none => false
  | _ => false
noncomputable def s_gets (lo : sL) (k c nx : Nat) (st : List sA) (E : sE) (h : sH) : Option sS := match s_lget lo k with
  | some (.inl v) => bif Nat.beq c 0 then s_go nx lo (.inl v :: st) E h else none
  | some (.inr (.inl r)) => bif Nat.beq c 1 then s_go nx lo (.inr (.inl r) :: st) E h else none
  | some (.inr (.inr (.inl r))) => bif Nat.beq c 2 then s_go nx lo (.inr (.inr (.inl r)) :: st) E h else none
  | _ => none
noncomputable def s_puts (lo : sL) (k c nx mL : Nat) (st : List sA) (E : sE) (h : sH) : Option sS := match st with
  | .inl v :: r => bif Nat.beq c 0 && Nat.blt k mL then s_go nx (s_lset lo k (.inl v)) r E h else none
  | .inr (.inl v) :: r => bif Nat.beq c 1 && Nat.blt k mL then s_go nx (s_lset lo k (.inr (.inl v))) r E h else none
  | .inr (.inr (.inl v)) :: r => bif Nat.beq c 2 && Nat.blt (k + 1) mL then s_go nx (s_lset2 lo k (.inr (.inr (.inl v)))) r E h else none
  | _ => none
noncomputable def s_op2 (f : sE → sF → sF → sX) (nx : Nat) (lo : sL) (st : List sA) (E : sE) (h : sH) : Option sS := match st with
  | .inl y :: .inl x :: r => s_gox nx lo r (f E x y) h
  | _ => none
noncomputable def s_op2o (f : sE → sF → sF → Option sX) (nx : Nat) (lo : sL) (st : List sA) (E : sE) (h : sH) : Option sS := match st with
  | .inl y :: .inl x :: r => match f E x y with
    | some X => s_gox nx lo r X h
    | none => none
  | _ => none
noncomputable def s_op1 (f : sE → sF → sX) (nx : Nat) (lo : sL) (st : List sA) (E : sE) (h : sH) : Option sS := match st with
  | .inl x :: r => s_gox nx lo r (f E x) h
  | _ => none
noncomputable def s_lop2 (nx : Nat) (lo : sL) (st : List sA) (E : sE) (h : sH) : Option sS := match st with
  | .inr (.inr (.inl _)) :: .inr (.inr (.inl _)) :: r => s_go nx lo (.inr (.inr (.inl none)) :: r) E h
  | _ => none
/-- division of longs: by a number that isn't 0 -/
noncomputable def s_ldv (nx : Nat) (lo : sL) (st : List sA) (E : sE) (h : sH) : Option sS := match st with
  | .inr (.inr (.inl (some z))) :: .inr (.inr (.inl _)) :: r => bif decide (Int64.ofInt z = 0) then none else s_go nx lo (.inr (.inr (.inl none)) :: r) E h
  | _ => none
/-- the mask of a byte: as it is, or 256 more -/
noncomputable def s_mask (E : sE) (x y : sF) : Bool := (match s_lit E y with
  | some z => s_ie z 255
  | none => false) && s_inI E x (-256, 255)
noncomputable def s_andI (nx : Nat) (lo : sL) (st : List sA) (E : sE) (h : sH) : Option sS := match st with
  | .inl y :: .inl x :: r => bif s_mask E x y then (match s_lt E x (s_num 0) with
      | none => none
      | some l => some (.inl (l.map (fun q => (0, 0, nx, lo, .inl (bif q.1 then s_add x (s_num 256) else x) :: r, q.2, h))))) else s_gox nx lo r (s_sand2 E x y) h
  | _ => none
noncomputable def s_tab (E : sE) (v : sF) (pc : Nat) (lo : sL) (st : List sA) (h : sH) (l u : Int) : Int → List Int → List (Nat × Nat × sG)
  | _, [] => []
  | z, o :: os => bif s_le l z && s_le z u then (0, 0, ((pc : Int) + o).toNat, lo, st, s_eqA E v z, h) :: s_tab E v pc lo st h l u (z + 1) os else s_tab E v pc lo st h l u (z + 1) os
noncomputable def s_tabO (E : sE) (v : sF) (pc : Nat) (lo : sL) (st : List sA) (h : sH) (d low high l u : Int) : List (Nat × Nat × sG) :=
  (bif s_le l (low - 1) then [(0, 0, ((pc : Int) + d).toNat, lo, st, s_ge E (s_sub (s_num (low - 1)) v), h)] else []) ++ (bif s_le (high + 1) u then [(0, 0, ((pc : Int) + d).toNat, lo, st, s_ge E (s_sub v (s_num (high + 1))), h)] else [])
/-- it isn't z -/
noncomputable def s_fls : List (Bool × sE) → List sE
  | [] => []
  | q :: r => bif q.1 then s_fls r else q.2 :: s_fls r
noncomputable def s_nes (E : sE) (v : sF) (z : Int) : List sE := match s_eq E v (s_num z) with
  | none => [E]
  | some l => s_fls l
noncomputable def s_look (E : sE) (v : sF) (pc : Nat) (lo : sL) (st : List sA) (h : sH) (l u d : Int) : List (Int × Int) → List sE → List (Nat × Nat × sG)
  | [], D => D.map (fun e => (0, 0, ((pc : Int) + d).toNat, lo, st, e, h))
  | q :: r, D => bif s_le l q.1 && s_le q.1 u then (0, 0, ((pc : Int) + q.2).toNat, lo, st, s_eqA E v q.1, h) :: s_look E v pc lo st h l u d r (D.flatMap (fun e => s_nes e v q.1)) else s_look E v pc lo st h l u d r D
noncomputable def s_rld (nx : Nat) (lo : sL) (st : List sA) (E : sE) (h : sH) (q : Nat) (v : sF) (kind : Nat) : Option sS := match s_row h q with
  | some ro => bif p_is ro.1 kind && s_ix E ro.2.1 v then (match s_rd E ro v with
    | some (E1, x, ro1) => s_go nx lo (.inl x :: st) E1 (s_hset h q (.inl ro1))
    | none => none) else none
  | none => none
noncomputable def s_rst (nx : Nat) (lo : sL) (st : List sA) (E : sE) (h : sH) (q : Nat) (v x : sF) (kind : Nat) : Option sS := match s_row h q with
  | some ro => bif p_is ro.1 kind && s_ix E ro.2.1 v then (match s_nrw ro.1 E x with
    | (E1, x1) => match s_wr E1 ro v x1 with
      | some ro1 => s_go nx lo st E1 (s_hset h q (.inl ro1))
      | none => none) else none
  | none => none
/-- the rows that an index may mean -/
noncomputable def s_may (E : sE) (v : sF) (z : Int) : Bool := match s_bnd E v with
  | some i => s_le i.1 z && s_le z i.2
  | none => true
noncomputable def s_span (E : sE) (v : sF) (nx : Nat) (lo : sL) (st : List sA) (h : sH) : Int → List (Option Nat) → List (Nat × Nat × sG)
  | _, [] => []
  | z, c :: r => bif s_may E v z then (0, 0, nx, lo, .inr (.inl c) :: st, s_eqA E v z, h) :: s_span E v nx lo st h (z + 1) r else s_span E v nx lo st h (z + 1) r
noncomputable def s_cpL (f0 : List sW) (sp dp : Nat) : Nat → List sW → List sW
  | 0, f1 => f1
  | n + 1, f1 => s_cpL f0 (sp + 1) (dp + 1) n (match f0[sp % f0.length]? with
    | none => f1
    | some w => f1.set dp w)
noncomputable def s_cpW (E : sE) (x : pI × Option sF) : List sW → Option (List sW)
  | [] => some []
  | w :: r => match s_wI E w with
    | none => none
    | some a => match s_cpW E x r with
      | none => none
      | some l => some (.inr (s_jn a x) :: l)
noncomputable def s_cpF (E : sE) (f0 f1 : List sW) (n1 : Int) (sp dp n : sF) : Option (List sW) := match s_lit E sp, s_lit E dp, s_lit E n with
  | some a, some b, some c => bif s_ie n1 (f1.length : Int) then some (s_cpL f0 a.toNat b.toNat c.toNat f1) else (match s_jns E f0 (bif s_ie c 0 then List.range f0.length else (List.range c.toNat).map (fun t => (a.toNat + t) % f0.length)) with
    | none => none
    | some x => s_cpW E x f1)
  | _, _, _ => match s_jns E f0 (List.range f0.length) with
    | none => none
    | some x => s_cpW E x f1
noncomputable def s_cpR (E : sE) (r0 r1 : sR) (sp dp n : sF) : Option sR := match r1 with
  | (ty1, (t1, n1), f1, _, _) => match t1 with
    | _ :: _ => none
    | [] => bif p_is r0.1 0 && p_is ty1 0 && s_ge2 E sp 0 && s_ge2 E dp 0 && s_ge2 E n 0 && s_ge2 E (s_sub r0.2.1 (s_add sp n)) 0 && s_ge2 E (s_sub (s_num n1) (s_add dp n)) 0 && s_nil r0.2.1.1 then (match s_cpF E r0.2.2.1 f1 n1 sp dp n with
      | none => none
      | some f2 => some (ty1, ([], n1), f2, [], [])) else none
noncomputable def s_copy (nx : Nat) (lo : sL) (st : List sA) (E : sE) (h : sH) : Option sS := match st with
  | .inl n :: .inl dp :: .inr (.inl (some q1)) :: .inl sp :: .inr (.inl (some q0)) :: r => bif Nat.beq q0 q1 || !(Nat.ble (s_cats r) 8) then none else (match s_row h q0 with
    | some r0 => match s_row h q1 with
      | some r1 => match s_cpR E r0 r1 sp dp n with
        | some r2 => s_go nx lo r E (s_hset h q1 (.inl r2))
        | none => none
      | none => none
    | none => none)
  | _ => none
/-- a length -/
noncomputable def s_len (h : sH) (q : Nat) : Option sF := match s_hget h q with
  | some (.inl a) => some a.2.1
  | some (.inr (.inl n)) => some (s_num n)
  | some (.inr (.inr (.inl a))) => some (s_num a.1)
  | _ => none
noncomputable def s_ret (k : Nat) (E : sE) (v : sF) : Option sS := match (mth k).2.2.2.2.1 with
  | some .int => some (.inr (.inr (0, some (.inl v))))
  | some .boolean => bif s_inI E v (0, 1) then some (.inr (.inr (0, some (.inl v)))) else none
  | _ => none
noncomputable def s_step (k pc : Nat) (lo : sL) (st : List sA) (E : sE) (h : sH) : Option sS := match ins k pc with
  | none => none
  | some (i, nx, a1, a2, _, z) => match i with
    | .iconst c => bif s_in32 (c, c) then s_go nx lo (.inl (s_num c) :: st) E h else none
    | .bipush c => s_go nx lo (.inl (s_num (Int8.ofInt c).toInt32.toInt) :: st) E h
    | .sipush c => s_go nx lo (.inl (s_num (Int16.ofInt c).toInt32.toInt) :: st) E h
    | .ldc _ => bif Nat.beq a1 0 && s_in32 (z, z) then s_go nx lo (.inl (s_num z) :: st) E h else none
    | .ldc_w _ => bif Nat.beq a1 0 && s_in32 (z, z) then s_go nx lo (.inl (s_num z) :: st) E h else none
    | .ldc2_w _ => bif Nat.beq a1 0 && Nat.beq nx (pc + 3) then s_go nx lo (.inr (.inr (.inl (some z))) :: st) E h else none
    | .lconst _ => s_go nx lo (.inr (.inr (.inl none)) :: st) E h
    | .iload_n n => s_gets lo n.val 0 nx st E h
    | .iload n => s_gets lo n 0 nx st E h
    | .aload_n n => s_gets lo n.val 1 nx st E h
    | .aload n => s_gets lo n 1 nx st E h
    | .lload_n n => s_gets lo n.val 2 nx st E h
    | .lload n => bif Nat.beq nx (pc + 2) then s_gets lo n 2 nx st E h else none
    | .istore_n n => s_puts lo n.val 0 nx (mth k).2.2.2.1 st E h
    | .istore n => s_puts lo n 0 nx (mth k).2.2.2.1 st E h
    | .astore_n n => s_puts lo n.val 1 nx (mth k).2.2.2.1 st E h
    | .astore n => s_puts lo n 1 nx (mth k).2.2.2.1 st E h
    | .lstore_n n => s_puts lo n.val 2 nx (mth k).2.2.2.1 st E h
    | .lstore n => bif Nat.beq nx (pc + 2) then s_puts lo n 2 nx (mth k).2.2.2.1 st E h else none
    | .iinc n c => match s_lget lo n with
      | some (.inl v) => bif Nat.blt n (mth k).2.2.2.1 && Nat.beq nx (pc + 3) && s_in32 (c, c) then (match s_sadd E v (s_num c) with
        | (E1, w) => s_go nx (s_lset lo n (.inl w)) st E1 h) else none
      | _ => none
    | .iadd => s_op2 s_sadd nx lo st E h
    | .isub => s_op2 s_ssub nx lo st E h
    | .imul => s_op2 s_smul nx lo st E h
    | .iand => s_andI nx lo st E h
    | .ior => s_op2 s_sor nx lo st E h
    | .ixor => s_op2 s_sxor nx lo st E h
    | .ishl => s_op2 s_sshl nx lo st E h
    | .ishr => s_op2 s_sshr2 nx lo st E h
    | .iushr => s_op2 s_ushr nx lo st E h
    | .idiv => s_op2o s_sdiv nx lo st E h
    | .irem => s_op2o s_srem nx lo st E h
    | .ineg => s_op1 s_sneg nx lo st E h
    | .i2b => s_op1 (s_conv (-128) 127) nx lo st E h
    | .i2s => s_op1 (s_conv (-32768) 32767) nx lo st E h
    | .i2c => s_op1 (s_conv 0 65535) nx lo st E h
    | .i2l => match st with
      | .inl _ :: r => s_go nx lo (.inr (.inr (.inl none)) :: r) E h
      | _ => none
    | .l2i => match st with
      | .inr (.inr (.inl _)) :: r => s_gox nx lo r (s_new E s_any) h
      | _ => none
    | .ladd => s_lop2 nx lo st E h
    | .lmul => s_lop2 nx lo st E h
    | .ldiv => s_ldv nx lo st E h
    | .lrem => s_ldv nx lo st E h
    | .lcmp => match st with
      | .inr (.inr (.inl _)) :: .inr (.inr (.inl _)) :: r => s_gox nx lo r (s_new E (-1, 1)) h
      | _ => none
    | .ifCond c _ => match st with
      | .inl x :: r => s_br a1 nx lo r h (s_cmp c E x (s_num 0))
      | _ => none
    | .if_icmp c _ => match st with
      | .inl y :: .inl x :: r => s_br a1 nx lo r h (s_cmp c E x y)
      | _ => none
    | .goto _ => s_go a1 lo st E h
    | .tableswitch d low high os => match st with
      | .inl x :: r => match s_bnd E x with
        | some (l, u) => bif decide (high - low + 1 = (os.size : Int)) then some (.inl (s_tab E x pc lo r h l u low os.toList ++ s_tabO E x pc lo r h d low high l u)) else none
        | none => none
      | _ => none
    | .lookupswitch d ps => match st with
      | .inl x :: r => match s_bnd E x with
        | some (l, u) => bif (ps.toList.zip (ps.toList.drop 1)).all (fun q => decide (q.1.1 < q.2.1)) && ps.toList.all (fun q => s_le 0 ((pc : Int) + q.2)) && s_le 0 ((pc : Int) + d) then some (.inl (s_look E x pc lo r h l u d ps.toList [E])) else none
        | none => none
      | _ => none
    | .dup => match st with
      | a :: r => bif Nat.beq (s_cat a) 1 then s_go nx lo (a :: a :: r) E h else none
      | _ => none
    | .pop => match st with
      | a :: r => bif Nat.beq (s_cat a) 1 then s_go nx lo r E h else none
      | _ => none
    | .dup_x1 => match st with
      | a :: b :: r => bif Nat.beq (s_cat a) 1 && Nat.beq (s_cat b) 1 then s_go nx lo (a :: b :: a :: r) E h else none
      | _ => none
    | .dup2 => match st with
      | a :: b :: r => bif Nat.beq (s_cat a) 1 && Nat.beq (s_cat b) 1 then s_go nx lo (a :: b :: a :: b :: r) E h else none
      | _ => none
    | .getfield _ => match st with
      | .inr (.inl (some q)) :: r => match s_obj h q with
        | some (ci, fs) => bif Nat.beq ci a1 then (match fs[a2]? with
          | some v => s_go nx lo (v :: r) E h
          | none => none) else none
        | none => none
      | _ => none
    | .putfield _ => match st with
      | v :: .inr (.inl (some q)) :: r => match s_obj h q with
        | some (ci, fs) => bif Nat.beq ci a1 && Nat.blt a2 fs.length && s_ffit E (tyOf a1 a2) v then s_go nx lo r E (s_hset h q (.inr (.inr (.inr (ci, fs.set a2 v))))) else none
        | none => none
      | _ => none
    | .new _ => bif Nat.beq a1 99 then some (.inr (.inr (1, none))) else bif E.1 && s_ids h then some (.inl [(1, p_nF a1, nx, lo, .inr (.inl (some h.length)) :: st, E, h ++ [(h.length, .inr (.inr (.inr (a1, s_newO a1))))])]) else none
    | .newarray t => match st with
      | .inl ([], z) :: r => bif E.1 && s_ids h && decide (0 ≤ z) && decide (z ≤ 65536) then
          some (.inl [(1, z.toNat, nx, lo, .inr (.inl (some h.length)) :: r, E, h ++ [(h.length, match t with
            | .long => .inr (.inl z.toNat)
            | t => .inl (s_rowN (newarray.typeOf t) z.toNat))])]) else none
      | _ => none
    | .multianewarray _ _ => match st with
      | .inl ([], k1) :: .inl ([], n1) :: r => bif E.1 && s_ids h && decide (0 ≤ k1) && decide (k1 ≤ 65536) && decide (0 ≤ n1) && decide (n1 ≤ 65536) then
          some (.inl [(1 + n1.toNat, n1.toNat + n1.toNat * k1.toNat, nx, lo, .inr (.inl (some h.length)) :: r, E, s_mna h n1.toNat k1.toNat)]) else none
      | _ => none
    | .iaload => match st with
      | .inl v :: .inr (.inl (some q)) :: r => s_rld nx lo r E h q v 0
      | _ => none
    | .baload => match st with
      | .inl v :: .inr (.inl (some q)) :: r => s_rld nx lo r E h q v 1
      | _ => none
    | .caload => match st with
      | .inl v :: .inr (.inl (some q)) :: r => s_rld nx lo r E h q v 2
      | _ => none
    | .iastore => match st with
      | .inl x :: .inl v :: .inr (.inl (some q)) :: r => s_rst nx lo r E h q v x 0
      | _ => none
    | .bastore => match st with
      | .inl x :: .inl v :: .inr (.inl (some q)) :: r => s_rst nx lo r E h q v x 1
      | _ => none
    | .castore => match st with
      | .inl x :: .inl v :: .inr (.inl (some q)) :: r => s_rst nx lo r E h q v x 2
      | _ => none
    | .laload => match st with
      | .inl v :: .inr (.inl (some q)) :: r => match s_lrow h q with
        | some n => bif s_ix E (s_num n) v then s_go nx lo (.inr (.inr (.inl none)) :: r) E h else none
        | none => none
      | _ => none
    | .lastore => match st with
      | .inr (.inr (.inl _)) :: .inl v :: .inr (.inl (some q)) :: r => match s_lrow h q with
        | some n => bif s_ix E (s_num n) v then s_go nx lo r E (s_hset h q (.inr (.inl n))) else none
        | none => none
      | _ => none
    | .aaload => match st with
      | .inl v :: .inr (.inl (some q)) :: r => match s_rar h q with
        | some (n, cs) => bif s_ix E (s_num n) v && Nat.beq cs.length n then some (.inl (s_span E v nx lo r h 0 cs)) else none
        | none => none
      | _ => none
    | .arraylength => match st with
      | .inr (.inl (some q)) :: r => match s_len h q with
        | some n => bif s_inI E n (0, 2147483647) then s_go nx lo (.inl n :: r) E h else none
        | none => none
      | _ => none
    | .invokestatic _ => bif Nat.beq a1 901 then s_copy nx lo st E h else s_inv a1 a2 nx false lo st E h
    | .invokevirtual _ => match s_inv a1 a2 nx true lo st E h with
      | some (.inr (.inl (c, as, f))) => bif s_rcv c as h then some (.inr (.inl (c, as, f))) else none
      | _ => none
    | .invokespecial _ => bif Nat.beq a1 900 then (match st with
        | .inr (.inl (some _)) :: r => bif Nat.ble (s_cats r) 8 then s_go nx lo r E h else none
        | _ => none) else (match s_inv a1 a2 nx true lo st E h with
      | some (.inr (.inl (c, .inr (.inl (some q)) :: as, f))) => some (.inr (.inl (c, .inr (.inl (some q)) :: as, f)))
      | _ => none)
    | .ireturn => match st with
      | [.inl v] => s_ret k E v
      | _ => none
    | .lreturn => match st with
      | [.inr (.inr (.inl _))] => match (mth k).2.2.2.2.1 with
        | some .long => some (.inr (.inr (0, some (.inr (.inr (.inl none))))))
        | _ => none
      | _ => none
    | .return_ => match st with
      | [] => match (mth k).2.2.2.2.1 with
        | none => some (.inr (.inr (0, none)))
        | _ => none
      | _ => none
    | _ => none
