/-! A machine of its own over the program's tables: ints are numbers, the script's words, or lie between two bounds; where a test isn't decided both ways are gone. -/
abbrev pI : Type := Int × Int
abbrev pV : Type := Int ⊕ (Nat ⊕ pI)
/-- a value: an int, a reference (0: the script, k + 1: the cell k), some long -/
abbrev pA : Type := pV ⊕ (Option Nat ⊕ Unit)
/-- whether cells may still be made, and between which bounds the script's words lie -/
abbrev pE : Type := Bool × List pI
abbrev pC : Type := (FieldType × Nat × (Nat → pV)) ⊕ (Nat ⊕ ((Nat × (Nat → Option Nat)) ⊕ (Nat × List pA)))
abbrev pH : Type := List pC
abbrev pL : Type := List (Nat × pA)
abbrev pF : Type := Nat × pL × List pA × pE × pH
/-- an end: 0: answered (or nothing), 1: thrown, 2: stopped; the last frame -/
abbrev pO : Type := Nat × Option pA × pF
/-- a step: on (with cells and slots made), a call (who, what it takes, the frame behind it), an end -/
abbrev pS : Type := List (Nat × Nat × pF) ⊕ ((Nat × List pA × pF) ⊕ (Nat × Option pA))
abbrev pZ : Type := Nat × Nat × List pO
def p_any : pV := .inr (.inr (-2147483648, 2147483647))
def p_itv (E : pE) (v : pV) : pI := match v with
  | .inl z => (Int.bmod z 4294967296, Int.bmod z 4294967296)
  | .inr (.inl k) => (E.2[k]?).getD (-2147483648, 2147483647)
  | .inr (.inr i) => i
def p_lit (E : pE) (v : pV) : Option Int := match p_itv E v with
  | (l, h) => bif decide (l = h) then some l else none
/-- the number, counted out -/
def p_num (z : Int) : pV := match z with
  | .ofNat 0 => .inl 0
  | .ofNat (n + 1) => .inl (.ofNat (n + 1))
  | .negSucc 0 => .inl (-1)
  | .negSucc (n + 1) => .inl (.negSucc (n + 1))
def p_bin (f : Int32 → Int32 → Int32) (E : pE) (a b : pV) : pV := match p_lit E a with
  | none => p_any
  | some x => match p_lit E b with
    | none => p_any
    | some y => p_num (f (Int32.ofInt x) (Int32.ofInt y)).toInt
def p_un (f : Int32 → Int32) (E : pE) (a : pV) : pV := match p_lit E a with
  | none => p_any
  | some x => p_num (f (Int32.ofInt x)).toInt
def p_shr (E : pE) (a b : pV) : pV := match p_lit E b with
  | none => p_any
  | some y => bif decide (y = 0) then a else p_bin (fun x y => x >>> (y &&& 31)) E a b
def p_ref (E : pE) (v : pV) (i : pI) : pE := match v with
  | .inr (.inl k) => (E.1, E.2.set k i)
  | _ => E
/-- less: the ways that it may come out, with what is known then -/
def p_lt (E : pE) (a b : pV) : List (Bool × pE) := match p_itv E a, p_itv E b with
  | (l1, h1), (l2, h2) =>
    bif decide (h1 < l2) then [(true, E)] else bif decide (h2 ≤ l1) then [(false, E)] else
    [(true, p_ref (p_ref E a (l1, min h1 (h2 - 1))) b (max l2 (l1 + 1), h2)), (false, p_ref (p_ref E a (max l1 l2, h1)) b (l2, min h2 h1))]
def p_eq (E : pE) (a b : pV) : List (Bool × pE) := match p_itv E a, p_itv E b with
  | (l1, h1), (l2, h2) =>
    bif decide (h1 < l2) || decide (h2 < l1) then [(false, E)] else
    bif decide (l1 = h1) && decide (l2 = h2) then [(true, E)] else
    [(true, p_ref (p_ref E a (max l1 l2, min h1 h2)) b (max l1 l2, min h1 h2)),
     (false, bif decide (l2 = h2) then (bif decide (l2 = l1) then p_ref E a (l1 + 1, h1) else bif decide (l2 = h1) then p_ref E a (l1, h1 - 1) else E) else E)]
def p_not (l : List (Bool × pE)) : List (Bool × pE) := l.map (fun q => (!q.1, q.2))
def p_cmp (c : ClassFile.Cond) (E : pE) (a b : pV) : List (Bool × pE) := match c with
  | .eq => p_eq E a b
  | .ne => p_not (p_eq E a b)
  | .lt => p_lt E a b
  | .ge => p_not (p_lt E a b)
  | .gt => p_lt E b a
  | .le => p_not (p_lt E b a)
def p_lget : pL → Nat → Option pA
  | [], _ => none
  | q :: r, i => bif Nat.beq q.1 i then some q.2 else p_lget r i
def p_cat (a : pA) : Nat := match a with
  | .inr (.inr _) => 2
  | _ => 1
def p_lset (lo : pL) (i : Nat) (a : pA) : pL := (i, a) :: lo.filter (fun q => !(Nat.beq q.1 i) && !(Nat.beq (q.1 + 1) i && Nat.beq (p_cat q.2) 2))
def p_cats (st : List pA) : Nat := (st.map p_cat).sum
/-- all the places that an index may name, within n -/
def p_span (E : pE) (v : pV) (l : Int) : Nat → List (Nat × pE)
  | 0 => []
  | k + 1 => (l.toNat, p_ref E v (l, l)) :: p_span E v (l + 1) k
def p_idx (E : pE) (v : pV) (n : Nat) : Option (List (Nat × pE)) := match p_itv E v with
  | (l, h) => bif decide (0 ≤ l) && decide (h < (n : Int)) && decide (h - l < 64) then some (bif decide (l = h) then [(l.toNat, E)] else p_span E v l (h - l + 1).toNat) else none
def p_upd (f : Nat → pV) (k : Nat) (v : pV) : Nat → pV := fun j => bif Nat.beq j k then v else f j
def p_cpy (f g : Nat → pV) (sp dp n : Nat) : Nat → pV := fun k => bif Nat.ble dp k && Nat.blt k (dp + n) then f (sp + (k - dp)) else g k
def p_nar (ty : FieldType) (E : pE) (v : pV) : pV := p_un (vp_nar ty) E v
def p_zero : FieldType → pA
  | .array _ => .inr (.inl none)
  | .object _ => .inr (.inl none)
  | .long => .inr (.inr ())
  | _ => .inl (.inl 0)
/-- may a field of this type hold it as it is -/
def p_fit (ty : FieldType) (a : pA) : Bool := match ty, a with
  | .int, .inl _ => true
  | .boolean, .inl (.inl z) => decide (z = 0) || decide (z = 1)
  | .array _, .inr (.inl _) => true
  | .object _, .inr (.inl _) => true
  | _, _ => false
def p_go (nx : Nat) (lo : pL) (st : List pA) (E : pE) (h : pH) : Option pS := some (.inl [(0, 0, nx, lo, st, E, h)])
def p_obj (h : pH) (q : Nat) : Option (Nat × List pA) := match h[q]? with
  | some (.inr (.inr (.inr o))) => some o
  | _ => none
def p_arr (h : pH) (q : Nat) : Option (FieldType × Nat × (Nat → pV)) := match h[q]? with
  | some (.inl a) => some a
  | _ => none
def p_rar (h : pH) (q : Nat) : Option (Nat × (Nat → Option Nat)) := match h[q]? with
  | some (.inr (.inr (.inl a))) => some a
  | _ => none
def p_len (L : Nat) (h : pH) (r : Nat) : Option Nat := match r with
  | 0 => some L
  | q + 1 => match h[q]? with
    | some (.inl a) => some a.2.1
    | some (.inr (.inl n)) => some n
    | some (.inr (.inr (.inl a))) => some a.1
    | _ => none
/-- the first n of a stack, the last first, and the rest -/
def p_take : Nat → List pA → List pA → Option (List pA × List pA)
  | 0, acc, st => some (acc, st)
  | n + 1, acc, a :: st => p_take n (a :: acc) st
  | _ + 1, _, [] => none
def p_br (t nx : Nat) (lo : pL) (st : List pA) (h : pH) (l : List (Bool × pE)) : Option pS := some (.inl (l.map (fun q => (0, 0, (bif q.1 then t else nx), lo, st, q.2, h))))
/-- a switch over a table: each of its numbers, and what lies outside -/
def p_tab (E : pE) (v : pV) (pc : Nat) (lo : pL) (st : List pA) (h : pH) (l u : Int) : Int → List Int → List (Nat × Nat × pF)
  | _, [] => []
  | z, o :: os => bif decide (l ≤ z) && decide (z ≤ u) then (0, 0, ((pc : Int) + o).toNat, lo, st, p_ref E v (z, z), h) :: p_tab E v pc lo st h l u (z + 1) os else p_tab E v pc lo st h l u (z + 1) os
def p_tabO (E : pE) (v : pV) (pc : Nat) (lo : pL) (st : List pA) (h : pH) (d low high l u : Int) : List (Nat × Nat × pF) :=
  (bif decide (l < low) then [(0, 0, ((pc : Int) + d).toNat, lo, st, p_ref E v (l, min u (low - 1)), h)] else []) ++ (bif decide (high < u) then [(0, 0, ((pc : Int) + d).toNat, lo, st, p_ref E v (max l (high + 1), u), h)] else [])
def p_is (ty : FieldType) (k : Nat) : Bool := match k, ty with
  | 0, .int => true
  | 1, .byte => true
  | 1, .boolean => true
  | 2, .char => true
  | _, _ => false
/-- a read out of a row: of the script (r = 0), or of a row of ints (kind 0), bytes or truths (1), signs (2) -/
def p_rld (L : Nat) (nx : Nat) (lo : pL) (st : List pA) (E : pE) (h : pH) (r : Nat) (v : pV) (kind : Nat) : Option pS := match r with
  | 0 => match p_lit E v with
    | some z => bif decide (0 ≤ z) && decide (z < (L : Int)) && Nat.beq kind 0 then p_go nx lo (.inl (.inr (.inl z.toNat)) :: st) E h else none
    | none => none
  | q + 1 => match p_arr h q with
    | some (ty, n, f) => bif p_is ty kind then (match p_idx E v n with
      | some l => some (.inl (l.map (fun i => (0, 0, nx, lo, .inl (f i.1) :: st, i.2, h))))
      | none => none) else none
    | none => none
def p_sto (ty : FieldType) (E : pE) (x : pV) : pV := match ty with
  | .int => x
  | t => p_nar t E x
def p_rst (nx : Nat) (lo : pL) (st : List pA) (E : pE) (h : pH) (r : Nat) (v x : pV) (kind : Nat) : Option pS := match r with
  | 0 => none
  | q + 1 => match p_arr h q with
    | some (ty, n, f) => bif p_is ty kind then (match p_idx E v n with
      | some l => some (.inl (l.map (fun i => (0, 0, nx, lo, st, i.2, h.set q (.inl (ty, n, p_upd f i.1 (p_sto ty E x)))))))
      | none => none) else none
    | none => none
def p_nF (ci : Nat) : Nat := match vwCl[ci]? with
  | none => 0
  | some q => q.2.2
def p_new (ci : Nat) : List pA := (List.range (p_nF ci)).map (fun k => p_zero (tyOf ci k))
def p_aty (t : ArrayType) : FieldType := newarray.typeOf t
def p_gets (lo : pL) (k : Nat) (c : Nat) (nx : Nat) (st : List pA) (E : pE) (h : pH) : Option pS := match p_lget lo k with
  | some (.inl v) => bif Nat.beq c 0 then p_go nx lo (.inl v :: st) E h else none
  | some (.inr (.inl r)) => bif Nat.beq c 1 then p_go nx lo (.inr (.inl r) :: st) E h else none
  | _ => none
def p_puts (lo : pL) (k : Nat) (c : Nat) (nx : Nat) (mL : Nat) (st : List pA) (E : pE) (h : pH) : Option pS := match st with
  | .inl v :: r => bif Nat.beq c 0 && Nat.blt k mL then p_go nx (p_lset lo k (.inl v)) r E h else none
  | .inr (.inl v) :: r => bif Nat.beq c 1 && Nat.blt k mL then p_go nx (p_lset lo k (.inr (.inl v))) r E h else none
  | _ => none
def p_op2 (f : pV → pV → pV) (nx : Nat) (lo : pL) (st : List pA) (E : pE) (h : pH) : Option pS := match st with
  | .inl y :: .inl x :: r => p_go nx lo (.inl (f x y) :: r) E h
  | _ => none
def p_op1 (f : pV → pV) (nx : Nat) (lo : pL) (st : List pA) (E : pE) (h : pH) : Option pS := match st with
  | .inl x :: r => p_go nx lo (.inl (f x) :: r) E h
  | _ => none
def p_dv (f : Int32 → Int32 → Int32) (nx : Nat) (lo : pL) (st : List pA) (E : pE) (h : pH) : Option pS := match st with
  | .inl y :: .inl x :: r => match p_lit E y with
    | some z => bif decide (Int32.ofInt z = 0) then none else p_go nx lo (.inl (p_bin f E x y) :: r) E h
    | none => none
  | _ => none
/-- the inner rows of new int[n][k], handles from q on -/
def p_mna (h : pH) (n k : Nat) : pH := h ++ (.inr (.inr (.inl (n, fun i => bif Nat.blt i n then some (h.length + 2 + i) else none))) :: List.replicate n (.inl (.int, k, fun _ => .inl 0)))
def p_inv (a1 a2 nx : Nat) (recv : Bool) (lo : pL) (st : List pA) (E : pE) (h : pH) : Option pS := match p_take (bif recv then a2 + 1 else a2) [] st with
  | some (as, r) => bif Nat.ble (p_cats r) 8 && Nat.blt a1 nMth then some (.inr (.inl (a1, as, (nx, lo, r, E, h)))) else none
  | none => none
/-- is the receiver an object of the class of the method -/
def p_rcv (a1 : Nat) (as : List pA) (h : pH) : Bool := match as with
  | .inr (.inl (some (q + 1))) :: _ => match p_obj h q with
    | some (ci, _) => Nat.beq ci (mcl a1)
    | none => false
  | _ => false
def p_copy (nx : Nat) (lo : pL) (st : List pA) (E : pE) (h : pH) : Option pS := match st with
  | .inl n :: .inl dp :: .inr (.inl (some (q1 + 1))) :: .inl sp :: .inr (.inl (some (q0 + 1))) :: r => match p_arr h q0 with
    | some (.int, n0, f) => match p_arr h q1 with
      | some (.int, n1, g) => match p_lit E n with
        | some zn => match p_lit E dp with
          | some zd => match p_lit E sp with
            | some zs => bif decide (0 ≤ zn) && decide (0 ≤ zd) && decide (0 ≤ zs) && decide (zs + zn ≤ (n0 : Int)) && decide (zd + zn ≤ (n1 : Int)) && Nat.ble (p_cats r) 8 then
                p_go nx lo r E (h.set q1 (.inl (.int, n1, p_cpy f g zs.toNat zd.toNat zn.toNat))) else none
            | none => none
          | none => none
        | none => none
      | _ => none
    | _ => none
  | _ => none
def p_step (L k : Nat) (pc : Nat) (lo : pL) (st : List pA) (E : pE) (h : pH) : Option pS := match ins k pc with
  | none => none
  | some (i, nx, a1, a2, _, z) => match i with
    | .iconst c => p_go nx lo (.inl (.inl c) :: st) E h
    | .bipush c => p_go nx lo (.inl (p_num (Int8.ofInt c).toInt32.toInt) :: st) E h
    | .sipush c => p_go nx lo (.inl (p_num (Int16.ofInt c).toInt32.toInt) :: st) E h
    | .ldc _ => bif Nat.beq a1 0 then p_go nx lo (.inl (.inl z) :: st) E h else none
    | .ldc_w _ => bif Nat.beq a1 0 then p_go nx lo (.inl (.inl z) :: st) E h else none
    | .iload_n n => p_gets lo n.val 0 nx st E h
    | .iload n => p_gets lo n 0 nx st E h
    | .aload_n n => p_gets lo n.val 1 nx st E h
    | .aload n => p_gets lo n 1 nx st E h
    | .istore_n n => p_puts lo n.val 0 nx (mth k).2.2.2.1 st E h
    | .istore n => p_puts lo n 0 nx (mth k).2.2.2.1 st E h
    | .astore_n n => p_puts lo n.val 1 nx (mth k).2.2.2.1 st E h
    | .astore n => p_puts lo n 1 nx (mth k).2.2.2.1 st E h
    | .iinc n c => match p_lget lo n with
      | some (.inl v) => bif Nat.blt n (mth k).2.2.2.1 && Nat.beq nx (pc + 3) then p_go nx (p_lset lo n (.inl (p_bin (fun x y => x + y) E v (.inl c)))) st E h else none
      | _ => none
    | .iadd => p_op2 (p_bin (fun x y => x + y) E) nx lo st E h
    | .isub => p_op2 (p_bin (fun x y => x - y) E) nx lo st E h
    | .imul => p_op2 (p_bin (fun x y => x * y) E) nx lo st E h
    | .iand => p_op2 (p_bin (fun x y => x &&& y) E) nx lo st E h
    | .ior => p_op2 (p_bin (fun x y => x ||| y) E) nx lo st E h
    | .ixor => p_op2 (p_bin (fun x y => x ^^^ y) E) nx lo st E h
    | .ishl => p_op2 (p_bin (fun x y => x <<< (y &&& 31)) E) nx lo st E h
    | .ishr => p_op2 (p_shr E) nx lo st E h
    | .iushr => p_op2 (p_bin (fun x y => (x.toUInt32 >>> (y.toUInt32 &&& Int32.toUInt32 31)).toInt32) E) nx lo st E h
    | .idiv => p_dv (fun x y => x / y) nx lo st E h
    | .irem => p_dv (fun x y => x - x / y * y) nx lo st E h
    | .ineg => p_op1 (p_un (fun x => -x) E) nx lo st E h
    | .i2b => p_op1 (p_un (fun x => x.toInt8.toInt32) E) nx lo st E h
    | .i2s => p_op1 (p_un (fun x => x.toInt16.toInt32) E) nx lo st E h
    | .i2c => p_op1 (p_un (fun x => (x.toUInt32 % 65536).toInt32) E) nx lo st E h
    | .ifCond c _ => match st with
      | .inl x :: r => p_br a1 nx lo r h (p_cmp c E x (.inl 0))
      | _ => none
    | .if_icmp c _ => match st with
      | .inl y :: .inl x :: r => p_br a1 nx lo r h (p_cmp c E x y)
      | _ => none
    | .goto _ => p_go a1 lo st E h
    | .tableswitch d low high os => match st with
      | .inl x :: r => match p_itv E x with
        | (l, u) => bif decide (high - low + 1 = (os.size : Int)) then some (.inl (p_tab E x pc lo r h l u low os.toList ++ p_tabO E x pc lo r h d low high l u)) else none
      | _ => none
    | .dup => match st with
      | a :: r => bif Nat.beq (p_cat a) 1 then p_go nx lo (a :: a :: r) E h else none
      | _ => none
    | .pop => match st with
      | a :: r => bif Nat.beq (p_cat a) 1 then p_go nx lo r E h else none
      | _ => none
    | .dup_x1 => match st with
      | a :: b :: r => bif Nat.beq (p_cat a) 1 && Nat.beq (p_cat b) 1 then p_go nx lo (a :: b :: a :: r) E h else none
      | _ => none
    | .dup2 => match st with
      | a :: b :: r => bif Nat.beq (p_cat a) 1 && Nat.beq (p_cat b) 1 then p_go nx lo (a :: b :: a :: b :: r) E h else none
      | _ => none
    | .getfield _ => match st with
      | .inr (.inl (some (q + 1))) :: r => match p_obj h q with
        | some (ci, fs) => bif Nat.beq ci a1 then (match fs[a2]? with
          | some v => p_go nx lo (v :: r) E h
          | none => none) else none
        | none => none
      | _ => none
    | .putfield _ => match st with
      | v :: .inr (.inl (some (q + 1))) :: r => match p_obj h q with
        | some (ci, fs) => bif Nat.beq ci a1 && Nat.blt a2 fs.length && p_fit (tyOf a1 a2) v then p_go nx lo r E (h.set q (.inr (.inr (.inr (ci, fs.set a2 v))))) else none
        | none => none
      | _ => none
    | .new _ => bif Nat.beq a1 99 then some (.inr (.inr (1, none))) else bif E.1 then some (.inl [(1, p_nF a1, nx, lo, .inr (.inl (some (h.length + 1))) :: st, E, h ++ [.inr (.inr (.inr (a1, p_new a1)))])]) else none
    | .newarray t => match st with
      | .inl (.inl z) :: r => bif E.1 && decide (0 ≤ z) && decide (z ≤ 65536) then
          some (.inl [(1, z.toNat, nx, lo, .inr (.inl (some (h.length + 1))) :: r, E, h ++ [match t with
            | .long => .inr (.inl z.toNat)
            | t => .inl (p_aty t, z.toNat, fun _ => .inl 0)])]) else none
      | _ => none
    | .multianewarray _ _ => match st with
      | .inl (.inl k1) :: .inl (.inl n1) :: r => bif E.1 && decide (0 ≤ k1) && decide (k1 ≤ 65536) && decide (0 ≤ n1) && decide (n1 ≤ 65536) then
          some (.inl [(1 + n1.toNat, n1.toNat + n1.toNat * k1.toNat, nx, lo, .inr (.inl (some (h.length + 1))) :: r, E, p_mna h n1.toNat k1.toNat)]) else none
      | _ => none
    | .iaload => match st with
      | .inl v :: .inr (.inl (some q)) :: r => p_rld L nx lo r E h q v 0
      | _ => none
    | .baload => match st with
      | .inl v :: .inr (.inl (some q)) :: r => p_rld L nx lo r E h q v 1
      | _ => none
    | .caload => match st with
      | .inl v :: .inr (.inl (some q)) :: r => p_rld L nx lo r E h q v 2
      | _ => none
    | .aaload => match st with
      | .inl v :: .inr (.inl (some (q + 1))) :: r => match p_rar h q with
        | some (n, f) => match p_idx E v n with
          | some l => some (.inl (l.map (fun i => (0, 0, nx, lo, .inr (.inl (f i.1)) :: r, i.2, h))))
          | none => none
        | none => none
      | _ => none
    | .iastore => match st with
      | .inl x :: .inl v :: .inr (.inl (some q)) :: r => p_rst nx lo r E h q v x 0
      | _ => none
    | .bastore => match st with
      | .inl x :: .inl v :: .inr (.inl (some q)) :: r => p_rst nx lo r E h q v x 1
      | _ => none
    | .castore => match st with
      | .inl x :: .inl v :: .inr (.inl (some q)) :: r => p_rst nx lo r E h q v x 2
      | _ => none
    | .arraylength => match st with
      | .inr (.inl (some q)) :: r => match p_len L h q with
        | some n => p_go nx lo (.inl (.inl (n : Int)) :: r) E h
        | none => none
      | _ => none
    | .invokestatic _ => bif Nat.beq a1 901 then p_copy nx lo st E h else p_inv a1 a2 nx false lo st E h
    | .invokevirtual _ => match p_inv a1 a2 nx true lo st E h with
      | some (.inr (.inl (c, as, f))) => bif p_rcv c as h then some (.inr (.inl (c, as, f))) else none
      | _ => none
    | .invokespecial _ => bif Nat.beq a1 900 then (match st with
        | .inr (.inl (some (_ + 1))) :: r => bif Nat.ble (p_cats r) 8 then p_go nx lo r E h else none
        | _ => none) else (match p_inv a1 a2 nx true lo st E h with
      | some (.inr (.inl (c, .inr (.inl (some (q + 1))) :: as, f))) => some (.inr (.inl (c, .inr (.inl (some (q + 1))) :: as, f)))
      | _ => none)
    | .ireturn => match st with
      | [.inl v] => match (mth k).2.2.2.2.1 with
        | some .int => some (.inr (.inr (0, some (.inl v))))
        | some .boolean => match v with
          | .inl z => bif decide (z = 0) || decide (z = 1) then some (.inr (.inr (0, some (.inl (.inl z))))) else none
          | _ => none
        | _ => none
      | _ => none
    | .return_ => match st with
      | [] => match (mth k).2.2.2.2.1 with
        | none => some (.inr (.inr (0, none)))
        | _ => none
      | _ => none
    | _ => none
/-- the ways of a list, one behind the other: the most cells and slots of any, all ends -/
def p_all (f : pF → Option pZ) : List (Nat × Nat × pF) → Option pZ
  | [] => some (0, 0, [])
  | q :: r => match f q.2.2 with
    | none => none
    | some (c, s, o) => match p_all f r with
      | none => none
      | some (c2, s2, o2) => some (max (q.1 + c) c2, max (q.2.1 + s) s2, o ++ o2)
/-- behind a call, with what was answered -/
def p_ret (f : pF) (o : pO) : Option (Nat × Nat × pF) := match f, o with
  | (nx, lo, st, _, _), (0, r, (_, _, _, E, h)) => some (0, 0, nx, lo, r.toList ++ st, E, h)
  | _, _ => none
def p_rets (f : pF) : List pO → Option (List (Nat × Nat × pF))
  | [] => some []
  | o :: r => match p_ret f o with
    | none => none
    | some x => match p_rets f r with
      | none => none
      | some xs => some (x :: xs)
/-- a body: X: what a call comes to; stop: a place where it stands still; n: so many steps at most -/
def p_run (L : Nat) (X : Nat → List pA → pE → pH → Option pZ) (k stop : Nat) : Nat → pF → Option pZ
  | 0, _ => none
  | n + 1, (pc, lo, st, E, h) => bif Nat.beq pc stop then some (0, 0, [(2, none, (pc, lo, st, E, h))]) else match p_step L k pc lo st E h with
    | none => none
    | some (.inl l) => p_all (p_run L X k stop n) l
    | some (.inr (.inr (e, r))) => some (bif Nat.beq e 1 then 1 else 0, bif Nat.beq e 1 then 6 else 0, [(e, r, (pc, lo, st, E, h))])
    | some (.inr (.inl (c, as, f))) => match X c as E h with
      | none => none
      | some (mc, ms, os) => match p_rets f os with
        | none => none
        | some l => match p_all (p_run L X k stop n) l with
          | none => none
          | some (c2, s2, o2) => some (mc + c2, ms + s2, o2)
def p_args : Nat → List pA → pL
  | _, [] => []
  | i, a :: as => (i, a) :: p_args (i + p_cat a) as
/-- the law's helpers, which catch what their one call throws: the method that each calls -/
def p_hlp (k : Nat) : Option Nat := bif Nat.beq k 295 then some 117 else bif Nat.beq k 296 then some 118 else bif Nat.beq k 297 then some 130 else bif Nat.beq k 298 then some 162 else none
def p_hout (o : pO) : pO := match o with
  | (e, _, (pc, lo, st, E, h)) => (0, some (.inl (.inl (bif Nat.beq e 1 then 1 else 0))), (pc, lo, st, ((bif Nat.beq e 1 then false else E.1), E.2), h))
/-- a method, so deep -/
def p_exec (L n : Nat) : Nat → Nat → List pA → pE → pH → Option pZ
  | 0, _, _, _, _ => none
  | d + 1, k, as, E, h => match p_hlp k with
    | some kc => (match p_exec L n d kc as.dropLast E h with
      | none => none
      | some (mc, ms, os) => some (mc, ms, os.map p_hout))
    | none => bif Nat.ble (p_cats as) (mth k).2.2.2.1 then p_run L (p_exec L n d) k 1000000 n (0, p_args 0 as, [], E, h) else none
