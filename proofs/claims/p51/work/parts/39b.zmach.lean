/-! Z: the exact machine. Ints are numbers (any that means the same), rows and fields of numbers lie in one table. -/
noncomputable abbrev zA : Type := Int ⊕ (Option Nat ⊕ Int)
noncomputable abbrev zM : Type := Nat → Nat → Int
noncomputable abbrev zL : Type := List (Nat × zA)
noncomputable abbrev zG : Type := Nat × zL × List zA × zM
/-- a number as an int has it, as a long has it -/
noncomputable def z_sm (a : Int) : Bool := match a with
  | .ofNat n => Nat.blt n 2147483648
  | .negSucc n => Nat.blt n 2147483648
noncomputable def z_sl (a : Int) : Bool := match a with
  | .ofNat n => Nat.blt n 9223372036854775808
  | .negSucc n => Nat.blt n 9223372036854775808
noncomputable def wr0 (a : Int) : Int := (a + 2147483648) % 4294967296 - 2147483648
noncomputable def wl0 (a : Int) : Int := (a + 9223372036854775808) % 18446744073709551616 - 9223372036854775808
noncomputable def wr (a : Int) : Int := bif z_sm a then a else wr0 a
noncomputable def wl (a : Int) : Int := bif z_sl a then a else wl0 a
theorem z_smS {a : Int} (h : z_sm a = true) : -2147483648 ≤ a ∧ a ≤ 2147483647 := by
  rcases a with n | n
  · have h1 : n < 2147483648 := q_blt h
    refine ⟨?_, ?_⟩
    · exact Int.le_trans (by decide) (Int.natCast_nonneg n)
    · exact Int.ofNat_le.mpr (Nat.le_of_lt_succ h1)
  · have h1 : n < 2147483648 := q_blt h
    rw [Int.negSucc_eq]
    omega
theorem z_slS {a : Int} (h : z_sl a = true) : -9223372036854775808 ≤ a ∧ a ≤ 9223372036854775807 := by
  rcases a with n | n
  · have h1 : n < 9223372036854775808 := q_blt h
    refine ⟨?_, ?_⟩
    · exact Int.le_trans (by decide) (Int.natCast_nonneg n)
    · exact Int.ofNat_le.mpr (Nat.le_of_lt_succ h1)
  · have h1 : n < 9223372036854775808 := q_blt h
    rw [Int.negSucc_eq]
    omega
theorem wr_def (a : Int) : wr a = (a + 2147483648) % 4294967296 - 2147483648 := by
  unfold wr
  cases h : z_sm a with
  | false =>
    rw [cond_false]
    unfold wr0
    rfl
  | true =>
    rw [cond_true]
    have := z_smS h
    omega
theorem wl_def (a : Int) : wl a = (a + 9223372036854775808) % 18446744073709551616 - 9223372036854775808 := by
  unfold wl
  cases h : z_sl a with
  | false =>
    rw [cond_false]
    unfold wl0
    rfl
  | true =>
    rw [cond_true]
    have := z_slS h
    omega
/-- one slot anew; a piece of a row copied -/
noncomputable def zu (m : zM) (q i : Nat) (v : Int) : zM := fun c j => bif Nat.beq c q && Nat.beq j i then v else m c j
noncomputable def z_cp (m : zM) (q0 q1 sp dp n : Nat) : zM := fun c j => bif Nat.beq c q1 && (Nat.ble dp j && Nat.blt j (dp + n)) then m q0 (sp + (j - dp)) else m c j
noncomputable def z_cat (a : zA) : Nat := match a with
  | .inr (.inr _) => 2
  | _ => 1
noncomputable def z_tag (a : zA) : Nat := match a with
  | .inl _ => 0
  | .inr (.inl _) => 1
  | .inr (.inr _) => 2
noncomputable def z_cats (st : List zA) : Nat := (st.map z_cat).sum
noncomputable def z_lget : zL → Nat → Option zA
  | [], _ => none
  | q :: r, i => bif Nat.beq q.1 i then some q.2 else z_lget r i
noncomputable def z_ins (i : Nat) (a : zA) : zL → zL
  | [] => [(i, a)]
  | q :: r => bif Nat.blt i q.1 then (i, a) :: q :: r else q :: z_ins i a r
noncomputable def z_lset (lo : zL) (i : Nat) (a : zA) : zL := z_ins i a (lo.filter (fun q => !(Nat.beq q.1 i) && !(Nat.beq (q.1 + 1) i && Nat.beq (z_cat q.2) 2)))
noncomputable def z_lset2 (lo : zL) (i : Nat) (a : zA) : zL := z_ins i a (lo.filter (fun q => !(Nat.beq q.1 i) && (!(Nat.beq q.1 (i + 1)) && !(Nat.beq (q.1 + 1) i && Nat.beq (z_cat q.2) 2))))
noncomputable def z_keep (ks : List Nat) (lo : zL) : zL := lo.filter (fun q => ks.any (Nat.beq q.1))
/-- bits -/
noncomputable def z_and (a b : Int) : Int := (Int32.ofInt a &&& Int32.ofInt b).toInt
noncomputable def z_or (a b : Int) : Int := (Int32.ofInt a ||| Int32.ofInt b).toInt
noncomputable def z_xor (a b : Int) : Int := (Int32.ofInt a ^^^ Int32.ofInt b).toInt
noncomputable def z_shl (a b : Int) : Int := (Int32.ofInt a <<< (Int32.ofInt b &&& 31)).toInt
noncomputable def z_shr (a b : Int) : Int := (Int32.ofInt a >>> (Int32.ofInt b &&& 31)).toInt
noncomputable def z_ush (a b : Int) : Int := ((Int32.ofInt a).toUInt32 >>> ((Int32.ofInt b).toUInt32 &&& Int32.toUInt32 31)).toInt32.toInt
noncomputable def z_b8 (a : Int) : Int := (a + 128) % 256 - 128
noncomputable def z_s16 (a : Int) : Int := (a + 32768) % 65536 - 32768
noncomputable def z_lc (a b : Int) : Int := if wl b < wl a then 1 else if wl a = wl b then 0 else -1
/-- the reference's read -/
noncomputable def z_rd (z : Int) : Option Nat := if z = 80 then some 80 else if z = 86 then some 86 else none
noncomputable def z_ci (q : Nat) : Nat := match zkd q with
  | some (.inr (.inr (.inr ci))) => ci
  | _ => 99
noncomputable def z_fk (q k : Nat) : Nat := match (zfs q)[k]? with
  | some f => f
  | none => 998
noncomputable def z_fv (m : zM) (q k : Nat) : zA := bif Nat.beq (z_fk q k) 0 then .inl (m q k) else bif Nat.beq (z_fk q k) 999 then .inr (.inl (z_rd (m q k))) else .inr (.inl (some (z_fk q k)))
/-- a row's type and length; the script's length lies in 110 -/
noncomputable def z_rw (m : zM) (q : Nat) : Option (FieldType × Int) := bif Nat.beq q 0 then some (.int, m 110 0) else match zkd q with
  | some (.inl (ty, n)) => some (ty, (n : Int))
  | _ => none
noncomputable def z_lr (q : Nat) : Option Int := match zkd q with
  | some (.inr (.inl n)) => some (n : Int)
  | _ => none
noncomputable def z_rr (q : Nat) : Option (List Nat) := match zkd q with
  | some (.inr (.inr (.inl cs))) => some cs
  | _ => none
noncomputable def z_ln (m : zM) (q : Nat) : Option Int := match z_rw m q with
  | some (_, n) => some n
  | none => match z_lr q with
    | some n => some n
    | none => match z_rr q with
      | some cs => some (cs.length : Int)
      | none => none
noncomputable def z_ix (i n : Int) : Prop := 0 ≤ wr i ∧ wr i < n
noncomputable def z_tst (c : ClassFile.Cond) (x y : Int) : Prop := match c with
  | .eq => x = y
  | .ne => ¬ x = y
  | .lt => x < y
  | .ge => ¬ x < y
  | .gt => y < x
  | .le => ¬ y < x
noncomputable def z_tab (w : Int) (pc : Nat) (G : Nat → Prop) (d : Int) : Int → List Int → Prop
  | _, [] => G ((pc : Int) + d).toNat
  | z, o :: os => (w = z → G ((pc : Int) + o).toNat) ∧ (¬ w = z → z_tab w pc G d (z + 1) os)
noncomputable def z_look (w : Int) (pc : Nat) (G : Nat → Prop) (d : Int) : List (Int × Int) → Prop
  | [] => G ((pc : Int) + d).toNat
  | q :: r => (w = q.1 → G ((pc : Int) + q.2).toNat) ∧ (¬ w = q.1 → z_look w pc G d r)
noncomputable def z_sp (w : Int) (G : Nat → Prop) : Int → List Nat → Prop
  | _, [] => True
  | z, c :: r => (w = z → G c) ∧ z_sp w G (z + 1) r
noncomputable def z_take : Nat → List zA → List zA → Option (List zA × List zA)
  | 0, acc, st => some (acc, st)
  | _ + 1, _, [] => none
  | n + 1, acc, a :: st => z_take n (a :: acc) st
/-- what a row of the type keeps as it is -/
noncomputable def z_fit (ty : FieldType) (v : Int) : Prop := match ty with
  | .int => True
  | .byte => -128 ≤ wr v ∧ wr v ≤ 127
  | .boolean => 0 ≤ wr v ∧ wr v ≤ 1
  | .char => 0 ≤ wr v ∧ wr v ≤ 65535
  | _ => False
noncomputable def z_ld (lo : zL) (n t : Nat) (G : zA → Prop) : Prop := match z_lget lo n with
  | some a => bif Nat.beq (z_tag a) t then G a else False
  | none => False
noncomputable def z_st (st : List zA) (n t L : Nat) (G : zA → List zA → Prop) : Prop := match st with
  | a :: r => bif Nat.beq (z_tag a) t && Nat.blt (bif Nat.beq t 2 then n + 1 else n) L then G a r else False
  | [] => False
noncomputable def z_o2 (st : List zA) (G : Int → Int → List zA → Prop) : Prop := match st with
  | .inl b :: .inl a :: r => G a b r
  | _ => False
noncomputable def z_o1 (st : List zA) (G : Int → List zA → Prop) : Prop := match st with
  | .inl a :: r => G a r
  | _ => False
noncomputable def z_l2 (st : List zA) (G : Int → Int → List zA → Prop) : Prop := match st with
  | .inr (.inr b) :: .inr (.inr a) :: r => G a b r
  | _ => False
/-- a read out of a row, a store into one -/
noncomputable def z_rdR (m : zM) (st : List zA) (kind : Nat) (G : Int → List zA → Prop) : Prop := match st with
  | .inl i :: .inr (.inl (some q)) :: r => (match z_rw m q with
    | some (ty, n) => bif p_is ty kind then z_ix i n ∧ G (m q (wr i).toNat) r else False
    | none => False)
  | _ => False
noncomputable def z_wrR (m : zM) (st : List zA) (kind : Nat) (G : zM → List zA → Prop) : Prop := match st with
  | .inl v :: .inl i :: .inr (.inl (some q)) :: r => bif Nat.beq q 0 then False else (match z_rw m q with
    | some (ty, n) => bif p_is ty kind then (z_ix i n ∧ z_fit ty v) ∧ G (zu m q (wr i).toNat v) r else False
    | none => False)
  | _ => False
noncomputable def z_copy (m : zM) (st : List zA) (G : zM → List zA → Prop) : Prop := match st with
  | .inl n :: .inl dp :: .inr (.inl (some q1)) :: .inl sp :: .inr (.inl (some q0)) :: r => bif Nat.beq q0 q1 || (Nat.beq q0 0 || (Nat.beq q1 0 || !(Nat.ble (z_cats r) 8))) then False else (match z_rw m q0 with
    | some (t0, n0) => match z_rw m q1 with
      | some (t1, n1) => bif p_is t0 0 && p_is t1 0 then (0 ≤ wr sp ∧ 0 ≤ wr dp ∧ 0 ≤ wr n ∧ wr sp + wr n ≤ n0 ∧ wr dp + wr n ≤ n1) ∧ G (z_cp m q0 q1 (wr sp).toNat (wr dp).toNat (wr n).toNat) r else False
      | none => False
    | none => False)
  | _ => False
/-- a field -/
noncomputable def z_gf (m : zM) (q k : Nat) (G : zA → Prop) : Prop := bif Nat.beq (z_fk q k) 999 then (m q k = 80 ∨ m q k = 86) ∧ (m q k = 80 → G (.inr (.inl (some 80)))) ∧ (m q k = 86 → G (.inr (.inl (some 86)))) else G (z_fv m q k)
noncomputable def z_ffit (ty : FieldType) (v : Int) : Prop := match ty with
  | .int => True
  | .boolean => 0 ≤ wr v ∧ wr v ≤ 1
  | _ => False
noncomputable def z_isA (ty : FieldType) : Bool := match ty with
  | .array _ => true
  | _ => false
noncomputable def z_pf (m : zM) (q ci k : Nat) (v : zA) (G : zM → Prop) : Prop := bif Nat.beq (z_fk q k) 0 then (match v with
    | .inl a => z_ffit (tyOf ci k) a ∧ G (zu m q k a)
    | _ => False) else bif Nat.beq (z_fk q k) 999 then (match v with
    | .inr (.inl (some w)) => bif (Nat.beq w 80 || Nat.beq w 86) && z_isA (tyOf ci k) then G (zu m q k (w : Int)) else False
    | _ => False) else False
noncomputable def z_inv (a1 a2 : Nat) (rc : Bool) (st : List zA) (C : List zA → List zA → Prop) : Prop := match z_take (bif rc then a2 + 1 else a2) [] st with
  | some (as, rs) => bif Nat.ble (z_cats rs) 8 && Nat.blt a1 303 then C as rs else False
  | none => False
noncomputable def z_rcv (a1 : Nat) (as : List zA) (P : Prop) : Prop := match as with
  | .inr (.inl (some q)) :: _ => bif Nat.beq (z_ci q) (mcl a1) then P else False
  | _ => False
noncomputable def z_ret (k : Nat) (v : Int) (P : Prop) : Prop := match mR k with
  | some .int => P
  | some .boolean => (0 ≤ wr v ∧ wr v ≤ 1) ∧ P
  | _ => False
/-- one step: G behind it, C at a call (method, what it takes, behind it), R at an answer, T at a throw -/
noncomputable def z_one (k : Nat) (G : zG → Prop) (C : Nat → List zA → zG → Prop) (R : Option zA → zM → Prop) (T : zM → Prop) (pc : Nat) (lo : zL) (st : List zA) (m : zM) : Prop := match ins k pc with
  | none => False
  | some (i, nx, a1, a2, _, z) => match i with
    | .iconst c => G (nx, lo, .inl c :: st, m)
    | .bipush c => bif s_le (-128) c && s_le c 127 then G (nx, lo, .inl c :: st, m) else False
    | .sipush c => bif s_le (-32768) c && s_le c 32767 then G (nx, lo, .inl c :: st, m) else False
    | .ldc _ => bif Nat.beq a1 0 then G (nx, lo, .inl z :: st, m) else False
    | .ldc_w _ => bif Nat.beq a1 0 then G (nx, lo, .inl z :: st, m) else False
    | .ldc2_w _ => bif Nat.beq a1 0 && Nat.beq nx (pc + 3) then G (nx, lo, .inr (.inr z) :: st, m) else False
    | .lconst c => G (nx, lo, .inr (.inr ((c.val : Nat) : Int)) :: st, m)
    | .iload_n n => z_ld lo n.val 0 (fun a => G (nx, lo, a :: st, m))
    | .iload n => z_ld lo n 0 (fun a => G (nx, lo, a :: st, m))
    | .aload_n n => z_ld lo n.val 1 (fun a => G (nx, lo, a :: st, m))
    | .aload n => z_ld lo n 1 (fun a => G (nx, lo, a :: st, m))
    | .lload_n n => z_ld lo n.val 2 (fun a => G (nx, lo, a :: st, m))
    | .lload n => bif Nat.beq nx (pc + 2) then z_ld lo n 2 (fun a => G (nx, lo, a :: st, m)) else False
    | .istore_n n => z_st st n.val 0 (mL k) (fun a r => G (nx, z_lset lo n.val a, r, m))
    | .istore n => z_st st n 0 (mL k) (fun a r => G (nx, z_lset lo n a, r, m))
    | .astore_n n => z_st st n.val 1 (mL k) (fun a r => G (nx, z_lset lo n.val a, r, m))
    | .astore n => z_st st n 1 (mL k) (fun a r => G (nx, z_lset lo n a, r, m))
    | .lstore_n n => z_st st n.val 2 (mL k) (fun a r => G (nx, z_lset2 lo n.val a, r, m))
    | .lstore n => bif Nat.beq nx (pc + 2) then z_st st n 2 (mL k) (fun a r => G (nx, z_lset2 lo n a, r, m)) else False
    | .iinc n c => bif Nat.blt n (mL k) then (match z_lget lo n with
      | some (.inl v) => G (nx, z_lset lo n (.inl (v + c)), st, m)
      | _ => False) else False
    | .iadd => z_o2 st (fun a b r => G (nx, lo, .inl (a + b) :: r, m))
    | .isub => z_o2 st (fun a b r => G (nx, lo, .inl (a - b) :: r, m))
    | .imul => z_o2 st (fun a b r => G (nx, lo, .inl (a * b) :: r, m))
    | .iand => z_o2 st (fun a b r => G (nx, lo, .inl (z_and a b) :: r, m))
    | .ior => z_o2 st (fun a b r => G (nx, lo, .inl (z_or a b) :: r, m))
    | .ixor => z_o2 st (fun a b r => G (nx, lo, .inl (z_xor a b) :: r, m))
    | .ishl => z_o2 st (fun a b r => G (nx, lo, .inl (z_shl a b) :: r, m))
    | .ishr => z_o2 st (fun a b r => G (nx, lo, .inl (z_shr a b) :: r, m))
    | .iushr => z_o2 st (fun a b r => G (nx, lo, .inl (z_ush a b) :: r, m))
    | .idiv => z_o2 st (fun a b r => ¬ wr b = 0 ∧ G (nx, lo, .inl (Int.tdiv (wr a) (wr b)) :: r, m))
    | .irem => z_o2 st (fun a b r => ¬ wr b = 0 ∧ G (nx, lo, .inl (Int.tmod (wr a) (wr b)) :: r, m))
    | .ineg => z_o1 st (fun a r => G (nx, lo, .inl (-a) :: r, m))
    | .i2b => z_o1 st (fun a r => G (nx, lo, .inl (z_b8 a) :: r, m))
    | .i2s => z_o1 st (fun a r => G (nx, lo, .inl (z_s16 a) :: r, m))
    | .i2c => z_o1 st (fun a r => G (nx, lo, .inl (a % 65536) :: r, m))
    | .i2l => z_o1 st (fun a r => G (nx, lo, .inr (.inr (wr a)) :: r, m))
    | .l2i => match st with
      | .inr (.inr a) :: r => G (nx, lo, .inl (wl a) :: r, m)
      | _ => False
    | .ladd => z_l2 st (fun a b r => G (nx, lo, .inr (.inr (a + b)) :: r, m))
    | .lmul => z_l2 st (fun a b r => G (nx, lo, .inr (.inr (a * b)) :: r, m))
    | .ldiv => z_l2 st (fun a b r => ¬ wl b = 0 ∧ G (nx, lo, .inr (.inr (Int.tdiv (wl a) (wl b))) :: r, m))
    | .lrem => z_l2 st (fun a b r => ¬ wl b = 0 ∧ G (nx, lo, .inr (.inr (Int.tmod (wl a) (wl b))) :: r, m))
    | .lcmp => z_l2 st (fun a b r => G (nx, lo, .inl (z_lc a b) :: r, m))
    | .ifCond c _ => z_o1 st (fun a r => (z_tst c (wr a) 0 → G (a1, lo, r, m)) ∧ (¬ z_tst c (wr a) 0 → G (nx, lo, r, m)))
    | .if_icmp c _ => z_o2 st (fun a b r => (z_tst c (wr a) (wr b) → G (a1, lo, r, m)) ∧ (¬ z_tst c (wr a) (wr b) → G (nx, lo, r, m)))
    | .goto _ => G (a1, lo, st, m)
    | .tableswitch d low high os => bif decide (high - low + 1 = (os.size : Int)) then z_o1 st (fun a r => z_tab (wr a) pc (fun t => G (t, lo, r, m)) d low os.toList) else False
    | .lookupswitch d ps => bif (ps.toList.zip (ps.toList.drop 1)).all (fun q => decide (q.1.1 < q.2.1)) && ps.toList.all (fun q => s_le 0 ((pc : Int) + q.2)) && s_le 0 ((pc : Int) + d) then z_o1 st (fun a r => z_look (wr a) pc (fun t => G (t, lo, r, m)) d ps.toList) else False
    | .dup => match st with
      | a :: r => bif Nat.beq (z_cat a) 1 then G (nx, lo, a :: a :: r, m) else False
      | _ => False
    | .pop => match st with
      | a :: r => bif Nat.beq (z_cat a) 1 then G (nx, lo, r, m) else False
      | _ => False
    | .dup_x1 => match st with
      | a :: b :: r => bif Nat.beq (z_cat a) 1 && Nat.beq (z_cat b) 1 then G (nx, lo, a :: b :: a :: r, m) else False
      | _ => False
    | .dup2 => match st with
      | a :: b :: r => bif Nat.beq (z_cat a) 1 && Nat.beq (z_cat b) 1 then G (nx, lo, a :: b :: a :: b :: r, m) else False
      | _ => False
    | .getfield _ => match st with
      | .inr (.inl (some q)) :: r => bif Nat.beq (z_ci q) a1 then z_gf m q a2 (fun v => G (nx, lo, v :: r, m)) else False
      | _ => False
    | .putfield _ => match st with
      | v :: .inr (.inl (some q)) :: r => bif Nat.beq (z_ci q) a1 then z_pf m q a1 a2 v (fun m1 => G (nx, lo, r, m1)) else False
      | _ => False
    | .iaload => z_rdR m st 0 (fun v r => G (nx, lo, .inl v :: r, m))
    | .baload => z_rdR m st 1 (fun v r => G (nx, lo, .inl v :: r, m))
    | .caload => z_rdR m st 2 (fun v r => G (nx, lo, .inl v :: r, m))
    | .iastore => z_wrR m st 0 (fun m1 r => G (nx, lo, r, m1))
    | .bastore => z_wrR m st 1 (fun m1 r => G (nx, lo, r, m1))
    | .castore => z_wrR m st 2 (fun m1 r => G (nx, lo, r, m1))
    | .laload => match st with
      | .inl i :: .inr (.inl (some q)) :: r => (match z_lr q with
        | some n => z_ix i n ∧ G (nx, lo, .inr (.inr (m q (wr i).toNat)) :: r, m)
        | none => False)
      | _ => False
    | .lastore => match st with
      | .inr (.inr v) :: .inl i :: .inr (.inl (some q)) :: r => (match z_lr q with
        | some n => z_ix i n ∧ G (nx, lo, r, zu m q (wr i).toNat v)
        | none => False)
      | _ => False
    | .aaload => match st with
      | .inl i :: .inr (.inl (some q)) :: r => (match z_rr q with
        | some cs => z_ix i (cs.length : Int) ∧ z_sp (wr i) (fun c => G (nx, lo, .inr (.inl (some c)) :: r, m)) 0 cs
        | none => False)
      | _ => False
    | .arraylength => match st with
      | .inr (.inl (some q)) :: r => (match z_ln m q with
        | some n => G (nx, lo, .inl n :: r, m)
        | none => False)
      | _ => False
    | .invokestatic _ => bif Nat.beq a1 901 then z_copy m st (fun m1 r => G (nx, lo, r, m1)) else z_inv a1 a2 false st (fun as rs => C a1 as (nx, lo, rs, m))
    | .invokevirtual _ => z_inv a1 a2 true st (fun as rs => z_rcv a1 as (C a1 as (nx, lo, rs, m)))
    | .ireturn => match st with
      | [.inl v] => z_ret k v (R (some (.inl (wr v))) m)
      | _ => False
    | .lreturn => match st with
      | [.inr (.inr v)] => (match mR k with
        | some .long => R (some (.inr (.inr v))) m
        | _ => False)
      | _ => False
    | .return_ => match st with
      | [] => (match mR k with
        | none => R none m
        | _ => False)
      | _ => False
    | .new _ => bif Nat.beq a1 99 && Nat.ble (z_cats st) 8 then T m else False
    | _ => False
noncomputable def z_stop : List (Nat × List Nat) → zG → Option zG
  | [], _ => none
  | s :: r, g => bif Nat.beq s.1 g.1 then some (g.1, z_keep s.2 g.2.1, g.2.2.1, g.2.2.2) else z_stop r g
/-- a block: at most n steps, up to the places of stp, where only some locals are kept -/
noncomputable def z_blk (stp : List (Nat × List Nat)) (k : Nat) (G : zG → Prop) (C : Nat → List zA → zG → Prop) (R : Option zA → zM → Prop) (T : zM → Prop) : Nat → zG → Prop
  | 0, g => G g
  | n + 1, g => z_one k (fun g1 => match z_stop stp g1 with
    | some g2 => G g2
    | none => z_blk stp k G C R T n g1) C R T g.1 g.2.1 g.2.2.1 g.2.2.2
