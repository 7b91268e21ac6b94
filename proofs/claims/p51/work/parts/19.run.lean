/-! A body's run. -/
/-- the ways of a list, one behind the other: the most cells and slots of any, all ends -/
noncomputable def s_all (f : sG → Option sZ) : List (Nat × Nat × sG) → Option sZ
  | [] => some (0, 0, [])
  | q :: r => match f q.2.2 with
    | none => none
    | some (c, s, o) => match s_all f r with
      | none => none
      | some (c2, s2, o2) => some (max (q.1 + c) c2, max (q.2.1 + s) s2, o ++ o2)
/-- behind a call, with what was answered -/
noncomputable def s_ret1 (f : sG) (o : sO) : Option (Nat × Nat × sG) := match f, o with
  | (nx, lo, st, _, _), (0, r, (_, _, _, E, h)) => some (0, 0, nx, lo, r.toList ++ st, E, h)
  | _, _ => none
noncomputable def s_rets (f : sG) : List sO → Option (List (Nat × Nat × sG))
  | [] => some []
  | o :: r => match s_ret1 f o with
    | none => none
    | some x => match s_rets f r with
      | none => none
      | some xs => some (x :: xs)
/-- a body: X: what a call comes to, so deep; stp: where it stands still; n: so many steps at most -/
noncomputable def s_run (X : sF → Nat → List sA → sE → sH → Option sZ) (dp : sF) (k : Nat) (stp : sG → Bool) : Nat → sG → Option sZ
  | 0, _ => none
  | n + 1, (pc, lo, st, E, h) => bif stp (pc, lo, st, E, h) then some (0, 0, [(2, none, (pc, lo, st, E, h))]) else match s_hook k (pc, lo, st, E, h) with
    | some g => s_run X dp k stp n g
    | none => match s_step k pc lo st E h with
    | none => none
    | some (.inl l) => s_all (s_run X dp k stp n) l
    | some (.inr (.inr (e, r))) => some (bif Nat.beq e 1 then 1 else 0, bif Nat.beq e 1 then 6 else 0, [(e, r, (pc, lo, st, E, h))])
    | some (.inr (.inl (c, as, f))) => match X dp c as E h with
      | none => none
      | some (mc, ms, os) => match s_rets f os with
        | none => none
        | some l => match s_all (s_run X dp k stp n) l with
          | none => none
          | some (c2, s2, o2) => some (mc + c2, ms + s2, o2)
noncomputable def s_args : Nat → List sA → sL
  | _, [] => []
  | i, a :: as => (i, a) :: s_args (i + s_cat a) as
theorem s_allS {f : sG → Option sZ} : ∀ {l : List (Nat × Nat × sG)} {c s : Nat} {o : List sO}, s_all f l = some (c, s, o) → ∀ q ∈ l, ∃ c1 s1 o1, f q.2.2 = some (c1, s1, o1) ∧ q.1 + c1 ≤ c ∧ q.2.1 + s1 ≤ s ∧ ∀ x ∈ o1, x ∈ o
  | [], _, _, _, _, q, hq => nomatch hq
  | q0 :: l, c, s, o, h, q, hq => by
    unfold s_all at h
    split at h
    · cases h
    · rename_i c1 s1 o1 h1
      split at h
      · cases h
      · rename_i c2 s2 o2 h2
        cases h
        rcases List.mem_cons.mp hq with rfl | hq
        · exact ⟨c1, s1, o1, h1, Nat.le_max_left _ _, Nat.le_max_left _ _, fun x hx => List.mem_append_left _ hx⟩
        · obtain ⟨c3, s3, o3, g1, g2, g3, g4⟩ := s_allS h2 q hq
          exact ⟨c3, s3, o3, g1, Nat.le_trans g2 (Nat.le_max_right _ _), Nat.le_trans g3 (Nat.le_max_right _ _), fun x hx => List.mem_append_right _ (g4 x hx)⟩
theorem s_retsS {f : sG} : ∀ {os : List sO} {l : List (Nat × Nat × sG)}, s_rets f os = some l → ∀ o ∈ os, ∃ x, s_ret1 f o = some x ∧ x ∈ l
  | [], _, _, o, ho => nomatch ho
  | o0 :: os, l, h, o, ho => by
    unfold s_rets at h
    split at h
    · cases h
    · rename_i x hx
      split at h
      · cases h
      · rename_i xs hxs
        cases h
        rcases List.mem_cons.mp ho with rfl | ho
        · exact ⟨x, hx, List.mem_cons_self⟩
        · obtain ⟨y, g1, g2⟩ := s_retsS hxs o ho
          exact ⟨y, g1, List.mem_cons_of_mem _ g2⟩
theorem s_takeS {rv : List Int} {ad : Nat → Nat} : ∀ {n : Nat} {acc st as rs : List sA} {va vs : List Value}, s_take n acc st = some (as, rs) → q_L rv ad acc va → q_L rv ad st vs → ∃ ws vr, vs = ws ++ vr ∧ q_L rv ad as (ws.reverse ++ va) ∧ q_L rv ad rs vr ∧ ws.length = n
  | 0, acc, st, as, rs, va, vs, h, ha, hs => by
    cases h
    exact ⟨[], vs, rfl, ha, hs, rfl⟩
  | n + 1, acc, [], as, rs, va, vs, h, ha, hs => by cases h
  | n + 1, acc, a :: st, as, rs, va, vs, h, ha, hs => by
    obtain ⟨v, vs', rfl, hv, hs'⟩ := hs
    obtain ⟨ws, vr, e, g1, g2, g3⟩ := s_takeS (n := n) (acc := a :: acc) (va := v :: va) h ⟨_, _, rfl, hv, ha⟩ hs'
    refine ⟨v :: ws, vr, by rw [e]; rfl, ?_, g2, by rw [List.length_cons, g3]⟩
    rw [List.reverse_cons, List.append_assoc]
    exact g1
/-- a call's place: which instruction, what it takes -/
noncomputable def q_Site (k pc nx c : Nat) (st as rs : List sA) (h : sH) : Prop := ∃ (x a2 a3 : Nat) (z : Int),
  (ins k pc = some (.invokestatic x, nx, c, a2, a3, z) ∧ s_take a2 [] st = some (as, rs)) ∨
  (ins k pc = some (.invokevirtual x, nx, c, a2, a3, z) ∧ s_take (a2 + 1) [] st = some (as, rs) ∧ s_rcv c as h = true) ∨
  (ins k pc = some (.invokespecial x, nx, c, a2, a3, z) ∧ Nat.beq c 900 = false ∧ s_take (a2 + 1) [] st = some (as, rs) ∧ ∃ q as', as = .inr (.inl (some q)) :: as')
theorem q_site {k pc c : Nat} {lo : sL} {st as : List sA} {E : sE} {h : sH} {f : sG} (hs : s_step k pc lo st E h = some (.inr (.inl (c, as, f)))) : ∃ nx rs, f = (nx, lo, rs, E, h) ∧ s_cats rs ≤ 8 ∧ c < 303 ∧ q_Site k pc nx c st as rs h := by
  unfold s_step at hs
  cases hi : ins k pc with
  | none => rw [hi] at hs; cases hs
  | some row =>
    rw [hi] at hs
    obtain ⟨i, nx, a1, a2, a3, z⟩ := row
    have inv : ∀ {rc : Bool}, s_inv a1 a2 nx rc lo st E h = some (.inr (.inl (c, as, f))) → a1 = c ∧ ∃ rs, f = (nx, lo, rs, E, h) ∧ s_cats rs ≤ 8 ∧ c < 303 ∧ s_take (bif rc then a2 + 1 else a2) [] st = some (as, rs) := by
      intro rc hv
      unfold s_inv at hv
      split at hv
      · rename_i as2 rs ht
        simp only [cond_eq_ite, Bool.and_eq_true] at hv
        split at hv
        · rename_i hh
          cases hv
          exact ⟨rfl, rs, rfl, Nat.le_of_ble_eq_true hh.1, q_blt hh.2, ht⟩
        · cases hv
      · cases hv
    cases i <;> dsimp only at hs
    case invokestatic x =>
      cases h901 : Nat.beq a1 901 with
      | true =>
        rw [h901] at hs
        simp only [cond_true, s_copy, s_go] at hs
        repeat' (split at hs <;> try (cases hs; done))
        all_goals (simp only [cond_eq_ite] at hs; split at hs <;> cases hs)
      | false =>
        rw [h901] at hs
        obtain ⟨rfl, rs, g1, g2, g3, g4⟩ := inv hs
        exact ⟨nx, rs, g1, g2, g3, x, a2, a3, z, Or.inl ⟨hi, g4⟩⟩
    case invokevirtual x =>
      split at hs
      · rename_i c2 as2 f2 hv
        simp only [cond_eq_ite] at hs
        split at hs
        · rename_i hr
          cases hs
          obtain ⟨rfl, rs, g1, g2, g3, g4⟩ := inv hv
          exact ⟨nx, rs, g1, g2, g3, x, a2, a3, z, Or.inr (Or.inl ⟨hi, g4, hr⟩)⟩
        · cases hs
      · cases hs
    case invokespecial x =>
      cases h900 : Nat.beq a1 900 with
      | true =>
        rw [h900] at hs
        simp only [cond_true, s_go] at hs
        repeat' (split at hs <;> try (cases hs; done))
        all_goals (simp only [cond_eq_ite] at hs; split at hs <;> cases hs)
      | false =>
        rw [h900] at hs
        simp only [cond_false] at hs
        split at hs
        · rename_i c2 q as2 f2 hv
          cases hs
          obtain ⟨rfl, rs, g1, g2, g3, g4⟩ := inv hv
          exact ⟨nx, rs, g1, g2, g3, x, a2, a3, z, Or.inr (Or.inr ⟨hi, h900, g4, q, as2, rfl⟩)⟩
        · cases hs
    all_goals (try simp only [s_go, s_gox, s_br, s_gets, s_puts, s_op2, s_op2o, s_op1, s_lop2, s_ldv, s_andI, s_rld, s_rst, s_ret] at hs)
    all_goals (first | (cases hs; done) | skip)
    all_goals (repeat' (split at hs <;> try (cases hs; done)))
    all_goals (first | (cases hs; done) | (simp only [cond_eq_ite] at hs; repeat' (split at hs <;> try (cases hs; done))) | skip)
