/-! The checks by numbers, and that they give c_row. -/
noncomputable def wq (i : Nat) (e : wE) : Bool := match n_we i with
  | some f => Nat.beq f.1 e.1 && (Nat.beq f.2.1 e.2.1 && (Nat.beq f.2.2.1 e.2.2.1 && (Nat.beq f.2.2.2.1 e.2.2.2.1 && decide (f.2.2.2.2 = e.2.2.2.2))))
  | none => false
theorem wq_g {i : Nat} {e : wE} (h : wq i e = true) : lw_g i = some (wOf e) := by
  unfold wq at h
  cases hw : n_we i with
  | none => rw [hw] at h; cases h
  | some f =>
    rw [hw] at h
    simp only [Bool.and_eq_true, decide_eq_true_eq] at h
    obtain ⟨h1, h2, h3, h4, h5⟩ := h
    have e1 : f = e := Prod.ext (Nat.eq_of_beq_eq_true h1) (Prod.ext (Nat.eq_of_beq_eq_true h2) (Prod.ext (Nat.eq_of_beq_eq_true h3) (Prod.ext (Nat.eq_of_beq_eq_true h4) h5)))
    rw [← e1]
    exact n_weO i f hw
theorem wq_at {i : Nat} {e : wE} {w : Cond} (h : wq i e = true) (hw : wOf e = w) (hg : goodWord w = true) : wAt i w = true := by
  unfold wAt
  rw [Bool.and_eq_true]
  exact ⟨decide_eq_true ((wq_g h).trans (congrArg some hw)), hg⟩
theorem fld_all : vwCl.all (fun q => (List.range q.2.2).all (fun f => decide ((q.2.1 f).1 = q.1))) = true := by decide +kernel
theorem cls_all : (List.range 292).all (fun a1 => !Nat.blt a1 292 || c_cls a1) = true := by decide +kernel
theorem cls_allB {a1 : Nat} (h : Nat.blt a1 292 = true) : a1 < 292 := by
  exact Nat.le_of_ble_eq_true h
theorem cls_allA {a1 : Nat} (h : Nat.blt a1 292 = true) : c_cls a1 = true := by
  have := List.all_eq_true.mp cls_all a1 (List.mem_range.mpr (cls_allB h))
  rw [h] at this
  exact this
noncomputable def n_fld (k x a1 a2 a3 : Nat) : Bool := match vwCl[a1]? with
  | some q => Nat.blt a2 q.2.2 && wq a3 (1, n_rp k, x, a1, (a2 : Int))
  | none => false
noncomputable def n_new (k x a1 a3 : Nat) : Bool := Nat.beq a1 99 || (match vwCl[a1]? with
  | some _ => wq a3 (2, n_rp k, x, a1, 0)
  | none => false)
noncomputable def n_I (k pc : Nat) : pR → Bool
  | (i, nx, a1, a2, a3, z) => match i with
    | .ldc x => !(Nat.beq a1 0) || wq a3 (8, n_rp k, x, 0, z)
    | .ldc_w x => !(Nat.beq a1 0) || wq a3 (8, n_rp k, x, 0, z)
    | .ldc2_w x => !(Nat.beq a1 0) || wq a3 (9, n_rp k, x, 0, z)
    | .getfield x => n_fld k x a1 a2 a3
    | .putfield x => n_fld k x a1 a2 a3 && c_fin k a1 a2
    | .new x => n_new k x a1 a3
    | .multianewarray x d => wq a3 (3, n_rp k, x, 0, 0) && Nat.beq d 2
    | .invokestatic x => bif Nat.beq a1 901 then wq a3 (5, n_rp k, x, 0, 0) else
        Nat.ble nMth a1 || (wq a3 (4, n_rp k, x, a1, 0) && wq (mW a1).2.2.1 (10, a1, 0, 0, 0) && Nat.beq a2 (mP a1))
    | .invokevirtual x => Nat.ble nMth a1 || (c_plain a1 && wq a3 (4, n_rp k, x, a1, 0) && wq (mW a1).2.2.1 (11, a1, 0, 0, 0) && wq (mW a1).2.2.2 (12, a1, 0, 0, 0) && Nat.blt a1 292 && Nat.beq a2 (mP a1))
    | .invokespecial x => bif Nat.beq a1 900 then wq a3 (6, n_rp k, x, 0, 0) else
        Nat.ble nMth a1 || (c_plain a1 && (bif decide (z = 1) then wq a3 (7, n_rp k, x, a1, 0) else wq a3 (4, n_rp k, x, a1, 0)) && wq (mW a1).2.2.1 (11, a1, 0, 0, 0) && decide ((mY a1).name = "<init>") && decide (mR a1 = none) && Nat.beq a2 (mP a1))
    | _ => c_I k pc (i, nx, a1, a2, a3, z)
theorem n_fldS {k x a1 a2 a3 : Nat} (hk : k < 303) (h : n_fld k x a1 a2 a3 = true) : c_fld k x a1 a2 a3 = true := by
  unfold n_fld at h
  unfold c_fld
  cases hq : vwCl[a1]? with
  | none => rw [hq] at h; cases h
  | some q =>
    rw [hq] at h
    simp only [Bool.and_eq_true] at h ⊢
    have h1 := List.all_eq_true.mp fld_all q (List.mem_of_getElem? hq)
    have h2 := List.all_eq_true.mp h1 a2 (List.mem_range.mpr (Nat.le_of_ble_eq_true h.1))
    refine ⟨⟨h.1, wq_at h.2 ?_ rfl⟩, h2⟩
    show wFd (n_rp k) x ((a2 : Int)).toNat vwCl[a1]? = _
    rw [hq, Int.toNat_natCast]
    show Cond.fieldLink (nY (n_rp k)).cls x q.1 (q.2.1 a2).2.1 (q.2.1 a2).2.2.1 = _
    rw [n_rpO hk]
theorem n_newS {k x a1 a3 : Nat} (hk : k < 303) (h : n_new k x a1 a3 = true) : c_new k x a1 a3 = true := by
  unfold n_new at h
  unfold c_new
  rw [Bool.or_eq_true] at h ⊢
  rcases h with h | h
  · exact Or.inl h
  · refine Or.inr ?_
    cases hq : vwCl[a1]? with
    | none => rw [hq] at h; cases h
    | some q =>
      rw [hq] at h
      refine wq_at h ?_ rfl
      show wCl (n_rp k) x vwCl[a1]? = _
      rw [hq]
      show Cond.classLink (nY (n_rp k)).cls x q.1 = _
      rw [n_rpO hk]
set_option maxHeartbeats 4000000 in
theorem n_IS {k pc : Nat} {q : pR} (hk : k < 303) (h : n_I k pc q = true) : c_I k pc q = true := by
  obtain ⟨i, nx, a1, a2, a3, z⟩ := q
  have ek := n_rpO hk
  have cs : ∀ {x : Nat} {z : Int}, wq a3 (8, n_rp k, x, 0, z) = true → wAt a3 (.constant (mY k).cls x (Int32.ofInt z)) = true := fun h => wq_at h (by rw [← ek]; rfl) rfl
  have cl : ∀ {x : Nat} {z : Int}, wq a3 (9, n_rp k, x, 0, z) = true → wAt a3 (.constantLong (mY k).cls x (Int64.ofInt z)) = true := fun h => wq_at h (by rw [← ek]; rfl) rfl
  have ml : ∀ {x a : Nat}, wq a3 (4, n_rp k, x, a, 0) = true → wAt a3 (.methodLink (mY k).cls x (mY a)) = true := fun h => wq_at h (by rw [← ek]; rfl) rfl
  have im : ∀ {i a : Nat}, wq i (11, a, 0, 0, 0) = true → wAt i (.instanceMethod (mY a)) = true := fun h => wq_at h rfl rfl
  cases i
  all_goals first
    | exact h
    | (unfold n_I at h; unfold c_I; dsimp only at h ⊢
       first
         | exact n_fldS hk h
         | exact n_newS hk h
         | (rw [Bool.and_eq_true] at h ⊢; exact ⟨n_fldS hk h.1, h.2⟩)
         | (rw [Bool.or_eq_true] at h ⊢; exact h.imp id (fun h => cs h))
         | (rw [Bool.or_eq_true] at h ⊢; exact h.imp id (fun h => cl h))
         | (rw [Bool.and_eq_true] at h ⊢; exact ⟨wq_at h.1 (by rw [← ek]; rfl) rfl, h.2⟩)
         | (rw [Bool.or_eq_true] at h ⊢
            refine h.imp id (fun h => ?_)
            simp only [Bool.and_eq_true] at h ⊢
            obtain ⟨⟨⟨⟨⟨h1, h2⟩, h3⟩, h4⟩, h5⟩, h6⟩ := h
            exact ⟨⟨⟨⟨⟨h1, ml h2⟩, im h3⟩, wq_at h4 rfl rfl⟩, cls_allA h5⟩, h6⟩)
         | (cases hb : Nat.beq a1 901 with
            | true =>
              rw [hb] at h
              exact wq_at h (by rw [← ek]; rfl) rfl
            | false =>
              rw [hb] at h
              simp only [cond_false] at h ⊢
              rw [Bool.or_eq_true] at h ⊢
              refine h.imp id (fun h => ?_)
              simp only [Bool.and_eq_true] at h ⊢
              exact ⟨⟨ml h.1.1, wq_at h.1.2 rfl rfl⟩, h.2⟩)
         | (cases hb : Nat.beq a1 900 with
            | true =>
              rw [hb] at h
              exact wq_at h (by rw [← ek]; rfl) rfl
            | false =>
              rw [hb] at h
              simp only [cond_false] at h ⊢
              rw [Bool.or_eq_true] at h ⊢
              refine h.imp id (fun h => ?_)
              simp only [Bool.and_eq_true] at h ⊢
              obtain ⟨⟨⟨⟨⟨h1, h2⟩, h3⟩, h4⟩, h5⟩, h6⟩ := h
              refine ⟨⟨⟨⟨⟨h1, ?_⟩, im h3⟩, h4⟩, h5⟩, h6⟩
              cases hz : decide (z = 1) with
              | true =>
                rw [hz] at h2
                simp only [cond_true] at h2 ⊢
                exact decide_eq_true ((wq_g h2).trans (by rw [← ek]; rfl))
              | false =>
                rw [hz] at h2
                simp only [cond_false] at h2 ⊢
                exact ml h2))
/-- a row, with what is left of the bytes -/
noncomputable def n_rw (k pc : Nat) (bs : List Nat) : Bool := match ins k pc with
  | none => true
  | some q => Nat.blt pc q.2.1 && ((dchk q.1 bs (q.2.1 - pc) || decide (decode (mC k) pc = .ok (q.1, q.2.1 - pc))) && n_I k pc q)
theorem n_rowS {k pc : Nat} {bs : List Nat} (hk : k < 303) (h : n_rw k pc bs = true) (hb : bsat (mC k) pc bs) : c_row k pc = true := by
  unfold n_rw at h
  unfold c_row
  cases hi : ins k pc with
  | none => rfl
  | some q =>
    rw [hi] at h
    simp only [Bool.and_eq_true, Bool.or_eq_true, decide_eq_true_eq] at h ⊢
    refine ⟨⟨h.1, ?_⟩, n_IS hk h.2.2⟩
    rcases h.2.1 with h1 | h1
    · exact dchkS h1 hb
    · exact h1
noncomputable def n_go (k : Nat) : List Nat → Nat → Bool
  | [], _ => true
  | b :: t, pc => n_rw k pc (b :: t) && n_go k t (pc + 1)
noncomputable def n_bs (k : Nat) : List Nat := (mC k).data.toList.map UInt8.toNat
theorem n_goS {k : Nat} (hk : k < 303) : ∀ (bs : List Nat) (pc : Nat), n_go k bs pc = true → bsat (mC k) pc bs → ∀ j, j < bs.length → c_row k (pc + j) = true
  | [], _, _, _, j, hj => absurd hj (Nat.not_lt_zero j)
  | b :: t, pc, h, hb, j, hj => by
    unfold n_go at h
    rw [Bool.and_eq_true] at h
    match j with
    | 0 => exact n_rowS hk h.1 hb
    | j + 1 =>
      rw [show pc + (j + 1) = pc + 1 + j by omega]
      refine n_goS hk t (pc + 1) h.2 (fun i v hi => ?_) j (by simpa using hj)
      rw [show pc + 1 + i = pc + (i + 1) by omega]
      exact hb (i + 1) v hi
theorem n_bsat (c : ByteArray) : bsat c 0 (c.data.toList.map UInt8.toNat) := fun j v h => by
  rw [List.getElem?_map, Option.map_eq_some_iff] at h
  obtain ⟨u, h1, rfl⟩ := h
  obtain ⟨h2, h3⟩ := List.getElem?_eq_some_iff.mp h1
  rw [Nat.zero_add]
  refine ⟨by simpa using h2, ?_⟩
  rw [← h3]
  rfl
noncomputable def n_meth (k : Nat) : Bool := decide ((n_bs k).length = mN k) && n_go k (n_bs k) 0
theorem n_methS {k : Nat} (hk : k < 303) (h : n_meth k = true) (pc : Nat) (hp : pc < mN k) : c_row k pc = true := by
  unfold n_meth at h
  rw [Bool.and_eq_true] at h
  have := n_goS hk (n_bs k) 0 h.2 (n_bsat (mC k)) pc (by rw [of_decide_eq_true h.1]; exact hp)
  rw [Nat.zero_add] at this
  exact this
noncomputable def n_M (k : Nat) : Bool := wq (mW k).1 (13, k, 0, 0, 0) && wq (mW k).2.1 (14, n_rp k, 0, 0, 0) && plainFor (mY k) && decide ((mY k).cls ≠ "java/lang/invoke/MethodHandle") && decide ((mY k).cls ≠ "java/lang/invoke/VarHandle") && decide ((parseMethodDescriptor (mY k).desc).map (fun d => d.parameters.length) = some (mP k)) && Nat.ble (mL k) 40
theorem n_MS {k : Nat} (hk : k < 303) (h : n_M k = true) : c_M k = true := by
  unfold n_M at h
  unfold c_M
  simp only [Bool.and_eq_true] at h ⊢
  obtain ⟨⟨⟨⟨⟨⟨h1, h2⟩, h3⟩, h4⟩, h5⟩, h6⟩, h7⟩ := h
  exact ⟨⟨⟨⟨⟨⟨wq_at h1 rfl rfl, wq_at h2 (by show Cond.initialized (nY (n_rp k)).cls = _; rw [n_rpO hk]) rfl⟩, h3⟩, h4⟩, h5⟩, h6⟩, h7⟩
