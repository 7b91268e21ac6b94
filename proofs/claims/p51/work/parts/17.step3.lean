/-! Switches, fields, rows. -/
theorem q_fldW {k x a1 a2 a3 : Nat} (h : c_fld k x a1 a2 a3 = true) : ∃ q, vwCl[a1]? = some q ∧ a2 < q.2.2 ∧ Cond.fieldLink (mY k).cls x q.1 (q.2.1 a2).2.1 (q.2.1 a2).2.2.1 ∈ tb ∧ (q.2.1 a2).1 = q.1 := by
  unfold c_fld at h
  split at h
  · rename_i q hq
    simp only [Bool.and_eq_true, decide_eq_true_eq] at h
    exact ⟨q, hq, q_blt h.1.1, wAt_mem h.1.2, h.2⟩
  · cases h
theorem q_finW {k a1 a2 : Nat} {q : vw_C} (h : c_fin k a1 a2 = true) (hq : vwCl[a1]? = some q) : (q.2.1 a2).2.2.2 = false ∨ ((mY k).name = "<init>" ∧ (q.2.1 a2).1 = (mY k).cls) := by
  simp only [c_fin, hq, Bool.or_eq_true, Bool.and_eq_true, decide_eq_true_eq, Bool.not_eq_true'] at h
  exact h
theorem q_fitW {rs : List Int} {ad : Nat → Nat} {E : sE} {ty : FieldType} {a : sA} {v : Value} (hE : q_E rs E) (h : s_ffit E ty a = true) (hv : q_A rs ad a v) : narrow ty v = v ∧ fits ty v = true := by
  unfold s_ffit at h
  split at h
  · obtain ⟨y, rfl, -⟩ := hv
    exact ⟨rfl, rfl⟩
  · obtain ⟨y, rfl, hy⟩ := hv
    obtain ⟨h1, h2⟩ := s_inIS hE hy h
    have h1 : 0 ≤ y.toInt := h1
    have h2 : y.toInt ≤ 1 := h2
    have hc : y = 0 ∨ y = 1 := by
      by_cases h0 : y.toInt = 0
      · exact Or.inl (Int32.toInt_inj.mp h0)
      · exact Or.inr (Int32.toInt_inj.mp (show y.toInt = 1 by omega))
    rcases hc with rfl | rfl
    · exact ⟨rfl, rfl⟩
    · exact ⟨rfl, rfl⟩
  · rename_i o
    have e : v = q_rf ad o := hv
    subst e
    rcases o with _ | o <;> exact ⟨rfl, rfl⟩
  · rename_i o
    have e : v = q_rf ad o := hv
    subst e
    rcases o with _ | o <;> exact ⟨rfl, rfl⟩
  · cases h
theorem s_tabM {E : sE} {v : sF} {x : Int} {pc : Nat} {lo : sL} {st : List sA} {h : sH} {l u : Int} (h1 : l ≤ x) (h2 : x ≤ u) : ∀ (os : List Int) (z : Int), z ≤ x → x < z + (os.length : Int) →
    ∃ off, os[(x - z).toNat]? = some off ∧ (0, 0, ((pc : Int) + off).toNat, lo, st, s_eqA E v x, h) ∈ s_tab E v pc lo st h l u z os
  | [], z, a, b => by simp at b; omega
  | o :: os, z, a, b => by
    by_cases he : x = z
    · refine ⟨o, by rw [he]; simp, ?_⟩
      unfold s_tab
      rw [← he, s_le_iff.mpr h1, s_le_iff.mpr h2]
      exact List.mem_cons_self
    · obtain ⟨off, g1, g2⟩ := s_tabM (E := E) (v := v) (pc := pc) (lo := lo) (st := st) (h := h) h1 h2 os (z + 1) (by omega) (by simp at b; omega)
      refine ⟨off, ?_, ?_⟩
      · rw [show (x - z).toNat = (x - (z + 1)).toNat + 1 by omega]
        simpa using g1
      · unfold s_tab
        cases s_le l z && s_le z u with
        | true => exact List.mem_cons_of_mem _ g2
        | false => exact g2
theorem s_lookM {rs : List Int} {E : sE} {v : sF} {x : Int} {pc : Nat} {lo : sL} {st : List sA} {h : sH} {l u d : Int} (hE : q_E rs E) (hv : s_val rs v = some x) (h1 : l ≤ x) (h2 : x ≤ u) : ∀ (ps : List (Int × Int)) (D : List sE), (∃ e ∈ D, q_E rs e ∧ e.1 = E.1) →
    ∃ e, (0, 0, ((pc : Int) + Op.lookupswitch.offset ps d x).toNat, lo, st, e, h) ∈ s_look E v pc lo st h l u d ps D ∧ q_E rs e ∧ e.1 = E.1
  | [], D, ⟨e, a, b⟩ => ⟨e, List.mem_map.mpr ⟨e, a, rfl⟩, b⟩
  | (kz, o) :: ps, D, ⟨e, a, b1, b2⟩ => by
    unfold s_look
    rw [Op.lookupswitch.offset_cons]
    by_cases he : kz = x
    · rw [if_pos he]
      subst he
      rw [s_le_iff.mpr h1, s_le_iff.mpr h2]
      obtain ⟨z1, z2⟩ := s_eqAS hE hv rfl
      exact ⟨_, List.mem_cons_self, z1, z2⟩
    · rw [if_neg he]
      cases s_le l kz && s_le kz u with
      | false => exact s_lookM hE hv h1 h2 ps D ⟨e, a, b1, b2⟩
      | true =>
        obtain ⟨e2, c1, c2, c3⟩ := s_nesS (z := kz) b1 hv (fun q => he q.symm)
        obtain ⟨e3, d1, d2⟩ := s_lookM (pc := pc) (lo := lo) (st := st) (h := h) (d := d) hE hv h1 h2 ps (D.flatMap (fun e => s_nes e v kz)) ⟨e2, List.mem_flatMap.mpr ⟨e, a, c1⟩, c2, c3.trans b2⟩
        exact ⟨e3, List.mem_cons_of_mem _ d1, d2⟩
theorem s_offMem {d x : Int} : ∀ {ps : List (Int × Int)}, Op.lookupswitch.offset ps d x = d ∨ ∃ q ∈ ps, Op.lookupswitch.offset ps d x = q.2
  | [] => Or.inl rfl
  | (a, o) :: r => by
    rw [Op.lookupswitch.offset_cons]
    by_cases h : a = x
    · rw [if_pos h]
      exact Or.inr ⟨(a, o), List.mem_cons_self, rfl⟩
    · rw [if_neg h]
      rcases s_offMem (d := d) (x := x) (ps := r) with h | ⟨q, h1, h2⟩
      · exact Or.inl h
      · exact Or.inr ⟨q, List.mem_cons_of_mem _ h1, h2⟩
theorem s_spanM {rs : List Int} {ad : Nat → Nat} {E : sE} {v : sF} {x : Int} {nx : Nat} {lo : sL} {st : List sA} {h : sH} (hE : q_E rs E) (hv : s_val rs v = some x) : ∀ (cs : List (Option Nat)) (z : Int), z ≤ x → x < z + (cs.length : Int) →
    ∃ c e, cs[(x - z).toNat]? = some c ∧ (0, 0, nx, lo, .inr (.inl c) :: st, e, h) ∈ s_span E v nx lo st h z cs ∧ q_E rs e ∧ e.1 = E.1
  | [], z, a, b => by simp at b; omega
  | c :: cs, z, a, b => by
    unfold s_span
    by_cases he : x = z
    · have hm : s_may E v z = true := by
        unfold s_may
        split
        · rename_i i hi
          obtain ⟨i1, i2⟩ := s_bndS hE hi hv
          rw [s_le_iff.mpr (show i.1 ≤ z by omega), s_le_iff.mpr (show z ≤ i.2 by omega)]
          rfl
        · rfl
      rw [hm]
      obtain ⟨z1, z2⟩ := s_eqAS hE hv he
      exact ⟨c, _, by rw [he]; simp, List.mem_cons_self, z1, z2⟩
    · obtain ⟨c2, e, g1, g2, g3⟩ := s_spanM (ad := ad) (nx := nx) (lo := lo) (st := st) (h := h) hE hv cs (z + 1) (by omega) (by simp at b; omega)
      refine ⟨c2, e, ?_, ?_, g3⟩
      · rw [show (x - z).toNat = (x - (z + 1)).toNat + 1 by omega]
        simpa using g1
      · cases s_may E v z with
        | true => exact List.mem_cons_of_mem _ g2
        | false => exact g2
theorem q_ofn (n : Nat) : n.toInt32 = Int32.ofInt (n : Int) := Int32.ofInt_eq_ofNat.symm
/-- an index -/
theorem q_idx {rs : List Int} {E : sE} {len f : sF} {n : Nat} {x : Int32} (hE : q_E rs E) (hl : s_val rs len = some (n : Int)) (hf : s_val rs f = some x.toInt) (h : s_ix E len f = true) : vp_in x n ∧ x.toNatClampNeg < n ∧ x.toInt = (x.toNatClampNeg : Int) := by
  obtain ⟨h1, h2⟩ := s_ixS hE hl hf h
  have e : x.toInt = ((x.toInt.toNat : Nat) : Int) := by omega
  exact ⟨vp_in_iff.mpr ⟨h1, h2⟩, by show x.toInt.toNat < n; omega, e⟩
section Step3
variable {p : Program} {l : Launch} {e : Env} {R : Room} {s : State} {m : MethodId} {args : Array Value} {below : List Frame} {meth : Method} {c : Code} {H : Heap} {locs : List Loc} {cells slots : Nat} {Q : State → Prop}
variable {dC : Nat → ClassId} {dI : Nat → Nat → Nat} {dA : FieldType → ClassId} {rs : List Int} {ad : Nat → Nat} {Hb H0 : Heap} {k pc nx a1 a2 a3 : Nat} {z : Int} {lo : sL} {st : List sA} {E : sE} {h : sH} {ls : Array Slot} {vs : List Value} {l0 : List (Nat × Nat × sG)}
theorem q_tsw {d low high : Int} {os : Array Int} (C : q_Ctx p R s m args meth c dC dI dA Hb k) (hi : ins k pc = some (.tableswitch d low high os, nx, a1, a2, a3, z)) (hs : ((match st with
      | .inl x :: r => match s_bnd E x with
        | some (lw, u) => bif decide (high - low + 1 = (os.size : Int)) then some (.inl (s_tab E x pc lo r h lw u low os.toList ++ s_tabO E x pc lo r h d low high lw u)) else none
        | none => none
      | _ => none) : Option sS) = some (.inl l0)) (F : q_Fr dC dI dA rs ad Hb H0 (mL k) (pc, lo, st, E, h) ls vs H locs) (kk : q_KK p l e R s m args below meth c cells slots Q dC dI dA rs ad Hb H0 k l0) : W p l e R s m args below meth c H locs cells slots Q (F0 m pc ls vs) := by
  obtain ⟨hx, hb, hml, hown, hts, hK, hnm, hRf, hRl⟩ := C
  obtain ⟨hlo, hst, hE, hG, hlc⟩ := F
  have hc := (q_rowI hi).2.2.1
  have hd := (q_rowI hi).2.1
  simp only [c_I, Bool.and_eq_true, decide_eq_true_eq] at hc
  split at hs
  · rename_i v rr
    obtain ⟨w, vs', rfl, ⟨x, rfl, hxx⟩, hst'⟩ := hst
    split at hs
    · rename_i lw u hbn
      obtain ⟨v1, v2⟩ := s_bndS hE hbn hxx
      have v1 : lw ≤ x.toInt := v1
      have v2 : x.toInt ≤ u := v2
      simp only [cond_eq_ite, decide_eq_true_eq] at hs
      split at hs
      · rename_i hsz
        cases hs
        by_cases hin : low ≤ x.toInt ∧ x.toInt ≤ high
        · obtain ⟨off, g1, g2⟩ := s_tabM (E := E) (v := v) (pc := pc) (lo := lo) (st := rr) (h := h) v1 v2 os.toList low hin.1 (by rw [Array.length_toList]; omega)
          have hoff : 0 ≤ (pc : Int) + off := of_decide_eq_true (List.all_eq_true.mp hc.2 off (List.mem_of_getElem? g1))
          refine lv_tableIn (tgt := ((pc : Int) + off).toNat) hx hb hd (by omega) (by omega) (by rw [← Array.getElem?_toList]; exact g1) (by rw [Int.toNat_of_nonneg hoff]) ?_
          obtain ⟨z1, z2⟩ := s_eqAS hE hxx rfl
          exact kk _ (List.mem_append_left _ g2) [] ls vs' H locs (by rw [List.append_nil]; exact ⟨hlo, hst', z1, hG.env z2, hlc⟩)
        · refine lv_tableOut (tgt := ((pc : Int) + d).toNat) hx hb hd (by omega) (by rw [Int.toNat_of_nonneg hc.1]) ?_
          by_cases hlow : x.toInt < low
          · obtain ⟨z1, z2⟩ := s_geS hE (s_subS (s_numS (low - 1)) hxx) (by omega)
            exact kk (0, 0, ((pc : Int) + d).toNat, lo, rr, s_ge E (s_sub (s_num (low - 1)) v), h) (List.mem_append_right _ (List.mem_append_left _ (by
              rw [s_le_iff.mpr (show lw ≤ low - 1 by omega)]
              exact List.mem_singleton.mpr rfl))) [] ls vs' H locs (by rw [List.append_nil]; exact ⟨hlo, hst', z1, hG.env z2, hlc⟩)
          · obtain ⟨z1, z2⟩ := s_geS hE (s_subS hxx (s_numS (high + 1))) (by omega)
            exact kk (0, 0, ((pc : Int) + d).toNat, lo, rr, s_ge E (s_sub v (s_num (high + 1))), h) (List.mem_append_right _ (List.mem_append_right _ (by
              rw [s_le_iff.mpr (show high + 1 ≤ u by omega)]
              exact List.mem_singleton.mpr rfl))) [] ls vs' H locs (by rw [List.append_nil]; exact ⟨hlo, hst', z1, hG.env z2, hlc⟩)
      · cases hs
    · cases hs
  · cases hs
theorem q_lsw {d : Int} {ps : Array (Int × Int)} (C : q_Ctx p R s m args meth c dC dI dA Hb k) (hi : ins k pc = some (.lookupswitch d ps, nx, a1, a2, a3, z)) (hs : ((match st with
      | .inl x :: r => match s_bnd E x with
        | some (lw, u) => bif (ps.toList.zip (ps.toList.drop 1)).all (fun q => decide (q.1.1 < q.2.1)) && ps.toList.all (fun q => s_le 0 ((pc : Int) + q.2)) && s_le 0 ((pc : Int) + d) then some (.inl (s_look E x pc lo r h lw u d ps.toList [E])) else none
        | none => none
      | _ => none) : Option sS) = some (.inl l0)) (F : q_Fr dC dI dA rs ad Hb H0 (mL k) (pc, lo, st, E, h) ls vs H locs) (kk : q_KK p l e R s m args below meth c cells slots Q dC dI dA rs ad Hb H0 k l0) : W p l e R s m args below meth c H locs cells slots Q (F0 m pc ls vs) := by
  obtain ⟨hx, hb, hml, hown, hts, hK, hnm, hRf, hRl⟩ := C
  obtain ⟨hlo, hst, hE, hG, hlc⟩ := F
  have hd := (q_rowI hi).2.1
  split at hs
  · rename_i v rr
    obtain ⟨w, vs', rfl, ⟨x, rfl, hxx⟩, hst'⟩ := hst
    split at hs
    · rename_i lw u hbn
      obtain ⟨v1, v2⟩ := s_bndS hE hbn hxx
      simp only [cond_eq_ite, Bool.and_eq_true] at hs
      split at hs
      · rename_i hh
        cases hs
        obtain ⟨e1, g1, g2, g3⟩ := s_lookM (pc := pc) (lo := lo) (st := rr) (h := h) (d := d) hE hxx v1 v2 ps.toList [E] ⟨E, List.mem_singleton.mpr rfl, hE, rfl⟩
        have hoff : 0 ≤ (pc : Int) + Op.lookupswitch.offset ps.toList d x.toInt := by
          rcases s_offMem (d := d) (x := x.toInt) (ps := ps.toList) with h1 | ⟨q, h1, h2⟩
          · rw [h1]
            exact s_le_iff.mp hh.2
          · rw [h2]
            exact s_le_iff.mp (List.all_eq_true.mp hh.1.2 q h1)
        refine lv_lookup (tgt := ((pc : Int) + Op.lookupswitch.offset ps.toList d x.toInt).toNat) hx hb hd hh.1.1 rfl (by rw [Int.toNat_of_nonneg hoff]) ?_
        exact kk _ g1 [] ls vs' H locs (by rw [List.append_nil]; exact ⟨hlo, hst', g2, hG.env g3, hlc⟩)
      · cases hs
    · cases hs
  · cases hs
theorem q_getf {ci : Nat} (C : q_Ctx p R s m args meth c dC dI dA Hb k) (hi : ins k pc = some (.getfield ci, nx, a1, a2, a3, z)) (hs : ((match st with
      | .inr (.inl (some q)) :: r => match s_obj h q with
        | some (cj, fs) => bif Nat.beq cj a1 then (match fs[a2]? with
          | some v => s_go nx lo (v :: r) E h
          | none => none) else none
        | none => none
      | _ => none) : Option sS) = some (.inl l0)) (F : q_Fr dC dI dA rs ad Hb H0 (mL k) (pc, lo, st, E, h) ls vs H locs) (kk : q_KK p l e R s m args below meth c cells slots Q dC dI dA rs ad Hb H0 k l0) : W p l e R s m args below meth c H locs cells slots Q (F0 m pc ls vs) := by
  obtain ⟨hx, hb, hml, hown, hts, hK, hnm, hRf, hRl⟩ := C
  obtain ⟨hlo, hst, hE, hG, hlc⟩ := F
  obtain ⟨en, hd⟩ := q_dec (n := 3) hi rfl
  subst en
  have hc := (q_rowI hi).2.2.1
  obtain ⟨w, hw1, hw2, hw3, hw4⟩ := q_fldW hc
  split at hs
  · rename_i q rr
    obtain ⟨v0, vs', rfl, hv0, hst'⟩ := hst
    split at hs
    · rename_i cj fs ho
      cases hj : Nat.beq cj a1 with
      | false => rw [hj] at hs; cases hs
      | true =>
        rw [hj] at hs
        have ej := Nat.eq_of_beq_eq_true hj
        subst ej
        simp only [cond_true] at hs
        split at hs
        · rename_i v hv
          obtain ⟨-, -, us, w2, g1, g2, g3⟩ := q_obj hG ho
          cases Option.some.inj (hw1.symm.trans g2)
          obtain ⟨x, gx1, gx2⟩ := g1.get hv
          have hv0' : v0 = .ref (ad q) := hv0
          subst hv0'
          exact q_get (D := (dC, dI)) hx hb hts (q_clsA _ _ hw1).1 hown hK.1 g3 hw1 a2 hw2 (hts _ hw3) hw4 gx1 hd (q_go hs kk ⟨hlo, ⟨_, _, rfl, gx2, hst'⟩, hE, hG, hlc⟩)
        · cases hs
    · cases hs
  · cases hs
theorem q_putf {ci : Nat} (C : q_Ctx p R s m args meth c dC dI dA Hb k) (hi : ins k pc = some (.putfield ci, nx, a1, a2, a3, z)) (hs : ((match st with
      | v :: .inr (.inl (some q)) :: r => match s_obj h q with
        | some (cj, fs) => bif Nat.beq cj a1 && Nat.blt a2 fs.length && s_ffit E (tyOf a1 a2) v then s_go nx lo r E (s_hset h q (.inr (.inr (.inr (cj, fs.set a2 v))))) else none
        | none => none
      | _ => none) : Option sS) = some (.inl l0)) (F : q_Fr dC dI dA rs ad Hb H0 (mL k) (pc, lo, st, E, h) ls vs H locs) (kk : q_KK p l e R s m args below meth c cells slots Q dC dI dA rs ad Hb H0 k l0) : W p l e R s m args below meth c H locs cells slots Q (F0 m pc ls vs) := by
  obtain ⟨hx, hb, hml, hown, hts, hK, hnm, hRf, hRl⟩ := C
  obtain ⟨hlo, hst, hE, hG, hlc⟩ := F
  obtain ⟨en, hd⟩ := q_dec (n := 3) hi rfl
  subst en
  have hc := (q_rowI hi).2.2.1
  have hc' : c_fld k ci a1 a2 a3 = true ∧ c_fin k a1 a2 = true := by simpa only [c_I, Bool.and_eq_true] using hc
  obtain ⟨w, hw1, hw2, hw3, hw4⟩ := q_fldW hc'.1
  split at hs
  · rename_i v q rr
    obtain ⟨v0, vs', rfl, hv0, v1, vs2, rfl, hv1, hst'⟩ := hst
    split at hs
    · rename_i cj fs ho
      simp only [cond_eq_ite, Bool.and_eq_true] at hs
      split at hs
      · rename_i hh
        have ej := Nat.eq_of_beq_eq_true hh.1.1
        subst ej
        have hl : a2 < fs.length := q_blt hh.1.2
        obtain ⟨gk, gb, us, w2, g1, g2, g3⟩ := q_obj hG ho
        cases Option.some.inj (hw1.symm.trans g2)
        have hv1' : v1 = .ref (ad q) := hv1
        subst hv1'
        obtain ⟨f1, f2⟩ := q_fitW hE hh.2 hv0
        have hcl := q_clsA _ _ hw1
        refine q_put (D := (dC, dI)) hx hb hts hcl.1 (tyOf cj) hcl.2.1 hcl.2.2.1 hown hK.1 g3 hw1 a2 hw2 (hts _ hw3) hw4 ((q_finW hc'.2 hw1).imp id (fun q => ⟨hnm q.1, q.2⟩)) f1 f2 (by rw [g1.len]; exact hl) hd (fun H1 sl z1 z2 z3 => ?_)
        exact q_go hs kk ⟨hlo, hst', hE, hG.set gk rfl gb z1 z2 ⟨gb, _, _, g1.set hv0, hw1, z3⟩, fun q hq => by
          rcases List.mem_append.mp hq with hq | hq
          · exact hlc q hq
          · rw [List.mem_singleton.mp hq]
            exact gb⟩
      · cases hs
    · cases hs
  · cases hs
theorem q_isT {ty : FieldType} {kind : Nat} (h : p_is ty kind = true) : (kind = 0 ∧ ty = .int) ∨ (kind = 1 ∧ ty = .byte) ∨ (kind = 1 ∧ ty = .boolean) ∨ (kind = 2 ∧ ty = .char) := by
  unfold p_is at h
  split at h <;> first | (cases h; done) | simp
theorem q_ofT {ty : FieldType} {kind : Nat} (h : p_is ty kind = true) (hK : q_K dC dI dA Hb s) : ArrOfT s (dA ty) ty := by
  rcases q_isT h with ⟨-, rfl⟩ | ⟨-, rfl⟩ | ⟨-, rfl⟩ | ⟨-, rfl⟩
  · exact (hK.1.2 0 _ rfl).1
  · exact (hK.1.2 1 _ rfl).1
  · exact (hK.1.2 2 _ rfl).1
  · exact (hK.1.2 3 _ rfl).1
noncomputable def q_ldI : Nat → Instr
  | 0 => .iaload
  | 1 => .baload
  | _ => .caload
noncomputable def q_stI : Nat → Instr
  | 0 => .iastore
  | 1 => .bastore
  | _ => .castore
theorem s_bool1 (x : Int32) : (0 : Int) ≤ (x &&& 1).toInt ∧ (x &&& 1).toInt ≤ 1 ∧ ((0 : Int) ≤ x.toInt → x.toInt ≤ 1 → x &&& 1 = x) := by
  have hb := s_andB (x := x) (y := 1) (by decide)
  have e1 : (1 : Int32).toInt = 1 := rfl
  refine ⟨hb.1, by omega, fun h1 h2 => ?_⟩
  by_cases h0 : x.toInt = 0
  · rw [show x = 0 from Int32.toInt_inj.mp h0]
    rfl
  · rw [show x = 1 from Int32.toInt_inj.mp (by show x.toInt = 1; omega)]
    rfl
theorem s_nrwS {ty : FieldType} {kind : Nat} {x : sF} {y : Int32} (h : p_is ty kind = true) (hE : q_E rs E) (hx : s_val rs x = some y.toInt) : q_R rs E (s_nrw ty E x) (q_keep ty y) := by
  rcases q_isT h with ⟨-, rfl⟩ | ⟨-, rfl⟩ | ⟨-, rfl⟩ | ⟨-, rfl⟩
  · exact s_same hE hx
  · show q_R rs E _ (vp_nar .byte y)
    rw [vp_nar_byte]
    exact s_convR (f := fun x => x.toInt8.toInt32) hE hx (q_i2bB y).1 (q_i2bB y).2.1 (q_i2bB y).2.2
  · exact s_convR (f := fun x => x &&& 1) hE hx (s_bool1 y).1 (s_bool1 y).2.1 (s_bool1 y).2.2
  · show q_R rs E _ (vp_nar .char y)
    rw [vp_nar_char, ← lg_i2c_nf]
    exact s_convR (f := fun x => (x.toUInt32 % 65536).toInt32) hE hx (q_i2cB y).1 (q_i2cB y).2.1 (q_i2cB y).2.2
theorem q_rld {kind : Nat} (C : q_Ctx p R s m args meth c dC dI dA Hb k) (hi : ins k pc = some (q_ldI kind, nx, a1, a2, a3, z)) (hs : ((match st with
      | .inl v :: .inr (.inl (some q)) :: r => s_rld nx lo r E h q v kind
      | _ => none) : Option sS) = some (.inl l0)) (F : q_Fr dC dI dA rs ad Hb H0 (mL k) (pc, lo, st, E, h) ls vs H locs) (kk : q_KK p l e R s m args below meth c cells slots Q dC dI dA rs ad Hb H0 k l0) : W p l e R s m args below meth c H locs cells slots Q (F0 m pc ls vs) := by
  obtain ⟨hx, hb, hml, hown, hts, hK, hnm, hRf, hRl⟩ := C
  obtain ⟨hlo, hst, hE, hG, hlc⟩ := F
  have hlen : c_lenI (q_ldI kind) = some 1 := by rcases kind with _ | _ | kind <;> rfl
  obtain ⟨en, hd⟩ := q_dec (n := 1) hi hlen
  subst en
  split at hs
  · rename_i v q rr
    obtain ⟨w, vs', rfl, ⟨x, rfl, hxx⟩, w2, vs2, rfl, hw2, hst'⟩ := hst
    unfold s_rld at hs
    split at hs
    · rename_i ro ha
      cases hty : p_is ro.1 kind with
      | false => rw [hty] at hs; cases hs
      | true =>
        cases hix : s_ix E ro.2.1 v with
        | false => rw [hty, hix] at hs; cases hs
        | true =>
          rw [hty, hix] at hs
          simp only [Bool.and_self, cond_true] at hs
          split at hs
          · rename_i E1 xv ro1 hrd
            obtain ⟨gk, n, g, g1, g2, g3, g4⟩ := q_row hG ha
            obtain ⟨i1, i2, i3⟩ := q_idx hE g2.1 hxx hix
            rw [i3] at hxx
            obtain ⟨y, r1, r2, r3, r4, r5, r6⟩ := s_rdS hE g2 hxx i2 hrd
            have e2 : w2 = .ref (ad q) := hw2
            subst e2
            have hop : s_nil ro1.2.1.1 = s_nil ro.2.1.1 := by rw [show ro1.2.1 = ro.2.1 from r6]
            have fin : W p l e R s m args below meth c H locs cells slots Q (F0 m (pc + 1) ls (.int (g x.toNatClampNeg) :: vs2)) := by
              refine q_goE (x := y) hs kk ⟨hlo.mono y, ⟨_, _, rfl, ⟨_, rfl, r2⟩, hst'.mono y⟩, r1, ((hG.mono y).env r4).tell gk hop ⟨n, g, g1.as rfl r5 hop, r3, ?_, ?_⟩, hlc⟩
              · rw [show ro1.1 = ro.1 from r5]
                exact g3
              · rw [show ro1.2.1 = ro.2.1 from r6]
                exact g4
            rcases g1 with g1 | ⟨⟨s0, s1, s2, s3⟩, scr, t1, t2, t3, t4⟩
            · refine q_ld hx hb (q_ofT hty hK) g1 i1 hd ?_ fin
              rcases q_isT hty with ⟨rfl, e1⟩ | ⟨rfl, e1⟩ | ⟨rfl, e1⟩ | ⟨rfl, e1⟩ <;> simp [q_ldI, e1]
            · have ek : kind = 0 := by rcases q_isT hty with ⟨e, -⟩ | ⟨-, e⟩ | ⟨-, e⟩ | ⟨-, e⟩ <;> first | exact e | (rw [s0] at e; cases e)
              subst ek
              have hsc : Hb[dA .short]? = some scr := by
                rw [← s2, ← hG.1 _ s3]
                exact t1
              exact W.iald (v := .int (g x.toNatClampNeg)) hx hb t1 (hK.2.2.1.2 scr hsc) t2 (by rw [t3]; exact i1) (t4 _ i2) rfl rfl hd fin
          · cases hs
    · cases hs
  · cases hs
theorem q_rst {kind : Nat} (C : q_Ctx p R s m args meth c dC dI dA Hb k) (hi : ins k pc = some (q_stI kind, nx, a1, a2, a3, z)) (hs : ((match st with
      | .inl x :: .inl v :: .inr (.inl (some q)) :: r => s_rst nx lo r E h q v x kind
      | _ => none) : Option sS) = some (.inl l0)) (F : q_Fr dC dI dA rs ad Hb H0 (mL k) (pc, lo, st, E, h) ls vs H locs) (kk : q_KK p l e R s m args below meth c cells slots Q dC dI dA rs ad Hb H0 k l0) : W p l e R s m args below meth c H locs cells slots Q (F0 m pc ls vs) := by
  obtain ⟨hx, hb, hml, hown, hts, hK, hnm, hRf, hRl⟩ := C
  obtain ⟨hlo, hst, hE, hG, hlc⟩ := F
  have hlen : c_lenI (q_stI kind) = some 1 := by rcases kind with _ | _ | kind <;> rfl
  obtain ⟨en, hd⟩ := q_dec (n := 1) hi hlen
  subst en
  split at hs
  · rename_i xv v q rr
    obtain ⟨w, vs', rfl, ⟨y, rfl, hy⟩, w1, vs1, rfl, ⟨x, rfl, hxx⟩, w2, vs2, rfl, hw2, hst'⟩ := hst
    unfold s_rst at hs
    split at hs
    · rename_i ro ha
      cases hty : p_is ro.1 kind with
      | false => rw [hty] at hs; cases hs
      | true =>
        cases hix : s_ix E ro.2.1 v with
        | false => rw [hty, hix] at hs; cases hs
        | true =>
          rw [hty, hix] at hs
          simp only [Bool.and_self, cond_true] at hs
          obtain ⟨gk, n, g, g1, g2, g3, g4⟩ := q_row hG ha
          obtain ⟨i1, i2, i3⟩ := q_idx hE g2.1 hxx hix
          rw [i3] at hxx
          have hR := s_nrwS hty hE hy
          generalize s_nrw ro.1 E xv = X at hs hR
          obtain ⟨E1, x1⟩ := X
          obtain ⟨u, r1, r2, r3⟩ := hR
          simp only at hs
          split at hs
          · rename_i ro1 hwr
            obtain ⟨s1, s2, s3, s4⟩ := s_wrS r1 (g2.mono u) (s_val_mono u hxx) i2 r2 hwr
            have e2 : w2 = .ref (ad q) := hw2
            subst e2
            have hb0 := g4 s3
            have g1 := g1.cl (Or.inl (by rw [s3]; rfl))
            refine q_st hx hb (q_ofT hty hK) g1 (x := y) i1 hd ?_ (fun H1 z1 z2 z3 => ?_)
            · rcases q_isT hty with ⟨rfl, e1⟩ | ⟨rfl, e1⟩ | ⟨rfl, e1⟩ | ⟨rfl, e1⟩ <;> simp [q_stI, e1]
            · refine q_goE (x := u) hs kk ⟨hlo.mono u, hst'.mono u, r1, ((hG.mono u).env r3).set gk (by show s_nil ro1.2.1.1 = true; rw [s4, s3]; rfl) hb0 z1 z2 ⟨n, _, Or.inl ?_, s1, ?_, fun _ => hb0⟩, fun q hq => ?_⟩
              · rw [s2]
                exact z3
              · rw [s2]
                exact g3
              · rcases List.mem_append.mp hq with hq | hq
                · exact hlc q hq
                · rw [List.mem_singleton.mp hq]
                  exact hb0
          · cases hs
    · cases hs
  · cases hs
theorem q_aald  (C : q_Ctx p R s m args meth c dC dI dA Hb k) (hi : ins k pc = some (.aaload, nx, a1, a2, a3, z)) (hs : ((match st with
      | .inl v :: .inr (.inl (some q)) :: r => match s_rar h q with
        | some (n, cs) => bif s_ix E (s_num n) v && Nat.beq cs.length n then some (.inl (s_span E v nx lo r h 0 cs)) else none
        | none => none
      | _ => none) : Option sS) = some (.inl l0)) (F : q_Fr dC dI dA rs ad Hb H0 (mL k) (pc, lo, st, E, h) ls vs H locs) (kk : q_KK p l e R s m args below meth c cells slots Q dC dI dA rs ad Hb H0 k l0) : W p l e R s m args below meth c H locs cells slots Q (F0 m pc ls vs) := by
  obtain ⟨hx, hb, hml, hown, hts, hK, hnm, hRf, hRl⟩ := C
  obtain ⟨hlo, hst, hE, hG, hlc⟩ := F
  obtain ⟨en, hd⟩ := q_dec (n := 1) hi rfl
  subst en
  split at hs
  · rename_i v q rr
    obtain ⟨w, vs', rfl, ⟨x, rfl, hxx⟩, w2, vs2, rfl, hw2, hst'⟩ := hst
    split at hs
    · rename_i n cs ho
      cases hix : s_ix E (s_num n) v with
      | false => rw [hix] at hs; cases hs
      | true =>
        cases hcl : Nat.beq cs.length n with
        | false => rw [hix, hcl] at hs; cases hs
        | true =>
          rw [hix, hcl] at hs
          cases hs
          have ecl := Nat.eq_of_beq_eq_true hcl
          obtain ⟨g, g1, g2⟩ := q_rar hG ho
          obtain ⟨i1, i2, i3⟩ := q_idx hE (s_numS _) hxx hix
          obtain ⟨cc, e1, c1, c2, c3, c4⟩ := s_spanM (ad := ad) (nx := pc + 1) (lo := lo) (st := rr) (h := h) hE hxx cs 0 (by omega) (by omega)
          have e2 : w2 = .ref (ad q) := hw2
          subst e2
          have ei : (x.toInt - 0).toNat = x.toNatClampNeg := by show (x.toInt - 0).toNat = x.toInt.toNat; omega
          rw [ei] at c1
          exact q_ald hx hb (hK.1.2 5 _ rfl).1 g1 i1 hd (kk _ c2 [] ls _ H locs (by rw [List.append_nil]; exact ⟨hlo, ⟨_, _, rfl, g2 _ _ c1, hst'⟩, c3, hG.env c4, hlc⟩))
    · cases hs
  · cases hs
theorem q_lald  (C : q_Ctx p R s m args meth c dC dI dA Hb k) (hi : ins k pc = some (.laload, nx, a1, a2, a3, z)) (hs : ((match st with
      | .inl v :: .inr (.inl (some q)) :: r => match s_lrow h q with
        | some n => bif s_ix E (s_num n) v then s_go nx lo (.inr (.inr (.inl none)) :: r) E h else none
        | none => none
      | _ => none) : Option sS) = some (.inl l0)) (F : q_Fr dC dI dA rs ad Hb H0 (mL k) (pc, lo, st, E, h) ls vs H locs) (kk : q_KK p l e R s m args below meth c cells slots Q dC dI dA rs ad Hb H0 k l0) : W p l e R s m args below meth c H locs cells slots Q (F0 m pc ls vs) := by
  obtain ⟨hx, hb, hml, hown, hts, hK, hnm, hRf, hRl⟩ := C
  obtain ⟨hlo, hst, hE, hG, hlc⟩ := F
  obtain ⟨en, hd⟩ := q_dec (n := 1) hi rfl
  subst en
  split at hs
  · rename_i v q rr
    obtain ⟨w, vs', rfl, ⟨x, rfl, hxx⟩, w2, vs2, rfl, hw2, hst'⟩ := hst
    split at hs
    · rename_i n ho
      cases hix : s_ix E (s_num n) v with
      | false => rw [hix] at hs; cases hs
      | true =>
        rw [hix] at hs
        obtain ⟨-, -, g, g1⟩ := q_lrow hG ho
        obtain ⟨i1, i2, i3⟩ := q_idx hE (s_numS _) hxx hix
        have e2 : w2 = .ref (ad q) := hw2
        subst e2
        exact W.lald (v := .long (g x.toNatClampNeg)) hx hb g1 ((hK.1.2 4 _ rfl).1 n (fun j => .long (g j))) (fun q => by cases q) (by show ¬ (x < 0 ∨ (arrV _ _ _).slots.size ≤ _); rw [arrV_size]; exact i1) (by show (arrV _ _ _).slots[_]? = _; rw [arrV_read _ _ i2]) rfl rfl hd (q_go hs kk ⟨hlo, ⟨_, _, rfl, ⟨_, rfl, fun q hq => by cases hq⟩, hst'⟩, hE, hG, hlc⟩)
    · cases hs
  · cases hs
theorem q_updL {cA : ClassId} {n : Nat} {f : Nat → Int64} (j : Nat) (x : Int64) : (vp_cell cA (n, .inr (.inl f))).setSlot j (.long x) = vp_cell cA (n, .inr (.inl (vp_updL f j x))) := by
  rw [vp_cell_l, vp_cell_l, arrV_store]
  congr 1
  funext q
  by_cases hq : q = j
  · subst hq
    simp [updV, vp_updL]
  · simp [updV, vp_updL, hq]
theorem q_last  (C : q_Ctx p R s m args meth c dC dI dA Hb k) (hi : ins k pc = some (.lastore, nx, a1, a2, a3, z)) (hs : ((match st with
      | .inr (.inr (.inl _)) :: .inl v :: .inr (.inl (some q)) :: r => match s_lrow h q with
        | some n => bif s_ix E (s_num n) v then s_go nx lo r E (s_hset h q (.inr (.inl n))) else none
        | none => none
      | _ => none) : Option sS) = some (.inl l0)) (F : q_Fr dC dI dA rs ad Hb H0 (mL k) (pc, lo, st, E, h) ls vs H locs) (kk : q_KK p l e R s m args below meth c cells slots Q dC dI dA rs ad Hb H0 k l0) : W p l e R s m args below meth c H locs cells slots Q (F0 m pc ls vs) := by
  obtain ⟨hx, hb, hml, hown, hts, hK, hnm, hRf, hRl⟩ := C
  obtain ⟨hlo, hst, hE, hG, hlc⟩ := F
  obtain ⟨en, hd⟩ := q_dec (n := 1) hi rfl
  subst en
  split at hs
  · rename_i zo v q rr
    obtain ⟨w, vs', rfl, ⟨y, rfl, -⟩, w1, vs1, rfl, ⟨x, rfl, hxx⟩, w2, vs2, rfl, hw2, hst'⟩ := hst
    split at hs
    · rename_i n ho
      cases hix : s_ix E (s_num n) v with
      | false => rw [hix] at hs; cases hs
      | true =>
        rw [hix] at hs
        obtain ⟨gk, gb, g, g1⟩ := q_lrow hG ho
        obtain ⟨i1, i2, i3⟩ := q_idx hE (s_numS _) hxx hix
        have e2 : w2 = .ref (ad q) := hw2
        subst e2
        refine W.last hx hb g1 ((hK.1.2 4 _ rfl).1 n (fun j => .long (g j))) (fun q => by cases q) (by show ¬ (x < 0 ∨ (arrV _ _ _).slots.size ≤ _); rw [arrV_size]; exact i1) rfl rfl hd fun H1 e1 z1 o1 => ?_
        rw [q_updL] at e1
        exact q_go hs kk ⟨hlo, hst', hE, hG.set gk rfl gb z1 o1 ⟨gb, _, e1⟩, fun q hq => by
          rcases List.mem_append.mp hq with hq | hq
          · exact hlc q hq
          · rw [List.mem_singleton.mp hq]
            exact gb⟩
    · cases hs
  · cases hs
theorem q_alen  (C : q_Ctx p R s m args meth c dC dI dA Hb k) (hi : ins k pc = some (.arraylength, nx, a1, a2, a3, z)) (hs : ((match st with
      | .inr (.inl (some q)) :: r => match s_len h q with
        | some n => bif s_inI E n (0, 2147483647) then s_go nx lo (.inl n :: r) E h else none
        | none => none
      | _ => none) : Option sS) = some (.inl l0)) (F : q_Fr dC dI dA rs ad Hb H0 (mL k) (pc, lo, st, E, h) ls vs H locs) (kk : q_KK p l e R s m args below meth c cells slots Q dC dI dA rs ad Hb H0 k l0) : W p l e R s m args below meth c H locs cells slots Q (F0 m pc ls vs) := by
  obtain ⟨hx, hb, hml, hown, hts, hK, hnm, hRf, hRl⟩ := C
  obtain ⟨hlo, hst, hE, hG, hlc⟩ := F
  obtain ⟨en, hd⟩ := q_dec (n := 1) hi rfl
  subst en
  split at hs
  · rename_i q rr
    obtain ⟨w, vs', rfl, hw, hst'⟩ := hst
    split at hs
    · rename_i n hn
      have e2 : w = .ref (ad q) := hw
      subst e2
      cases hin : s_inI E n (0, 2147483647) with
      | false => rw [hin] at hs; cases hs
      | true =>
        rw [hin] at hs
        have big : ∀ {n0 : Nat}, s_val rs n = some (n0 : Int) → ∃ y : Int32, y = Int32.ofInt (n0 : Int) ∧ s_val rs n = some y.toInt := fun {n0} hv => by
          obtain ⟨i1, i2⟩ := s_inIS hE hv hin
          have i2 : (n0 : Int) ≤ 2147483647 := i2
          exact ⟨_, rfl, by rw [Int32.toInt_ofInt_of_le (by omega) (by omega)]; exact hv⟩
        unfold s_len at hn
        split at hn
        · rename_i a ha
          cases hn
          obtain ⟨n0, g, g1, g2, g3, g4⟩ := hG.2.2.2.2.1 _ (s_hgetS ha)
          obtain ⟨y, y1, y2⟩ := big g2.1
          rcases g1 with g1 | ⟨⟨s0, s1, s2, s3⟩, scr, t1, t2, t3, t4⟩
          rotate_left
          · have hsc : Hb[dA .short]? = some scr := by
              rw [← s2, ← hG.1 _ s3]
              exact t1
            exact W.alen (ty := .int) hx hb t1 (hK.2.2.1.2 scr hsc) (by rw [t3]; exact (q_ofn _).trans y1.symm) rfl rfl hd (q_go hs kk ⟨hlo, ⟨_, _, rfl, ⟨_, rfl, y2⟩, hst'⟩, hE, hG, hlc⟩)
          refine W.alen (ty := a.1) hx hb g1 ?_ (by show (arrV _ _ _).slots.size.toInt32 = _; rw [arrV_size]; exact (q_ofn _).trans y1.symm) rfl rfl hd (q_go hs kk ⟨hlo, ⟨_, _, rfl, ⟨_, rfl, y2⟩, hst'⟩, hE, hG, hlc⟩)
          rcases g3 with e | e | e | e
          · rw [e]; exact (hK.1.2 0 _ rfl).1 _ _
          · rw [e]; exact (hK.1.2 1 _ rfl).1 _ _
          · rw [e]; exact (hK.1.2 2 _ rfl).1 _ _
          · rw [e]; exact (hK.1.2 3 _ rfl).1 _ _
        · rename_i n0 ha
          cases hn
          obtain ⟨-, g, g1⟩ := hG.2.2.2.2.1 _ (s_hgetS ha)
          obtain ⟨y, y1, y2⟩ := big (s_numS _)
          exact W.alen (ty := .long) hx hb g1 ((hK.1.2 4 _ rfl).1 _ _) (by show (arrV _ _ _).slots.size.toInt32 = _; rw [arrV_size]; exact (q_ofn _).trans y1.symm) rfl rfl hd (q_go hs kk ⟨hlo, ⟨_, _, rfl, ⟨_, rfl, y2⟩, hst'⟩, hE, hG, hlc⟩)
        · rename_i a ha
          obtain ⟨n0, f⟩ := a
          cases hn
          obtain ⟨g, g1, g2⟩ := hG.2.2.2.2.1 _ (s_hgetS ha)
          obtain ⟨y, y1, y2⟩ := big (s_numS _)
          exact W.alen (ty := .array .int) hx hb g1 ((hK.1.2 5 _ rfl).1 _ _) (by show (arrV _ _ _).slots.size.toInt32 = _; rw [arrV_size]; exact (q_ofn _).trans y1.symm) rfl rfl hd (q_go hs kk ⟨hlo, ⟨_, _, rfl, ⟨_, rfl, y2⟩, hst'⟩, hE, hG, hlc⟩)
        · cases hn
    · cases hs
  · cases hs
end Step3
