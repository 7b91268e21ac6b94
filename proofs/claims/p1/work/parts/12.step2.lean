/-! Switches, fields, rows, new cells. -/
theorem q_fldW {k x a1 a2 a3 : Nat} (h : c_fld k x a1 a2 a3 = true) : ∃ q, vwCl[a1]? = some q ∧ a2 < q.2.2 ∧ Cond.fieldLink (mY k).cls x q.1 (q.2.1 a2).2.1 (q.2.1 a2).2.2.1 ∈ tb ∧ (q.2.1 a2).1 = q.1 := by
  unfold c_fld at h
  split at h
  · rename_i q hq
    simp only [Bool.and_eq_true, decide_eq_true_eq] at h
    exact ⟨q, hq, q_blt h.1.1, wAt_mem h.1.2, h.2⟩
  · cases h
theorem q_finW {k a1 a2 : Nat} {q : vw_C} (h : c_fin k a1 a2 = true) (hq : vwCl[a1]? = some q) : (q.2.1 a2).2.2.2 = false ∨ ((mY k).name = "<init>" ∧ (q.2.1 a2).1 = (mY k).cls) := by
  simp only [c_fin, hq, Bool.or_eq_true, Bool.and_eq_true, decide_eq_true_eq, Bool.not_eq_true'] at h
  exact h
theorem q_fitW {r : Nat → Int32} {b base : Nat} {ty : FieldType} {a : pA} {v : Value} (h : p_fit ty a = true) (hv : q_A r b base a v) : narrow ty v = v ∧ fits ty v = true := by
  unfold p_fit at h
  split at h
  · obtain ⟨y, rfl, -⟩ := hv
    exact ⟨rfl, rfl⟩
  · obtain ⟨y, rfl, hy⟩ := hv
    rename_i z
    have e : y = Int32.ofInt z := hy
    simp only [Bool.or_eq_true, decide_eq_true_eq] at h
    rcases h with rfl | rfl
    · subst e
      exact ⟨rfl, rfl⟩
    · subst e
      exact ⟨rfl, rfl⟩
  · rename_i o
    have e : v = q_rf b base o := hv
    subst e
    rcases o with _ | o
    · exact ⟨rfl, rfl⟩
    · cases o <;> exact ⟨rfl, rfl⟩
  · rename_i o
    have e : v = q_rf b base o := hv
    subst e
    rcases o with _ | o
    · exact ⟨rfl, rfl⟩
    · cases o <;> exact ⟨rfl, rfl⟩
  · cases h
theorem q_tabM {r : Nat → Int32} {E : pE} {v : pV} {x : Int32} {pc : Nat} {lo : pL} {st : List pA} {h : pH} {l u : Int} (h1 : l ≤ x.toInt) (h2 : x.toInt ≤ u) : ∀ (os : List Int) (z : Int), z ≤ x.toInt → x.toInt < z + (os.length : Int) →
    ∃ off, os[(x.toInt - z).toNat]? = some off ∧ (0, 0, ((pc : Int) + off).toNat, lo, st, p_ref E v (x.toInt, x.toInt), h) ∈ p_tab E v pc lo st h l u z os
  | [], z, a, b => by simp at b; omega
  | o :: os, z, a, b => by
    by_cases he : x.toInt = z
    · refine ⟨o, by rw [he]; simp, ?_⟩
      unfold p_tab
      rw [← he]
      simp only [cond_eq_ite, Bool.and_eq_true, decide_eq_true_eq]
      rw [if_pos ⟨h1, h2⟩]
      exact List.mem_cons_self
    · obtain ⟨off, g1, g2⟩ := q_tabM (r := r) (E := E) (v := v) (pc := pc) (lo := lo) (st := st) (h := h) h1 h2 os (z + 1) (by omega) (by simp at b; omega)
      refine ⟨off, ?_, ?_⟩
      · rw [show (x.toInt - z).toNat = (x.toInt - (z + 1)).toNat + 1 by omega]
        simpa using g1
      · unfold p_tab
        simp only [cond_eq_ite]
        split
        · exact List.mem_cons_of_mem _ g2
        · exact g2
theorem q_ofn (n : Nat) : n.toInt32 = Int32.ofInt (n : Int) := Int32.ofInt_eq_ofNat.symm
section Step2
variable {p : Program} {l : Launch} {e : Env} {R : Room} {s : State} {m : MethodId} {args : Array Value} {below : List Frame} {meth : Method} {c : Code} {H : Heap} {locs : List Loc} {cells slots : Nat} {Q : State → Prop}
variable {dC : Nat → ClassId} {dI : Nat → Nat → Nat} {dA : FieldType → ClassId} {r : Nat → Int32} {b base L : Nat} {Hb : Heap} {k pc nx a1 a2 a3 : Nat} {z : Int} {lo : pL} {st : List pA} {E : pE} {h : pH} {ls : Array Slot} {vs : List Value} {l0 : List (Nat × Nat × pF)}
theorem q_tsw {d low high : Int} {os : Array Int} (C : q_Ctx p R s m args meth c dC dI dA r b base L Hb k) (hi : ins k pc = some (.tableswitch d low high os, nx, a1, a2, a3, z)) (hs : ((match st with
      | .inl x :: rs => match p_itv E x with
        | (lw, u) => bif decide (high - low + 1 = (os.size : Int)) then some (.inl (p_tab E x pc lo rs h lw u low os.toList ++ p_tabO E x pc lo rs h d low high lw u)) else none
      | _ => none) : Option pS) = some (.inl l0)) (F : q_Fr dC dI dA r b base Hb (mL k) (pc, lo, st, E, h) ls vs H locs) (kk : q_KK p l e R s m args below meth c cells slots Q dC dI dA r b base Hb k l0) : W p l e R s m args below meth c H locs cells slots Q (F0 m pc ls vs) := by
  obtain ⟨hx, hb, hml, hown, hts, hK, hnm, hbb, hRf, hRl, hk9⟩ := C
  obtain ⟨hlo, hst, hE, hG, hlc⟩ := F
  have hc := (q_row hk9 hi).2.2.1
  have hd := (q_row hk9 hi).2.1
  simp only [c_I, Bool.and_eq_true, decide_eq_true_eq] at hc
  split at hs
  · rename_i v rs
    obtain ⟨w, vs', rfl, ⟨x, rfl, hxx⟩, hst'⟩ := hst
    have hv := q_itv hE hxx
    generalize p_itv E v = iv at hv hs
    obtain ⟨lw, u⟩ := iv
    have v1 : lw ≤ x.toInt := hv.1
    have v2 : x.toInt ≤ u := hv.2
    simp only [cond_eq_ite, decide_eq_true_eq] at hs
    split at hs
    · rename_i hsz
      cases hs
      by_cases hin : low ≤ x.toInt ∧ x.toInt ≤ high
      · obtain ⟨off, g1, g2⟩ := q_tabM (r := r) (E := E) (v := v) (pc := pc) (lo := lo) (st := rs) (h := h) v1 v2 os.toList low hin.1 (by rw [Array.length_toList]; omega)
        have hoff : 0 ≤ (pc : Int) + off := of_decide_eq_true (List.all_eq_true.mp hc.2 off (List.mem_of_getElem? g1))
        refine lv_tableIn (tgt := ((pc : Int) + off).toNat) hx hb hd (by omega) (by omega) (by rw [← Array.getElem?_toList]; exact g1) (by rw [Int.toNat_of_nonneg hoff]) ?_
        exact kk _ (List.mem_append_left _ g2) ls vs' H locs ⟨hlo, hst', q_ref hE hxx (Int.le_refl _) (Int.le_refl _), hG.env (p_ref_1 _ _), hlc⟩
      · refine lv_tableOut (tgt := ((pc : Int) + d).toNat) hx hb hd (by omega) (by rw [Int.toNat_of_nonneg hc.1]) ?_
        by_cases hlow : x.toInt < low
        · exact kk (0, 0, ((pc : Int) + d).toNat, lo, rs, p_ref E v (lw, min u (low - 1)), h) (List.mem_append_right _ (List.mem_append_left _ (by
            have : decide (lw < low) = true := decide_eq_true (by omega)
            rw [this]
            exact List.mem_singleton.mpr rfl))) ls vs' H locs ⟨hlo, hst', q_ref hE hxx v1 (by show x.toInt ≤ min u (low - 1); omega), hG.env (p_ref_1 _ _), hlc⟩
        · exact kk (0, 0, ((pc : Int) + d).toNat, lo, rs, p_ref E v (max lw (high + 1), u), h) (List.mem_append_right _ (List.mem_append_right _ (by
            have : decide (high < u) = true := decide_eq_true (by omega)
            rw [this]
            exact List.mem_singleton.mpr rfl))) ls vs' H locs ⟨hlo, hst', q_ref hE hxx (by show max lw (high + 1) ≤ x.toInt; omega) v2, hG.env (p_ref_1 _ _), hlc⟩
    · cases hs
  · cases hs
theorem q_getf {ci : Nat} (C : q_Ctx p R s m args meth c dC dI dA r b base L Hb k) (hi : ins k pc = some (.getfield ci, nx, a1, a2, a3, z)) (hs : ((match st with
      | .inr (.inl (some (q + 1))) :: rs => match p_obj h q with
        | some (cj, fs) => bif Nat.beq cj a1 then (match fs[a2]? with
          | some v => p_go nx lo (v :: rs) E h
          | none => none) else none
        | none => none
      | _ => none) : Option pS) = some (.inl l0)) (F : q_Fr dC dI dA r b base Hb (mL k) (pc, lo, st, E, h) ls vs H locs) (kk : q_KK p l e R s m args below meth c cells slots Q dC dI dA r b base Hb k l0) : W p l e R s m args below meth c H locs cells slots Q (F0 m pc ls vs) := by
  obtain ⟨hx, hb, hml, hown, hts, hK, hnm, hbb, hRf, hRl, hk9⟩ := C
  obtain ⟨hlo, hst, hE, hG, hlc⟩ := F
  obtain ⟨en, hd⟩ := q_dec (n := 3) hk9 hi rfl
  have hc := (q_row hk9 hi).2.2.1
  subst en
  obtain ⟨w, hw1, hw2, hw3, hw4⟩ := q_fldW hc
  split at hs
  · rename_i q rs
    obtain ⟨v0, vs', rfl, hv0, hst'⟩ := hst
    split at hs
    · rename_i cj fs ho
      cases hj : Nat.beq cj a1 with
      | false => rw [hj] at hs; cases hs
      | true =>
        rw [hj] at hs
        have ej := Nat.eq_of_beq_eq_true hj
        subst ej
        simp only [cond_true] at hs
        split at hs
        · rename_i v hv
          obtain ⟨-, us, w2, g1, g2, g3⟩ := q_obj hG ho
          cases Option.some.inj (hw1.symm.trans g2)
          obtain ⟨x, gx1, gx2⟩ := g1.get hv
          have hv0' : v0 = .ref (base + q) := hv0
          subst hv0'
          exact q_get (D := (dC, dI)) hx hb hts (q_clsA _ _ hw1).1 hown hK.1 g3 hw1 a2 hw2 (hts _ hw3) hw4 gx1 hd (q_go hs kk ⟨hlo, ⟨_, _, rfl, gx2, hst'⟩, hE, hG, hlc⟩)
        · cases hs
    · cases hs
  · cases hs
theorem q_putf {ci : Nat} (C : q_Ctx p R s m args meth c dC dI dA r b base L Hb k) (hi : ins k pc = some (.putfield ci, nx, a1, a2, a3, z)) (hs : ((match st with
      | v :: .inr (.inl (some (q + 1))) :: rs => match p_obj h q with
        | some (cj, fs) => bif Nat.beq cj a1 && Nat.blt a2 fs.length && p_fit (tyOf a1 a2) v then p_go nx lo rs E (h.set q (.inr (.inr (.inr (cj, fs.set a2 v))))) else none
        | none => none
      | _ => none) : Option pS) = some (.inl l0)) (F : q_Fr dC dI dA r b base Hb (mL k) (pc, lo, st, E, h) ls vs H locs) (kk : q_KK p l e R s m args below meth c cells slots Q dC dI dA r b base Hb k l0) : W p l e R s m args below meth c H locs cells slots Q (F0 m pc ls vs) := by
  obtain ⟨hx, hb, hml, hown, hts, hK, hnm, hbb, hRf, hRl, hk9⟩ := C
  obtain ⟨hlo, hst, hE, hG, hlc⟩ := F
  obtain ⟨en, hd⟩ := q_dec (n := 3) hk9 hi rfl
  have hc := (q_row hk9 hi).2.2.1
  subst en
  have hc' : c_fld k ci a1 a2 a3 = true ∧ c_fin k a1 a2 = true := by simpa only [c_I, Bool.and_eq_true] using hc
  obtain ⟨w, hw1, hw2, hw3, hw4⟩ := q_fldW hc'.1
  split at hs
  · rename_i v q rs
    obtain ⟨v0, vs', rfl, hv0, v1, vs2, rfl, hv1, hst'⟩ := hst
    split at hs
    · rename_i cj fs ho
      simp only [cond_eq_ite, Bool.and_eq_true] at hs
      split at hs
      · rename_i hh
        have ej := Nat.eq_of_beq_eq_true hh.1.1
        subst ej
        have hl : a2 < fs.length := q_blt hh.1.2
        obtain ⟨gk, us, w2, g1, g2, g3⟩ := q_obj hG ho
        cases Option.some.inj (hw1.symm.trans g2)
        have hv1' : v1 = .ref (base + q) := hv1
        subst hv1'
        obtain ⟨f1, f2⟩ := q_fitW hh.2 hv0
        have hcl := q_clsA _ _ hw1
        refine q_put (D := (dC, dI)) hx hb hts hcl.1 (tyOf cj) hcl.2.1 hcl.2.2.1 hown hK.1 g3 hw1 a2 hw2 (hts _ hw3) hw4 ((q_finW hc'.2 hw1).imp id (fun q => ⟨hnm q.1, q.2⟩)) f1 f2 (by rw [g1.len]; exact hl) hd (fun H1 sl z1 z2 z3 => ?_)
        exact q_go hs kk ⟨hlo, hst', hE, hG.set gk z1 z2 ⟨_, _, g1.set hv0, hw1, z3⟩, fun q hq => by
          rcases List.mem_append.mp hq with hq | hq
          · exact hlc q hq
          · rw [List.mem_singleton.mp hq]
            exact Nat.le_add_right _ _⟩
      · cases hs
    · cases hs
  · cases hs
theorem q_isT {ty : FieldType} {kind : Nat} (h : p_is ty kind = true) : (kind = 0 ∧ ty = .int) ∨ (kind = 1 ∧ ty = .byte) ∨ (kind = 1 ∧ ty = .boolean) ∨ (kind = 2 ∧ ty = .char) := by
  unfold p_is at h
  split at h <;> first | (cases h; done) | simp
theorem q_ofT {ty : FieldType} {kind : Nat} (h : p_is ty kind = true) (hK : q_K dC dI dA r b L Hb s) : ArrOfT s (dA ty) ty := by
  rcases q_isT h with ⟨-, rfl⟩ | ⟨-, rfl⟩ | ⟨-, rfl⟩ | ⟨-, rfl⟩
  · exact (hK.1.2 0 _ rfl).1
  · exact (hK.1.2 1 _ rfl).1
  · exact (hK.1.2 2 _ rfl).1
  · exact (hK.1.2 3 _ rfl).1
def q_ldI : Nat → Instr
  | 0 => .iaload
  | 1 => .baload
  | _ => .caload
def q_stI : Nat → Instr
  | 0 => .iastore
  | 1 => .bastore
  | _ => .castore
theorem q_rld {kind : Nat} (C : q_Ctx p R s m args meth c dC dI dA r b base L Hb k) (hi : ins k pc = some (q_ldI kind, nx, a1, a2, a3, z)) (hs : ((match st with
      | .inl v :: .inr (.inl (some q)) :: rs => p_rld L nx lo rs E h q v kind
      | _ => none) : Option pS) = some (.inl l0)) (F : q_Fr dC dI dA r b base Hb (mL k) (pc, lo, st, E, h) ls vs H locs) (kk : q_KK p l e R s m args below meth c cells slots Q dC dI dA r b base Hb k l0) : W p l e R s m args below meth c H locs cells slots Q (F0 m pc ls vs) := by
  obtain ⟨hx, hb, hml, hown, hts, hK, hnm, hbb, hRf, hRl, hk9⟩ := C
  obtain ⟨hlo, hst, hE, hG, hlc⟩ := F
  have hlen : c_lenI (q_ldI kind) = some 1 := by rcases kind with _ | _ | kind <;> rfl
  obtain ⟨en, hd⟩ := q_dec (n := 1) hk9 hi hlen
  subst en
  split at hs
  · rename_i v q rs
    obtain ⟨w, vs', rfl, ⟨x, rfl, hxx⟩, w2, vs2, rfl, hw2, hst'⟩ := hst
    unfold p_rld at hs
    rcases q with _ | q
    · simp only at hs
      split at hs
      · rename_i zz hz
        simp only [cond_eq_ite, Bool.and_eq_true, decide_eq_true_eq] at hs
        split at hs
        · rename_i hh
          have e0 := Nat.eq_of_beq_eq_true hh.2
          subst e0
          have hx2 := (q_lit hE hxx hz).1
          have e2 : w2 = .ref b := hw2
          subst e2
          have hXX := hK.2.1
          obtain ⟨scr, t1, t2, t3, t4, t5⟩ := hXX
          have hin : vp_in x L := vp_in_iff.mpr ⟨by omega, by omega⟩
          have hlt : x.toNatClampNeg < L := Nat.not_le.mp fun q => hin (Or.inr q)
          refine W.iald (v := .int (r x.toNatClampNeg)) hx hb (by rw [hG.1 b hbb]; exact t1) t2 t3 (by rw [t4]; exact hin) (t5 _ hlt) rfl rfl hd (q_go hs kk ⟨hlo, ⟨_, _, rfl, ⟨_, rfl, ?_⟩, hst'⟩, hE, hG, hlc⟩)
          show r x.toInt.toNat = r zz.toNat
          rw [hx2]
        · cases hs
      · cases hs
    · simp only at hs
      split at hs
      · rename_i ty n f ha
        cases hty : p_is ty kind with
        | false => rw [hty] at hs; cases hs
        | true =>
          rw [hty] at hs
          simp only [cond_true] at hs
          split at hs
          · rename_i lq hq
            cases hs
            obtain ⟨-, g, g1, g2, -⟩ := q_arr hG ha
            obtain ⟨hin, i, i1, i2, i3, i4⟩ := q_idx hE hxx hq
            have hlt : x.toNatClampNeg < n := Nat.not_le.mp fun q => hin (Or.inr q)
            have e2 : w2 = .ref (base + q) := hw2
            subst e2
            refine q_ld hx hb (q_ofT hty hK) g1 hin hd ?_ (kk _ (List.mem_map.mpr ⟨i, i1, rfl⟩) ls _ H locs ⟨hlo, ⟨_, _, rfl, ⟨_, rfl, ?_⟩, hst'⟩, i3, hG.env i4, hlc⟩)
            · rcases q_isT hty with ⟨rfl, rfl⟩ | ⟨rfl, rfl⟩ | ⟨rfl, rfl⟩ | ⟨rfl, rfl⟩ <;> simp [q_ldI]
            · rw [i2]
              exact g2 _ hlt
          · cases hs
      · cases hs
  · cases hs
theorem q_rst {kind : Nat} (C : q_Ctx p R s m args meth c dC dI dA r b base L Hb k) (hi : ins k pc = some (q_stI kind, nx, a1, a2, a3, z)) (hs : ((match st with
      | .inl x :: .inl v :: .inr (.inl (some q)) :: rs => p_rst nx lo rs E h q v x kind
      | _ => none) : Option pS) = some (.inl l0)) (F : q_Fr dC dI dA r b base Hb (mL k) (pc, lo, st, E, h) ls vs H locs) (kk : q_KK p l e R s m args below meth c cells slots Q dC dI dA r b base Hb k l0) : W p l e R s m args below meth c H locs cells slots Q (F0 m pc ls vs) := by
  obtain ⟨hx, hb, hml, hown, hts, hK, hnm, hbb, hRf, hRl, hk9⟩ := C
  obtain ⟨hlo, hst, hE, hG, hlc⟩ := F
  have hlen : c_lenI (q_stI kind) = some 1 := by rcases kind with _ | _ | kind <;> rfl
  obtain ⟨en, hd⟩ := q_dec (n := 1) hk9 hi hlen
  subst en
  split at hs
  · rename_i xv v q rs
    obtain ⟨w, vs', rfl, ⟨y, rfl, hy⟩, w1, vs1, rfl, ⟨x, rfl, hxx⟩, w2, vs2, rfl, hw2, hst'⟩ := hst
    unfold p_rst at hs
    rcases q with _ | q
    · cases hs
    · simp only at hs
      split at hs
      · rename_i ty n f ha
        cases hty : p_is ty kind with
        | false => rw [hty] at hs; cases hs
        | true =>
          rw [hty] at hs
          simp only [cond_true] at hs
          split at hs
          · rename_i lq hq
            cases hs
            obtain ⟨gk, g, g1, g2, g3⟩ := q_arr hG ha
            obtain ⟨hin, i, i1, i2, i3, i4⟩ := q_idx hE hxx hq
            have e2 : w2 = .ref (base + q) := hw2
            subst e2
            refine q_st hx hb (q_ofT hty hK) g1 (x := y) hin hd ?_ (fun H1 z1 z2 z3 => ?_)
            · rcases q_isT hty with ⟨rfl, rfl⟩ | ⟨rfl, rfl⟩ | ⟨rfl, rfl⟩ | ⟨rfl, rfl⟩ <;> simp [q_stI]
            · refine kk _ (List.mem_map.mpr ⟨i, i1, rfl⟩) ls _ H1 _ ⟨hlo, hst', i3, (hG.env i4).set gk z1 z2 ⟨_, z3, fun j hj => ?_, g3⟩, fun q hq => ?_⟩
              · rw [i2]
                by_cases ej : j = x.toNatClampNeg
                · subst ej
                  simp only [p_upd, Nat.beq_refl, cond_true, upd, if_true]
                  rcases q_isT hty with ⟨rfl, rfl⟩ | ⟨rfl, rfl⟩ | ⟨rfl, rfl⟩ | ⟨rfl, rfl⟩
                  · exact hy
                  · exact q_un (f := vp_nar .byte) hE hy
                  · exact q_un (f := vp_nar .boolean) hE hy
                  · exact q_un (f := vp_nar .char) hE hy
                · have eb : Nat.beq j x.toNatClampNeg = false := by
                    cases hb9 : Nat.beq j x.toNatClampNeg with
                    | false => rfl
                    | true => exact absurd (Nat.eq_of_beq_eq_true hb9) ej
                  simp only [p_upd, eb, cond_false, upd, if_neg ej]
                  exact g2 j hj
              · rcases List.mem_append.mp hq with hq | hq
                · exact hlc q hq
                · rw [List.mem_singleton.mp hq]
                  exact Nat.le_add_right _ _
          · cases hs
      · cases hs
  · cases hs
theorem q_aald  (C : q_Ctx p R s m args meth c dC dI dA r b base L Hb k) (hi : ins k pc = some (.aaload, nx, a1, a2, a3, z)) (hs : ((match st with
      | .inl v :: .inr (.inl (some (q + 1))) :: rs => match p_rar h q with
        | some (n, f) => match p_idx E v n with
          | some lq => some (.inl (lq.map (fun i => (0, 0, nx, lo, .inr (.inl (f i.1)) :: rs, i.2, h))))
          | none => none
        | none => none
      | _ => none) : Option pS) = some (.inl l0)) (F : q_Fr dC dI dA r b base Hb (mL k) (pc, lo, st, E, h) ls vs H locs) (kk : q_KK p l e R s m args below meth c cells slots Q dC dI dA r b base Hb k l0) : W p l e R s m args below meth c H locs cells slots Q (F0 m pc ls vs) := by
  obtain ⟨hx, hb, hml, hown, hts, hK, hnm, hbb, hRf, hRl, hk9⟩ := C
  obtain ⟨hlo, hst, hE, hG, hlc⟩ := F
  obtain ⟨en, hd⟩ := q_dec (n := 1) hk9 hi rfl
  subst en
  split at hs
  · rename_i v q rs
    obtain ⟨w, vs', rfl, ⟨x, rfl, hxx⟩, w2, vs2, rfl, hw2, hst'⟩ := hst
    split at hs
    · rename_i n f ho
      split at hs
      · rename_i lq hq
        cases hs
        obtain ⟨g, g1, g2⟩ := q_rar hG ho
        obtain ⟨hin, i, i1, i2, i3, i4⟩ := q_idx hE hxx hq
        have hlt : x.toNatClampNeg < n := Nat.not_le.mp fun q => hin (Or.inr q)
        have e2 : w2 = .ref (base + q) := hw2
        subst e2
        exact q_ald hx hb (hK.1.2 5 _ rfl).1 g1 hin hd (kk _ (List.mem_map.mpr ⟨i, i1, rfl⟩) ls _ H locs ⟨hlo, ⟨_, _, rfl, by rw [i2]; exact g2 _ hlt, hst'⟩, i3, hG.env i4, hlc⟩)
      · cases hs
    · cases hs
  · cases hs
theorem q_alen  (C : q_Ctx p R s m args meth c dC dI dA r b base L Hb k) (hi : ins k pc = some (.arraylength, nx, a1, a2, a3, z)) (hs : ((match st with
      | .inr (.inl (some q)) :: rs => match p_len L h q with
        | some n => p_go nx lo (.inl (.inl (n : Int)) :: rs) E h
        | none => none
      | _ => none) : Option pS) = some (.inl l0)) (F : q_Fr dC dI dA r b base Hb (mL k) (pc, lo, st, E, h) ls vs H locs) (kk : q_KK p l e R s m args below meth c cells slots Q dC dI dA r b base Hb k l0) : W p l e R s m args below meth c H locs cells slots Q (F0 m pc ls vs) := by
  obtain ⟨hx, hb, hml, hown, hts, hK, hnm, hbb, hRf, hRl, hk9⟩ := C
  obtain ⟨hlo, hst, hE, hG, hlc⟩ := F
  obtain ⟨en, hd⟩ := q_dec (n := 1) hk9 hi rfl
  subst en
  split at hs
  · rename_i q rs
    obtain ⟨w, vs', rfl, hw, hst'⟩ := hst
    split at hs
    · rename_i n hn
      rcases q with _ | q
      · have e2 : w = .ref b := hw
        subst e2
        obtain ⟨scr, t1, t2, t3, t4, t5⟩ := hK.2.1
        cases hn
        exact W.alen (ty := .int) hx hb (by rw [hG.1 b hbb]; exact t1) t2 (by rw [t4]; exact q_ofn _) rfl rfl hd (q_go hs kk ⟨hlo, ⟨_, _, rfl, ⟨_, rfl, rfl⟩, hst'⟩, hE, hG, hlc⟩)
      · have e2 : w = .ref (base + q) := hw
        subst e2
        unfold p_len at hn
        simp only at hn
        split at hn
        · rename_i a ha
          obtain ⟨ty, n0, f⟩ := a
          cases hn
          obtain ⟨g, g1, g2, g3⟩ := hG.2.2.2 q _ ha
          refine W.alen (ty := ty) hx hb g1 ?_ (by show (arrV _ _ _).slots.size.toInt32 = _; rw [arrV_size]; exact q_ofn _) rfl rfl hd (q_go hs kk ⟨hlo, ⟨_, _, rfl, ⟨_, rfl, rfl⟩, hst'⟩, hE, hG, hlc⟩)
          rcases g3 with rfl | rfl | rfl | rfl
          · exact (hK.1.2 0 _ rfl).1 _ _
          · exact (hK.1.2 1 _ rfl).1 _ _
          · exact (hK.1.2 2 _ rfl).1 _ _
          · exact (hK.1.2 3 _ rfl).1 _ _
        · rename_i n0 ha
          cases hn
          obtain ⟨g, g1⟩ := hG.2.2.2 q _ ha
          exact W.alen (ty := .long) hx hb g1 ((hK.1.2 4 _ rfl).1 _ _) (by show (arrV _ _ _).slots.size.toInt32 = _; rw [arrV_size]; exact q_ofn _) rfl rfl hd (q_go hs kk ⟨hlo, ⟨_, _, rfl, ⟨_, rfl, rfl⟩, hst'⟩, hE, hG, hlc⟩)
        · rename_i a ha
          obtain ⟨n0, f⟩ := a
          cases hn
          obtain ⟨g, g1, g2⟩ := hG.2.2.2 q _ ha
          exact W.alen (ty := .array .int) hx hb g1 ((hK.1.2 5 _ rfl).1 _ _) (by show (arrV _ _ _).slots.size.toInt32 = _; rw [arrV_size]; exact q_ofn _) rfl rfl hd (q_go hs kk ⟨hlo, ⟨_, _, rfl, ⟨_, rfl, rfl⟩, hst'⟩, hE, hG, hlc⟩)
        · cases hn
    · cases hs
  · cases hs
end Step2
