/-! New cells, copies, Object.<init>; then the row over all instructions. -/
theorem q_zero {rs : List Int} {ad : Nat → Nat} {t : FieldType} (h : t = .int ∨ t = .boolean ∨ (∃ u, t = .array u) ∨ ∃ n, t = .object n) : q_A rs ad (s_zero t) (defaultValue t) := by
  rcases h with rfl | rfl | ⟨u, rfl⟩ | ⟨n, rfl⟩
  · exact ⟨0, rfl, s_numS 0⟩
  · exact ⟨0, rfl, s_numS 0⟩
  · rfl
  · rfl
theorem q_mapL {rs : List Int} {ad : Nat → Nat} {α : Type} {f : α → sA} {g : α → Value} : ∀ (xs : List α), (∀ x ∈ xs, q_A rs ad (f x) (g x)) → q_L rs ad (xs.map f) (xs.map g)
  | [], _ => rfl
  | x :: xs, h => ⟨_, _, rfl, h x List.mem_cons_self, q_mapL xs (fun y hy => h y (List.mem_cons_of_mem _ hy))⟩
/-- a new row is full of 0 -/
theorem q_rowZ {rs : List Int} {n m : Nat} (hm : 0 < m) {ty : FieldType} : q_Ro rs n (fun _ => 0) (ty, s_num n, List.replicate m (.inl (s_num 0)), [], []) := by
  refine ⟨s_numS _, by show 0 < (List.replicate m _).length; rw [List.length_replicate]; exact hm, fun j hj => ⟨.inl (s_num 0), ?_, s_numS 0⟩, fun p hp => (nomatch hp), fun p hp => (nomatch hp)⟩
  show (List.replicate m (Sum.inl (s_num 0) : sW))[j % (List.replicate m (Sum.inl (s_num 0) : sW)).length]? = _
  rw [List.length_replicate, List.getElem?_replicate, if_pos (Nat.mod_lt _ hm)]
theorem q_rowN {rs : List Int} {n : Nat} {ty : FieldType} : q_Ro rs n (fun _ => 0) (s_rowN ty n) := by
  unfold s_rowN
  cases h : Nat.ble n 12 && Nat.blt 0 n with
  | true =>
    simp only [Bool.and_eq_true] at h
    exact q_rowZ (q_blt h.2)
  | false => exact q_rowZ (m := 1) (by decide)
theorem s_cpLl {f0 : List sW} : ∀ {n sp dp : Nat} {f1 : List sW}, (s_cpL f0 sp dp n f1).length = f1.length
  | 0, _, _, _ => rfl
  | n + 1, sp, dp, f1 => by
    unfold s_cpL
    rw [s_cpLl]
    split
    · rfl
    · rw [List.length_set]
theorem s_cpLS {f0 : List sW} (h0 : 0 < f0.length) : ∀ {n sp dp : Nat} {f1 : List sW} {q : Nat}, q < f1.length → (s_cpL f0 sp dp n f1)[q]? = (if dp ≤ q ∧ q < dp + n then f0[(sp + (q - dp)) % f0.length]? else f1[q]?)
  | 0, sp, dp, f1, q, hq => by
    rw [if_neg (by omega)]
    rfl
  | n + 1, sp, dp, f1, q, hq => by
    unfold s_cpL
    have hlt : sp % f0.length < f0.length := Nat.mod_lt _ h0
    have hw : f0[sp % f0.length]? = some f0[sp % f0.length] := List.getElem?_eq_getElem hlt
    rw [hw]
    simp only
    rw [s_cpLS h0 (by rw [List.length_set]; exact hq)]
    by_cases h1 : dp + 1 ≤ q ∧ q < dp + 1 + n
    · rw [if_pos h1, if_pos (by omega), show sp + 1 + (q - (dp + 1)) = sp + (q - dp) by omega]
    · rw [if_neg h1]
      by_cases h2 : q = dp
      · subst h2
        rw [if_pos (by omega), List.getElem?_set_self hq, Nat.sub_self, Nat.add_zero, hw]
      · rw [if_neg (by omega), List.getElem?_set_ne (Ne.symm h2)]
theorem s_cpWl {E : sE} {x : pI × Option sF} : ∀ {f1 f2 : List sW}, s_cpW E x f1 = some f2 → f2.length = f1.length
  | [], f2, h => by cases h; rfl
  | w :: r, f2, h => by
    unfold s_cpW at h
    split at h
    · cases h
    · split at h
      · cases h
      · rename_i l hl
        cases h
        rw [List.length_cons, List.length_cons, s_cpWl hl]
theorem s_cpWS {rs : List Int} {E : sE} {x : pI × Option sF} (hE : q_E rs E) : ∀ {f1 f2 : List sW} {q : Nat} {w : sW}, s_cpW E x f1 = some f2 → f1[q]? = some w → ∃ w2, f2[q]? = some w2 ∧ (∀ y, q_W rs w y → q_W rs w2 y) ∧ (∀ y, q_W rs (.inr x) y → q_W rs w2 y)
  | [], f2, q, w, h, hq => by cases hq
  | w0 :: r, f2, q, w, h, hq => by
    unfold s_cpW at h
    split at h
    · cases h
    · rename_i a ha
      split at h
      · cases h
      · rename_i l hl
        cases h
        cases q with
        | zero =>
          cases hq
          exact ⟨_, rfl, fun y hy => s_jnL (s_wIS hE hy ha), fun y hy => s_jnR hy⟩
        | succ q =>
          obtain ⟨w2, g1, g2⟩ := s_cpWS hE hl (q := q) (w := w) (by simpa using hq)
          exact ⟨w2, by simpa using g1, g2⟩
theorem s_cpFS {rs : List Int} {E : sE} {n0 n1 : Nat} {f g : Nat → Int32} {r0 : sR} {f1 f2 : List sW} {m1 : Int} {sp dp n : sF} {a b c : Nat} (hE : q_E rs E) (R0 : q_Ro rs n0 f r0) (h1 : 0 < f1.length) (R1 : ∀ j, j < n1 → ∃ w, f1[j % f1.length]? = some w ∧ q_W rs w (g j)) (em : m1 = (n1 : Int)) (hsp : s_val rs sp = some (a : Int)) (hdp : s_val rs dp = some (b : Int)) (hn : s_val rs n = some (c : Int)) (l0 : a + c ≤ n0) (l1 : b + c ≤ n1) (h : s_cpF E r0.2.2.1 f1 m1 sp dp n = some f2) :
    0 < f2.length ∧ ∀ j, j < n1 → ∃ w, f2[j % f2.length]? = some w ∧ q_W rs w (va_cpy f g a b c j) := by
  obtain ⟨-, p0, q0, -, -⟩ := R0
  have weak : ∀ {x : pI × Option sF} {L : List Nat}, (∀ t, t < c → (a + t) % r0.2.2.1.length ∈ L) → s_jns E r0.2.2.1 L = some x → s_cpW E x f1 = some f2 → 0 < f2.length ∧ ∀ j, j < n1 → ∃ w, f2[j % f2.length]? = some w ∧ q_W rs w (va_cpy f g a b c j) := by
    intro x L hL hx hw
    have el := s_cpWl hw
    refine ⟨by rw [el]; exact h1, fun j hj => ?_⟩
    obtain ⟨w, k1, k2⟩ := R1 j hj
    obtain ⟨w2, z1, z2, z3⟩ := s_cpWS hE hw k1
    refine ⟨w2, by rw [el]; exact z1, ?_⟩
    unfold va_cpy
    split
    · rename_i hin
      obtain ⟨w9, k3, k4⟩ := q0 (a + (j - b)) (by omega)
      exact z3 _ (s_jnsS hE (hL (j - b) (by omega)) k3 k4 hx)
    · exact z2 _ k2
  unfold s_cpF at h
  split at h
  · rename_i za zb zc ha hb hc
    have ea := s_litS hE hsp ha
    have eb := s_litS hE hdp hb
    have ec := s_litS hE hn hc
    cases he : s_ie m1 (f1.length : Int) with
    | true =>
      rw [he] at h
      cases h
      have e2 := s_ie_iff.mp he
      have en : n1 = f1.length := by omega
      refine ⟨by rw [s_cpLl]; exact h1, fun j hj => ?_⟩
      rw [s_cpLl, ← en, Nat.mod_eq_of_lt hj, s_cpLS p0 (by omega), show za.toNat = a by omega, show zb.toNat = b by omega, show zc.toNat = c by omega]
      unfold va_cpy
      split
      · rename_i hin
        obtain ⟨w9, k3, k4⟩ := q0 (a + (j - b)) (by omega)
        exact ⟨w9, k3, k4⟩
      · obtain ⟨w, k1, k2⟩ := R1 j hj
        rw [← en, Nat.mod_eq_of_lt hj] at k1
        exact ⟨w, k1, k2⟩
    | false =>
      rw [he] at h
      simp only [cond_false] at h
      split at h
      · cases h
      · rename_i x hx
        refine weak (fun t ht => ?_) hx h
        cases hz : s_ie zc 0 with
        | true => exact List.mem_range.mpr (Nat.mod_lt _ p0)
        | false => exact List.mem_map.mpr ⟨t, List.mem_range.mpr (by omega), by rw [show za.toNat = a by omega]⟩
  · split at h
    · cases h
    · rename_i x hx
      exact weak (fun t ht => List.mem_range.mpr (Nat.mod_lt _ p0)) hx h
theorem s_cpRc {E : sE} {r0 r1 r2 : sR} {sp dp n : sF} (h : s_cpR E r0 r1 sp dp n = some r2) : s_nil r2.2.1.1 = true := by
  obtain ⟨ty1, ⟨t1, m1⟩, f1, ch1, fa1⟩ := r1
  unfold s_cpR at h
  dsimp only at h
  split at h
  · cases h
  · simp only [cond_eq_ite] at h
    split at h
    · split at h
      · cases h
      · cases h
        rfl
    · cases h
theorem s_cpRS {rs : List Int} {E : sE} {n0 n1 : Nat} {f g : Nat → Int32} {r0 r1 r2 : sR} {sp dp n : sF} {xs xd xn : Int32} (hE : q_E rs E) (R0 : q_Ro rs n0 f r0) (R1 : q_Ro rs n1 g r1) (hsp : s_val rs sp = some xs.toInt) (hdp : s_val rs dp = some xd.toInt) (hn : s_val rs n = some xn.toInt) (h : s_cpR E r0 r1 sp dp n = some r2) :
    s_nil r0.2.1.1 = true ∧ p_is r0.1 0 = true ∧ p_is r1.1 0 = true ∧ ¬ xs < 0 ∧ ¬ xd < 0 ∧ ¬ xn < 0 ∧ xs.toNatClampNeg + xn.toNatClampNeg ≤ n0 ∧ xd.toNatClampNeg + xn.toNatClampNeg ≤ n1 ∧ r1.2.1.1 = [] ∧ r2.1 = r1.1 ∧ q_Ro rs n1 (va_cpy f g xs.toNatClampNeg xd.toNatClampNeg xn.toNatClampNeg) r2 := by
  obtain ⟨ty1, ⟨t1, m1⟩, f1, ch1, fa1⟩ := r1
  unfold s_cpR at h
  simp only at h
  split at h
  · cases h
  · simp only [cond_eq_ite, Bool.and_eq_true] at h
    split at h
    · rename_i hh
      obtain ⟨⟨⟨⟨⟨⟨⟨c1, c2⟩, c3⟩, c4⟩, c5⟩, c6⟩, c7⟩, c8⟩ := hh
      have d3 := s_ge2S hE c3 hsp
      have d4 := s_ge2S hE c4 hdp
      have d5 := s_ge2S hE c5 hn
      have d6 := s_ge2S hE c6 (s_subS R0.1 (s_addS hsp hn))
      have em : m1 = (n1 : Int) := Option.some.inj ((s_numS (rs := rs) m1).symm.trans R1.1)
      have d7 := s_ge2S hE c7 (s_subS (s_numS m1) (s_addS hdp hn))
      have nn : ∀ z : Int32, 0 ≤ z.toInt → ¬ z < 0 := fun z hz hlt => by
        have h2 := Int32.lt_iff_toInt_lt.mp hlt
        have h3 : (0 : Int32).toInt = 0 := rfl
        omega
      have ez : ∀ z : Int32, 0 ≤ z.toInt → z.toInt = (z.toNatClampNeg : Int) := fun z hz => by
        show z.toInt = ((z.toInt.toNat : Nat) : Int)
        omega
      have s1 := ez xs d3
      have s2 := ez xd d4
      have s3 := ez xn d5
      split at h
      · cases h
      · rename_i f2 hf
        cases h
        rw [s1] at hsp
        rw [s2] at hdp
        rw [s3] at hn
        obtain ⟨k1, k2⟩ := s_cpFS (f1 := f1) (m1 := m1) hE R0 R1.2.1 R1.2.2.1 em hsp hdp hn (by omega) (by omega) hf
        exact ⟨c8, c1, c2, nn _ d3, nn _ d4, nn _ d5, by omega, by omega, rfl, rfl, R1.1, k1, k2, fun p hp => (nomatch hp), fun p hp => (nomatch hp)⟩
    · cases h
section Step4
variable {p : Program} {l : Launch} {e : Env} {R : Room} {s : State} {m : MethodId} {args : Array Value} {below : List Frame} {meth : Method} {c : Code} {H : Heap} {locs : List Loc} {cells slots : Nat} {Q : State → Prop}
variable {dC : Nat → ClassId} {dI : Nat → Nat → Nat} {dA : FieldType → ClassId} {rs : List Int} {ad : Nat → Nat} {Hb H0 : Heap} {k pc nx a1 a2 a3 : Nat} {z : Int} {lo : sL} {st : List sA} {E : sE} {h : sH} {ls : Array Slot} {vs : List Value} {l0 : List (Nat × Nat × sG)}
theorem q_new {ci : Nat} (C : q_Ctx p R s m args meth c dC dI dA Hb k) (hi : ins k pc = some (.new ci, nx, a1, a2, a3, z)) (hs : ((bif Nat.beq a1 99 then some (.inr (.inr (1, none))) else bif E.1 && s_ids h then some (.inl [(1, p_nF a1, nx, lo, .inr (.inl (some h.length)) :: st, E, h ++ [(h.length, .inr (.inr (.inr (a1, s_newO a1))))])]) else none) : Option sS) = some (.inl l0)) (F : q_Fr dC dI dA rs ad Hb H0 (mL k) (pc, lo, st, E, h) ls vs H locs) (hroom : ∀ q ∈ l0, cells + q.1 ≤ R.cells ∧ slots + q.2.1 ≤ R.slots) (kk : q_KK p l e R s m args below meth c cells slots Q dC dI dA rs ad Hb H0 k l0) : W p l e R s m args below meth c H locs cells slots Q (F0 m pc ls vs) := by
  obtain ⟨hx, hb, hml, hown, hts, hK, hnm, hRf, hRl⟩ := C
  obtain ⟨hlo, hst, hE, hG, hlc⟩ := F
  obtain ⟨en, hd⟩ := q_dec (n := 3) hi rfl
  subst en
  have hc := (q_rowI hi).2.2.1
  cases h99 : Nat.beq a1 99 with
  | true => rw [h99] at hs; cases hs
  | false =>
    rw [h99] at hs
    simp only [cond_false] at hs
    simp only [cond_eq_ite, Bool.and_eq_true] at hs
    split at hs
    · rename_i hh
      obtain ⟨hfr, hid⟩ := hh
      cases hs
      simp only [c_I, c_new, h99, Bool.false_or] at hc
      split at hc
      · rename_i q hq
        obtain ⟨k1, k2, k3, k4, k5, k6⟩ := q_clsA _ _ hq
        have hnF : p_nF a1 = q.2.2 := by simp only [p_nF, hq]
        have hr0 := hroom _ (List.mem_singleton.mpr rfl)
        have hKn := hK.1.1 a1 _ hq
        have hs2 : slots + q.2.2 ≤ R.slots := by rw [← hnF]; exact hr0.2
        refine W.newcK (n := q.2.2) hx hb hown (hts _ (wAt_mem hc)) (hts _ k4) (hts _ k5) rfl hd hr0.1 hs2 hKn.2.1 rfl fun H1 kC hkC e1 z1 o1 => ?_
        have hO : t_OB H.size (dC a1) q.2.2 (dI a1) H1 (vp_V ((List.range q.2.2).map (fun j => defaultValue (tyOf a1 j)))) := (u_born (tyOf a1) hts k1 hKn hkC e1 k2).to (fun j hj => by simp [vp_V, hj])
        have had : ad h.length = H.size := hG.2.2.2.1 hfr 0
        have hbs := hG.2.2.1.2
        have hres := kk _ (List.mem_singleton.mpr rfl) [] ls (.ref H.size :: vs) H1 locs (by rw [List.append_nil]; exact ⟨hlo, ⟨_, _, rfl, by show _ = Value.ref (ad h.length); rw [had], hst⟩, hE, hG.app hfr hid (fun j x hj => by
          have h0 : j < 1 := (List.getElem?_eq_some_iff.mp hj).1
          rw [show j = 0 by omega] at hj ⊢
          cases hj
          rfl) (by rw [z1]; rfl) o1 (fun j x hj => by
          have h0 : j < 1 := (List.getElem?_eq_some_iff.mp hj).1
          rw [show j = 0 by omega] at hj ⊢
          cases hj
          refine ⟨by omega, _, q, ?_, hq, hO⟩
          unfold s_newO
          rw [hnF]
          exact q_mapL _ (fun x hx => q_zero (k6 x (List.mem_range.mp hx)))), hlc⟩)
        rw [hnF] at hres
        exact hres
      · cases hc
    · cases hs
theorem q_newa {t : ArrayType} (C : q_Ctx p R s m args meth c dC dI dA Hb k) (hi : ins k pc = some (.newarray t, nx, a1, a2, a3, z)) (hs : ((match st with
      | .inl ([], zz) :: r => bif E.1 && s_ids h && decide (0 ≤ zz) && decide (zz ≤ 65536) then
          some (.inl [(1, zz.toNat, nx, lo, .inr (.inl (some h.length)) :: r, E, h ++ [(h.length, match (generalizing := false) t with
            | .long => .inr (.inl zz.toNat)
            | t => .inl (s_rowN (newarray.typeOf t) zz.toNat))])]) else none
      | _ => none) : Option sS) = some (.inl l0)) (F : q_Fr dC dI dA rs ad Hb H0 (mL k) (pc, lo, st, E, h) ls vs H locs) (hroom : ∀ q ∈ l0, cells + q.1 ≤ R.cells ∧ slots + q.2.1 ≤ R.slots) (kk : q_KK p l e R s m args below meth c cells slots Q dC dI dA rs ad Hb H0 k l0) : W p l e R s m args below meth c H locs cells slots Q (F0 m pc ls vs) := by
  obtain ⟨hx, hb, hml, hown, hts, hK, hnm, hRf, hRl⟩ := C
  obtain ⟨hlo, hst, hE, hG, hlc⟩ := F
  obtain ⟨en, hd⟩ := q_dec (n := 2) hi rfl
  have hna : c_naI (.newarray t) = true := (q_rowI hi).2.2.2.2
  subst en
  split at hs
  · rename_i zz rr
    obtain ⟨w, vs', rfl, ⟨x, rfl, hxx⟩, hst'⟩ := hst
    simp only [cond_eq_ite, Bool.and_eq_true, decide_eq_true_eq] at hs
    split at hs
    · rename_i hh
      cases hs
      have hfr := hh.1.1.1
      have hid := hh.1.1.2
      have etI : x.toInt = zz := Option.some.inj (hxx.symm.trans (s_numS zz))
      have hn0 : ¬ x < 0 := fun hlt => by
        have h2 := Int32.lt_iff_toInt_lt.mp hlt
        have h3 : (0 : Int32).toInt = 0 := rfl
        omega
      have hN : x.toNatClampNeg = zz.toNat := by show x.toInt.toNat = _; rw [etI]
      have hr0 := hroom _ (List.mem_singleton.mpr rfl)
      have had : ad h.length = H.size := hG.2.2.2.1 hfr 0
      have hbs := hG.2.2.1.2
      have hle : zz.toNat ≤ 65536 := by omega
      cases t with
      | float => cases hna
      | double => cases hna
      | short => cases hna
      | long =>
        refine va_newaK (atype := .long) hx hb (hts _ q_ac_long) rfl hd rfl hn0 hN (by show zz.toNat * 8 ≤ _; omega) hr0.1 hr0.2 rfl fun H1 cA e1 z1 o1 hAr hNm => ?_
        have hcA : cA = dA .long := Option.some.inj (hNm.symm.trans (hK.1.2 4 _ rfl).2)
        subst hcA
        exact kk _ (List.mem_singleton.mpr rfl) [] ls (.ref H.size :: vs') H1 locs (by rw [List.append_nil]; exact ⟨hlo, ⟨_, _, rfl, by show _ = Value.ref (ad h.length); rw [had], hst'⟩, hE, hG.app hfr hid (fun j x hj => by
          have h0 : j < 1 := (List.getElem?_eq_some_iff.mp hj).1
          rw [show j = 0 by omega] at hj ⊢
          cases hj
          rfl) (by rw [z1]; rfl) o1 (fun j x hj => by
          have h0 : j < 1 := (List.getElem?_eq_some_iff.mp hj).1
          rw [show j = 0 by omega] at hj ⊢
          cases hj
          exact ⟨by omega, fun _ => 0, by rw [Nat.add_zero, e1]; rfl⟩), hlc⟩)
      | boolean =>
        refine va_newaK (atype := .boolean) hx hb (hts _ q_ac_boolean) rfl hd rfl hn0 hN (by show zz.toNat * 1 ≤ _; omega) hr0.1 hr0.2 rfl fun H1 cA e1 z1 o1 hAr hNm => ?_
        have hcA : cA = dA .boolean := Option.some.inj (hNm.symm.trans (hK.1.2 2 _ rfl).2)
        subst hcA
        exact kk _ (List.mem_singleton.mpr rfl) [] ls (.ref H.size :: vs') H1 locs (by rw [List.append_nil]; exact ⟨hlo, ⟨_, _, rfl, by show _ = Value.ref (ad h.length); rw [had], hst'⟩, hE, hG.app hfr hid (fun j x hj => by
          have h0 : j < 1 := (List.getElem?_eq_some_iff.mp hj).1
          rw [show j = 0 by omega] at hj ⊢
          cases hj
          rfl) (by rw [z1]; rfl) o1 (fun j x hj => by
          have h0 : j < 1 := (List.getElem?_eq_some_iff.mp hj).1
          rw [show j = 0 by omega] at hj ⊢
          cases hj
          exact ⟨zz.toNat, fun _ => 0, Or.inl (by rw [Nat.add_zero, e1]; rfl), q_rowN, by simp [s_rowN, newarray.typeOf], fun _ => by omega⟩), hlc⟩)
      | char =>
        refine va_newaK (atype := .char) hx hb (hts _ q_ac_char) rfl hd rfl hn0 hN (by show zz.toNat * 2 ≤ _; omega) hr0.1 hr0.2 rfl fun H1 cA e1 z1 o1 hAr hNm => ?_
        have hcA : cA = dA .char := Option.some.inj (hNm.symm.trans (hK.1.2 3 _ rfl).2)
        subst hcA
        exact kk _ (List.mem_singleton.mpr rfl) [] ls (.ref H.size :: vs') H1 locs (by rw [List.append_nil]; exact ⟨hlo, ⟨_, _, rfl, by show _ = Value.ref (ad h.length); rw [had], hst'⟩, hE, hG.app hfr hid (fun j x hj => by
          have h0 : j < 1 := (List.getElem?_eq_some_iff.mp hj).1
          rw [show j = 0 by omega] at hj ⊢
          cases hj
          rfl) (by rw [z1]; rfl) o1 (fun j x hj => by
          have h0 : j < 1 := (List.getElem?_eq_some_iff.mp hj).1
          rw [show j = 0 by omega] at hj ⊢
          cases hj
          exact ⟨zz.toNat, fun _ => 0, Or.inl (by rw [Nat.add_zero, e1]; rfl), q_rowN, by simp [s_rowN, newarray.typeOf], fun _ => by omega⟩), hlc⟩)
      | byte =>
        refine va_newaK (atype := .byte) hx hb (hts _ q_ac_byte) rfl hd rfl hn0 hN (by show zz.toNat * 1 ≤ _; omega) hr0.1 hr0.2 rfl fun H1 cA e1 z1 o1 hAr hNm => ?_
        have hcA : cA = dA .byte := Option.some.inj (hNm.symm.trans (hK.1.2 1 _ rfl).2)
        subst hcA
        exact kk _ (List.mem_singleton.mpr rfl) [] ls (.ref H.size :: vs') H1 locs (by rw [List.append_nil]; exact ⟨hlo, ⟨_, _, rfl, by show _ = Value.ref (ad h.length); rw [had], hst'⟩, hE, hG.app hfr hid (fun j x hj => by
          have h0 : j < 1 := (List.getElem?_eq_some_iff.mp hj).1
          rw [show j = 0 by omega] at hj ⊢
          cases hj
          rfl) (by rw [z1]; rfl) o1 (fun j x hj => by
          have h0 : j < 1 := (List.getElem?_eq_some_iff.mp hj).1
          rw [show j = 0 by omega] at hj ⊢
          cases hj
          exact ⟨zz.toNat, fun _ => 0, Or.inl (by rw [Nat.add_zero, e1]; rfl), q_rowN, by simp [s_rowN, newarray.typeOf], fun _ => by omega⟩), hlc⟩)
      | int =>
        refine va_newaK (atype := .int) hx hb (hts _ q_ac_int) rfl hd rfl hn0 hN (by show zz.toNat * 4 ≤ _; omega) hr0.1 hr0.2 rfl fun H1 cA e1 z1 o1 hAr hNm => ?_
        have hcA : cA = dA .int := Option.some.inj (hNm.symm.trans (hK.1.2 0 _ rfl).2)
        subst hcA
        exact kk _ (List.mem_singleton.mpr rfl) [] ls (.ref H.size :: vs') H1 locs (by rw [List.append_nil]; exact ⟨hlo, ⟨_, _, rfl, by show _ = Value.ref (ad h.length); rw [had], hst'⟩, hE, hG.app hfr hid (fun j x hj => by
          have h0 : j < 1 := (List.getElem?_eq_some_iff.mp hj).1
          rw [show j = 0 by omega] at hj ⊢
          cases hj
          rfl) (by rw [z1]; rfl) o1 (fun j x hj => by
          have h0 : j < 1 := (List.getElem?_eq_some_iff.mp hj).1
          rw [show j = 0 by omega] at hj ⊢
          cases hj
          exact ⟨zz.toNat, fun _ => 0, Or.inl (by rw [Nat.add_zero, e1]; rfl), q_rowN, by simp [s_rowN, newarray.typeOf], fun _ => by omega⟩), hlc⟩)
    · cases hs
  · cases hs
theorem q_mnaS {ci dims : Nat} (C : q_Ctx p R s m args meth c dC dI dA Hb k) (hi : ins k pc = some (.multianewarray ci dims, nx, a1, a2, a3, z)) (hs : ((match st with
      | .inl ([], k1) :: .inl ([], n1) :: r => bif E.1 && s_ids h && decide (0 ≤ k1) && decide (k1 ≤ 65536) && decide (0 ≤ n1) && decide (n1 ≤ 65536) then
          some (.inl [(1 + n1.toNat, n1.toNat + n1.toNat * k1.toNat, nx, lo, .inr (.inl (some h.length)) :: r, E, s_mna h n1.toNat k1.toNat)]) else none
      | _ => none) : Option sS) = some (.inl l0)) (F : q_Fr dC dI dA rs ad Hb H0 (mL k) (pc, lo, st, E, h) ls vs H locs) (hroom : ∀ q ∈ l0, cells + q.1 ≤ R.cells ∧ slots + q.2.1 ≤ R.slots) (kk : q_KK p l e R s m args below meth c cells slots Q dC dI dA rs ad Hb H0 k l0) : W p l e R s m args below meth c H locs cells slots Q (F0 m pc ls vs) := by
  obtain ⟨hx, hb, hml, hown, hts, hK, hnm, hRf, hRl⟩ := C
  obtain ⟨hlo, hst, hE, hG, hlc⟩ := F
  obtain ⟨en, hd⟩ := q_dec (n := 4) hi rfl
  subst en
  have hc := (q_rowI hi).2.2.1
  simp only [c_I, Bool.and_eq_true] at hc
  have hdm := Nat.eq_of_beq_eq_true hc.2
  subst hdm
  split at hs
  · rename_i k1 n1 rr
    obtain ⟨w, vs', rfl, ⟨y, rfl, hy⟩, w2, vs2, rfl, ⟨x, rfl, hxx⟩, hst'⟩ := hst
    simp only [cond_eq_ite, Bool.and_eq_true, decide_eq_true_eq] at hs
    split at hs
    · rename_i hh
      cases hs
      have hfr := hh.1.1.1.1.1
      have hid := hh.1.1.1.1.2
      have etx : x.toInt = n1 := Option.some.inj (hxx.symm.trans (s_numS n1))
      have ety : y.toInt = k1 := Option.some.inj (hy.symm.trans (s_numS k1))
      have h3 : (0 : Int32).toInt = 0 := rfl
      have hx0 : ¬ x < 0 := fun hlt => by have h2 := Int32.lt_iff_toInt_lt.mp hlt; omega
      have hy0 : ¬ y < 0 := fun hlt => by have h2 := Int32.lt_iff_toInt_lt.mp hlt; omega
      have hN : x.toNatClampNeg = n1.toNat := by show x.toInt.toNat = _; rw [etx]
      have hM : y.toNatClampNeg = k1.toNat := by show y.toInt.toNat = _; rw [ety]
      have hr0 := hroom _ (List.mem_singleton.mpr rfl)
      have had : ∀ j, ad (h.length + j) = H.size + j := hG.2.2.2.1 hfr
      have hbs := hG.2.2.1.2
      refine q_mna hx hb hown (hts _ (wAt_mem hc.1)) hK.2.2.1.1 (hts _ q_ac_int) (hK.1.2 0 _ rfl).2 (hK.1.2 5 _ rfl).2 hx0 hy0 hN hM (by omega) (by omega) hr0.1 hr0.2 hd (fun H1 z1 o1 c0 cs => ?_)
      have hres := kk _ (List.mem_singleton.mpr rfl) [] ls (.ref H.size :: vs2) H1 locs (by
        rw [List.append_nil]
        refine ⟨hlo, ⟨_, _, rfl, by show _ = Value.ref (ad h.length); rw [show ad h.length = H.size from had 0], hst'⟩, hE, ?_, hlc⟩
        have hnth : ∀ (j : Nat) (x : Nat × sC), ((h.length, (Sum.inr (Sum.inr (Sum.inl (n1.toNat, (List.range n1.toNat).map (fun i => some (h.length + 1 + i))))) : sC)) :: (List.range n1.toNat).map (fun i => (h.length + 1 + i, (Sum.inl (.int, s_num k1.toNat, [.inl (s_num 0)], [], []) : sC))))[j]? = some x → (j = 0 ∧ x = (h.length, Sum.inr (Sum.inr (Sum.inl (n1.toNat, (List.range n1.toNat).map (fun i => some (h.length + 1 + i))))))) ∨ ∃ i, j = i + 1 ∧ i < n1.toNat ∧ x = (h.length + 1 + i, Sum.inl (.int, s_num k1.toNat, [.inl (s_num 0)], [], [])) := fun j x hj => by
          rcases j with _ | j
          · simp only [List.getElem?_cons_zero] at hj
            exact Or.inl ⟨rfl, (Option.some.inj hj).symm⟩
          · simp only [List.getElem?_cons_succ, List.getElem?_map] at hj
            by_cases hjl : j < n1.toNat
            · rw [List.getElem?_range hjl] at hj
              exact Or.inr ⟨j, rfl, hjl, (Option.some.inj hj).symm⟩
            · rw [List.getElem?_eq_none (by rw [List.length_range]; omega)] at hj
              cases hj
        refine hG.app hfr hid (fun j x hj => ?_) (by rw [z1, List.length_cons, List.length_map, List.length_range]; omega) o1 (fun j x hj => ?_)
        · rcases hnth j x hj with ⟨rfl, rfl⟩ | ⟨i, rfl, hi, rfl⟩
          · rfl
          · show h.length + 1 + i = h.length + (i + 1)
            omega
        · rcases hnth j x hj with ⟨rfl, rfl⟩ | ⟨i, rfl, hi, rfl⟩
          · refine ⟨_, by rw [Nat.add_zero]; exact c0, fun j c hj => ?_⟩
            rw [List.getElem?_map] at hj
            by_cases hjl : j < n1.toNat
            · rw [List.getElem?_range hjl] at hj
              cases hj
              simp only [if_pos hjl, va_rf]
              exact congrArg Value.ref (show (H.size + 1 + j : Nat) = ad (h.length + 1 + j) by rw [Nat.add_assoc h.length, had]; omega)
            · rw [List.getElem?_eq_none (by rw [List.length_range]; omega)] at hj
              cases hj
          · refine ⟨k1.toNat, fun _ => 0, Or.inl ?_, q_rowZ (m := 1) (by decide), Or.inl rfl, fun _ => by omega⟩
            rw [show H.size + (i + 1) = H.size + 1 + i by omega]
            exact cs i hi)
      simp only [Nat.add_assoc] at hres ⊢
      exact hres
    · cases hs
  · cases hs
theorem q_copyS {ci : Nat} (hlk : Cond.methodLink (mY k).cls ci arraycopyName ∈ tb) (C : q_Ctx p R s m args meth c dC dI dA Hb k) (hi : ins k pc = some (.invokestatic ci, nx, a1, a2, a3, z)) (hs : (s_copy nx lo st E h : Option sS) = some (.inl l0)) (F : q_Fr dC dI dA rs ad Hb H0 (mL k) (pc, lo, st, E, h) ls vs H locs) (kk : q_KK p l e R s m args below meth c cells slots Q dC dI dA rs ad Hb H0 k l0) : W p l e R s m args below meth c H locs cells slots Q (F0 m pc ls vs) := by
  obtain ⟨hx, hb, hml, hown, hts, hK, hnm, hRf, hRl⟩ := C
  obtain ⟨hlo, hst, hE, hG, hlc⟩ := F
  obtain ⟨en, hd⟩ := q_dec (n := 3) hi rfl
  subst en
  unfold s_copy at hs
  split at hs
  · rename_i n dp q1 sp q0 rr
    obtain ⟨w1, vs1, rfl, ⟨xn, rfl, hn⟩, w2, vs2, rfl, ⟨xd, rfl, hdp⟩, w3, vs3, rfl, hw3, w4, vs4, rfl, ⟨xs, rfl, hsp⟩, w5, vs5, rfl, hw5, hst'⟩ := hst
    have e3 : w3 = .ref (ad q1) := hw3
    have e5 : w5 = .ref (ad q0) := hw5
    subst e3
    subst e5
    cases hcc : Nat.beq q0 q1 || !(Nat.ble (s_cats rr) 8) with
    | true => rw [hcc] at hs; cases hs
    | false =>
      rw [hcc] at hs
      simp only [Bool.or_eq_false_iff, Bool.not_eq_false'] at hcc
      have hcat : s_cats rr ≤ 8 := Nat.le_of_ble_eq_true hcc.2
      simp only [cond_false] at hs
      split at hs
      · rename_i r0 ha0
        split at hs
        · rename_i r1 ha1
          split at hs
          · rename_i r2 hr2
            obtain ⟨-, n0, f', f1, f2, -, -⟩ := q_row hG ha0
            obtain ⟨gk, n1, g', g1, g2, g3, g4⟩ := q_row hG ha1
            obtain ⟨k0, k1, k2, k3, k4, k5, k6, k7, k8, k9, k10⟩ := s_cpRS hE f2 g2 hsp hdp hn hr2
            have f1 := f1.cl (Or.inl k0)
            have g1 := g1.cl (Or.inl (by rw [k8]; rfl))
            have t0 : r0.1 = .int := by rcases q_isT k1 with ⟨-, e⟩ | ⟨e, -⟩ | ⟨e, -⟩ | ⟨e, -⟩ <;> first | exact e | cases e
            have t1 : r1.1 = .int := by rcases q_isT k2 with ⟨-, e⟩ | ⟨e, -⟩ | ⟨e, -⟩ | ⟨e, -⟩ <;> first | exact e | cases e
            rw [t0] at f1
            rw [t1] at g1
            have hb0 := g4 k8
            refine q_copy hx hb (by rw [hml]; exact hlo.1.symm) hown (hts _ hlk) (hts _ q_w_nat) (hts _ q_w_sta) (hts _ q_w_sys) (hK.1.2 0 _ rfl).1 f1 g1 k3 k4 k5 k6 k7 (by omega) (by rw [hst'.cats]; have : nativeFrameWords "java/lang/System" "arraycopy" 5 ≤ 100 := (by decide); omega) hd (fun H1 Lq hL z1 z2 z3 => ?_)
            refine q_go hs kk ⟨hlo, hst', hE, hG.set gk (s_cpRc hr2) hb0 z1 z2 ⟨n1, _, Or.inl ?_, k10, ?_, fun _ => hb0⟩, fun q hq => ?_⟩
            · rw [k9, t1]
              exact z3
            · rw [k9]
              exact g3
            · rcases List.mem_append.mp hq with hq | hq
              · exact hlc q hq
              · rw [hL q hq]
                exact hb0
          · cases hs
        · cases hs
      · cases hs
  · cases hs
theorem q_oinit {ci : Nat} (hlk : Cond.methodLink (mY k).cls ci objectInit ∈ tb) (C : q_Ctx p R s m args meth c dC dI dA Hb k) (hi : ins k pc = some (.invokespecial ci, nx, a1, a2, a3, z)) (hs : ((match st with
        | .inr (.inl (some _)) :: r => bif Nat.ble (s_cats r) 8 then s_go nx lo r E h else none
        | _ => none) : Option sS) = some (.inl l0)) (F : q_Fr dC dI dA rs ad Hb H0 (mL k) (pc, lo, st, E, h) ls vs H locs) (kk : q_KK p l e R s m args below meth c cells slots Q dC dI dA rs ad Hb H0 k l0) : W p l e R s m args below meth c H locs cells slots Q (F0 m pc ls vs) := by
  obtain ⟨hx, hb, hml, hown, hts, hK, hnm, hRf, hRl⟩ := C
  obtain ⟨hlo, hst, hE, hG, hlc⟩ := F
  obtain ⟨en, hd⟩ := q_dec (n := 3) hi rfl
  subst en
  split at hs
  · rename_i q rr
    obtain ⟨w, vs', rfl, hw, hst'⟩ := hst
    have e2 : w = .ref (ad q) := hw
    subst e2
    cases hc8 : Nat.ble (s_cats rr) 8 with
    | false => rw [hc8] at hs; cases hs
    | true =>
      rw [hc8] at hs
      have hcat := Nat.le_of_ble_eq_true hc8
      exact W.objInit hx hb hown (hts _ hlk) (hts _ q_w_oi) (hts _ q_w_oc) rfl (by rw [hml]; exact hlo.1) rfl hd (by omega) (by rw [hst'.cats]; show 2 * 0 + _ + 12 ≤ _; omega) (q_go hs kk ⟨hlo, hst', hE, hG, hlc⟩)
  · cases hs
theorem q_next (C : q_Ctx p R s m args meth c dC dI dA Hb k) (hs : s_step k pc lo st E h = some (.inl l0)) (F : q_Fr dC dI dA rs ad Hb H0 (mL k) (pc, lo, st, E, h) ls vs H locs) (hroom : ∀ q ∈ l0, cells + q.1 ≤ R.cells ∧ slots + q.2.1 ≤ R.slots) (kk : q_KK p l e R s m args below meth c cells slots Q dC dI dA rs ad Hb H0 k l0) : W p l e R s m args below meth c H locs cells slots Q (F0 m pc ls vs) := by
  unfold s_step at hs
  cases hi : ins k pc with
  | none => rw [hi] at hs; cases hs
  | some row =>
    rw [hi] at hs
    obtain ⟨i, nx, a1, a2, a3, z⟩ := row
    have hc := (q_rowI hi).2.2.1
    cases i <;> dsimp only at hs
    case iconst => exact q_iconst C hi hs F kk
    case bipush => exact q_bipush C hi hs F kk
    case sipush => exact q_sipush C hi hs F kk
    case ldc => exact q_ldc C hi hs F kk
    case ldc_w => exact q_ldcw C hi hs F kk
    case ldc2_w => exact q_ldc2 C hi hs F kk
    case lconst => exact q_lconst C hi hs F kk
    case iload_n => exact q_iload_n C hi hs F kk
    case iload => exact q_iload C hi hs F kk
    case aload_n => exact q_aload_n C hi hs F kk
    case aload => exact q_aload C hi hs F kk
    case lload_n => exact q_lload_n C hi hs F kk
    case lload => exact q_lload C hi hs F kk
    case istore_n => exact q_istore_n C hi hs F kk
    case istore => exact q_istore C hi hs F kk
    case astore_n => exact q_astore_n C hi hs F kk
    case astore => exact q_astore C hi hs F kk
    case lstore_n => exact q_lstore_n C hi hs F kk
    case lstore => exact q_lstore C hi hs F kk
    case iinc => exact q_iinc C hi hs F kk
    case iadd => exact q_iadd C hi hs F kk
    case isub => exact q_isub C hi hs F kk
    case imul => exact q_imul C hi hs F kk
    case iand => exact q_iand C hi hs F kk
    case ior => exact q_ior C hi hs F kk
    case ixor => exact q_ixor C hi hs F kk
    case ishl => exact q_ishl C hi hs F kk
    case ishr => exact q_ishr C hi hs F kk
    case iushr => exact q_iushr C hi hs F kk
    case idiv => exact q_idiv C hi hs F kk
    case irem => exact q_irem C hi hs F kk
    case ineg => exact q_ineg C hi hs F kk
    case i2b => exact q_i2b C hi hs F kk
    case i2s => exact q_i2s C hi hs F kk
    case i2c => exact q_i2c C hi hs F kk
    case i2l => exact q_i2l C hi hs F kk
    case l2i => exact q_l2i C hi hs F kk
    case ladd => exact q_ladd C hi hs F kk
    case lmul => exact q_lmul C hi hs F kk
    case ldiv => exact q_ldiv C hi hs F kk
    case lrem => exact q_lrem C hi hs F kk
    case lcmp => exact q_lcmp C hi hs F kk
    case ifCond => exact q_ifc C hi hs F kk
    case if_icmp => exact q_icmp C hi hs F kk
    case goto => exact q_goto C hi hs F kk
    case tableswitch => exact q_tsw C hi hs F kk
    case lookupswitch => exact q_lsw C hi hs F kk
    case dup => exact q_dup C hi hs F kk
    case pop => exact q_pop C hi hs F kk
    case dup_x1 => exact q_dup_x1 C hi hs F kk
    case dup2 => exact q_dup2 C hi hs F kk
    case getfield => exact q_getf C hi hs F kk
    case putfield => exact q_putf C hi hs F kk
    case aaload => exact q_aald C hi hs F kk
    case laload => exact q_lald C hi hs F kk
    case lastore => exact q_last C hi hs F kk
    case arraylength => exact q_alen C hi hs F kk
    case new => exact q_new C hi hs F hroom kk
    case newarray => exact q_newa C hi hs F hroom kk
    case multianewarray => exact q_mnaS C hi hs F hroom kk
    case iaload => exact q_rld (kind := 0) C hi hs F kk
    case baload => exact q_rld (kind := 1) C hi hs F kk
    case caload => exact q_rld (kind := 2) C hi hs F kk
    case iastore => exact q_rst (kind := 0) C hi hs F kk
    case bastore => exact q_rst (kind := 1) C hi hs F kk
    case castore => exact q_rst (kind := 2) C hi hs F kk
    case invokestatic x =>
      cases h901 : Nat.beq a1 901 with
      | true =>
        rw [h901] at hs
        simp only [c_I, h901, cond_true] at hc
        exact q_copyS (wAt_mem hc) C hi hs F kk
      | false =>
        rw [h901] at hs
        simp only [cond_false, s_inv] at hs
        split at hs
        · simp only [cond_eq_ite] at hs
          split at hs <;> cases hs
        · cases hs
    case invokevirtual x =>
      split at hs
      · simp only [cond_eq_ite] at hs
        split at hs <;> cases hs
      · cases hs
    case invokespecial x =>
      cases h900 : Nat.beq a1 900 with
      | true =>
        rw [h900] at hs
        simp only [c_I, h900, cond_true] at hc
        exact q_oinit (wAt_mem hc) C hi hs F kk
      | false =>
        rw [h900] at hs
        simp only [cond_false] at hs
        split at hs <;> cases hs
    case ireturn =>
      split at hs
      · unfold s_ret at hs
        split at hs
        · cases hs
        · simp only [cond_eq_ite] at hs
          split at hs <;> cases hs
        · cases hs
      · cases hs
    case lreturn =>
      split at hs
      · split at hs <;> cases hs
      · cases hs
    case return_ =>
      split at hs
      · split at hs <;> cases hs
      · cases hs
    all_goals (cases hs)
end Step4
