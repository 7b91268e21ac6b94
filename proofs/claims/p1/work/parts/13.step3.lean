/-! New cells, copies, Object.<init>; then the row over all instructions. -/
theorem q_zero {r : Nat → Int32} {b base : Nat} {t : FieldType} (h : t = .int ∨ t = .boolean ∨ (∃ u, t = .array u) ∨ ∃ n, t = .object n) : q_A r b base (p_zero t) (defaultValue t) := by
  rcases h with rfl | rfl | ⟨u, rfl⟩ | ⟨n, rfl⟩
  · exact ⟨0, rfl, rfl⟩
  · exact ⟨0, rfl, rfl⟩
  · rfl
  · rfl
theorem q_mapL {r : Nat → Int32} {b base : Nat} {α : Type} {f : α → pA} {g : α → Value} : ∀ (xs : List α), (∀ x ∈ xs, q_A r b base (f x) (g x)) → q_L r b base (xs.map f) (xs.map g)
  | [], _ => rfl
  | x :: xs, h => ⟨_, _, rfl, h x List.mem_cons_self, q_mapL xs (fun y hy => h y (List.mem_cons_of_mem _ hy))⟩
theorem q_int {r : Nat → Int32} {E : pE} {v : pV} {x : Int32} {zz : Int} (hE : q_E r E) (h : q_V r v x) (hz : p_lit E v = some zz) (h0 : 0 ≤ zz) : ¬ x < 0 ∧ x.toNatClampNeg = zz.toNat := by
  have e := (q_lit hE h hz).1
  refine ⟨fun hx => ?_, by show x.toInt.toNat = _; rw [e]⟩
  have h2 := Int32.lt_iff_toInt_lt.mp hx
  have h3 : (0 : Int32).toInt = 0 := rfl
  omega
section Step3
variable {p : Program} {l : Launch} {e : Env} {R : Room} {s : State} {m : MethodId} {args : Array Value} {below : List Frame} {meth : Method} {c : Code} {H : Heap} {locs : List Loc} {cells slots : Nat} {Q : State → Prop}
variable {dC : Nat → ClassId} {dI : Nat → Nat → Nat} {dA : FieldType → ClassId} {r : Nat → Int32} {b base L : Nat} {Hb : Heap} {k pc nx a1 a2 a3 : Nat} {z : Int} {lo : pL} {st : List pA} {E : pE} {h : pH} {ls : Array Slot} {vs : List Value} {l0 : List (Nat × Nat × pF)}
theorem q_new {ci : Nat} (C : q_Ctx p R s m args meth c dC dI dA r b base L Hb k) (hi : ins k pc = some (.new ci, nx, a1, a2, a3, z)) (hs : ((bif Nat.beq a1 99 then some (.inr (.inr (1, none))) else bif E.1 then some (.inl [(1, p_nF a1, nx, lo, .inr (.inl (some (h.length + 1))) :: st, E, h ++ [.inr (.inr (.inr (a1, p_new a1)))])]) else none) : Option pS) = some (.inl l0)) (F : q_Fr dC dI dA r b base Hb (mL k) (pc, lo, st, E, h) ls vs H locs) (hroom : ∀ q ∈ l0, cells + q.1 ≤ R.cells ∧ slots + q.2.1 ≤ R.slots) (kk : q_KK p l e R s m args below meth c cells slots Q dC dI dA r b base Hb k l0) : W p l e R s m args below meth c H locs cells slots Q (F0 m pc ls vs) := by
  obtain ⟨hx, hb, hml, hown, hts, hK, hnm, hbb, hRf, hRl, hk9⟩ := C
  obtain ⟨hlo, hst, hE, hG, hlc⟩ := F
  obtain ⟨en, hd⟩ := q_dec (n := 3) hk9 hi rfl
  have hc := (q_row hk9 hi).2.2.1
  subst en
  cases h99 : Nat.beq a1 99 with
  | true => rw [h99] at hs; cases hs
  | false =>
    rw [h99] at hs
    cases hfr : E.1 with
    | false => rw [hfr] at hs; cases hs
    | true =>
      rw [hfr] at hs
      cases hs
      simp only [c_I, c_new, h99, Bool.false_or] at hc
      split at hc
      · rename_i q hq
        obtain ⟨k1, k2, k3, k4, k5, k6⟩ := q_clsA _ _ hq
        have hnF : p_nF a1 = q.2.2 := by simp only [p_nF, hq]
        have hr0 := hroom _ (List.mem_singleton.mpr rfl)
        have hKn := hK.1.1 a1 _ hq
        have hs2 : slots + q.2.2 ≤ R.slots := by rw [← hnF]; exact hr0.2
        refine W.newcK (n := q.2.2) hx hb hown (hts _ (wAt_mem hc)) (hts _ k4) (hts _ k5) rfl hd hr0.1 hs2 hKn.2.1 rfl fun H1 kC hkC e1 z1 o1 => ?_
        have hO : t_OB H.size (dC a1) q.2.2 (dI a1) H1 (vp_V ((List.range q.2.2).map (fun j => defaultValue (tyOf a1 j)))) := (u_born (tyOf a1) hts k1 hKn hkC e1 k2).to (fun j hj => by simp [vp_V, hj])
        have hsz : H.size = base + h.length := hG.2.2.1 hfr
        have hres := kk _ (List.mem_singleton.mpr rfl) ls (.ref H.size :: vs) H1 locs ⟨hlo, ⟨_, _, rfl, by show _ = Value.ref (base + h.length); rw [hsz], hst⟩, hE, hG.app hfr (by rw [z1]; rfl) o1 (fun j c1 hj => by
          have h0 : j < 1 := (List.getElem?_eq_some_iff.mp hj).1
          rw [show j = 0 by omega] at hj ⊢
          cases hj
          refine ⟨_, q, ?_, hq, hO⟩
          unfold p_new
          rw [hnF]
          exact q_mapL _ (fun x hx => q_zero (k6 x (List.mem_range.mp hx)))), hlc⟩
        rw [hnF] at hres
        exact hres
      · cases hc
theorem q_newa {t : ArrayType} (C : q_Ctx p R s m args meth c dC dI dA r b base L Hb k) (hi : ins k pc = some (.newarray t, nx, a1, a2, a3, z)) (hs : ((match st with
      | .inl (.inl zz) :: rs => bif E.1 && decide (0 ≤ zz) && decide (zz ≤ 65536) then
          some (.inl [(1, zz.toNat, nx, lo, .inr (.inl (some (h.length + 1))) :: rs, E, h ++ [match (generalizing := false) t with
            | .long => .inr (.inl zz.toNat)
            | t => .inl (p_aty t, zz.toNat, fun _ => .inl 0)])]) else none
      | _ => none) : Option pS) = some (.inl l0)) (F : q_Fr dC dI dA r b base Hb (mL k) (pc, lo, st, E, h) ls vs H locs) (hroom : ∀ q ∈ l0, cells + q.1 ≤ R.cells ∧ slots + q.2.1 ≤ R.slots) (kk : q_KK p l e R s m args below meth c cells slots Q dC dI dA r b base Hb k l0) : W p l e R s m args below meth c H locs cells slots Q (F0 m pc ls vs) := by
  obtain ⟨hx, hb, hml, hown, hts, hK, hnm, hbb, hRf, hRl, hk9⟩ := C
  obtain ⟨hlo, hst, hE, hG, hlc⟩ := F
  obtain ⟨en, hd⟩ := q_dec (n := 2) hk9 hi rfl
  have hna : c_naI (.newarray t) = true := (q_row hk9 hi).2.2.2.2
  subst en
  split at hs
  · rename_i zz rs
    obtain ⟨w, vs', rfl, ⟨x, rfl, hxx⟩, hst'⟩ := hst
    simp only [cond_eq_ite, Bool.and_eq_true, decide_eq_true_eq] at hs
    split at hs
    · rename_i hh
      cases hs
      have hfr := hh.1.1
      have ex : x = Int32.ofInt zz := hxx
      have etI : x.toInt = zz := by rw [ex]; exact Int32.toInt_ofInt_of_le (by omega) (by omega)
      have hn0 : ¬ x < 0 := fun hlt => by
        have h2 := Int32.lt_iff_toInt_lt.mp hlt
        have h3 : (0 : Int32).toInt = 0 := rfl
        omega
      have hN : x.toNatClampNeg = zz.toNat := by show x.toInt.toNat = _; rw [etI]
      have hr0 := hroom _ (List.mem_singleton.mpr rfl)
      have hsz : H.size = base + h.length := hG.2.2.1 hfr
      have hle : zz.toNat ≤ 65536 := by omega
      cases t with
      | float => cases hna
      | double => cases hna
      | short => cases hna
      | long =>
        refine va_newaK (atype := .long) hx hb (hts _ q_ac_long) rfl hd rfl hn0 hN (by show zz.toNat * 8 ≤ _; omega) hr0.1 hr0.2 rfl fun H1 cA e1 z1 o1 hAr hNm => ?_
        have hcA : cA = dA .long := Option.some.inj (hNm.symm.trans (hK.1.2 4 _ rfl).2)
        subst hcA
        exact kk _ (List.mem_singleton.mpr rfl) ls (.ref H.size :: vs') H1 locs ⟨hlo, ⟨_, _, rfl, by show _ = Value.ref (base + h.length); rw [hsz], hst'⟩, hE, hG.app hfr (by rw [z1]; rfl) o1 (fun j c1 hj => by
          have h0 : j < 1 := (List.getElem?_eq_some_iff.mp hj).1
          rw [show j = 0 by omega] at hj ⊢
          cases hj
          exact ⟨fun _ => 0, by rw [Nat.add_zero, e1]; rfl⟩), hlc⟩
      | boolean =>
        refine va_newaK (atype := .boolean) hx hb (hts _ q_ac_boolean) rfl hd rfl hn0 hN (by show zz.toNat * 1 ≤ _; omega) hr0.1 hr0.2 rfl fun H1 cA e1 z1 o1 hAr hNm => ?_
        have hcA : cA = dA .boolean := Option.some.inj (hNm.symm.trans (hK.1.2 2 _ rfl).2)
        subst hcA
        exact kk _ (List.mem_singleton.mpr rfl) ls (.ref H.size :: vs') H1 locs ⟨hlo, ⟨_, _, rfl, by show _ = Value.ref (base + h.length); rw [hsz], hst'⟩, hE, hG.app hfr (by rw [z1]; rfl) o1 (fun j c1 hj => by
          have h0 : j < 1 := (List.getElem?_eq_some_iff.mp hj).1
          rw [show j = 0 by omega] at hj ⊢
          cases hj
          exact ⟨fun _ => 0, by rw [Nat.add_zero, e1]; rfl, fun j _ => rfl, by simp [p_aty, newarray.typeOf]⟩), hlc⟩
      | char =>
        refine va_newaK (atype := .char) hx hb (hts _ q_ac_char) rfl hd rfl hn0 hN (by show zz.toNat * 2 ≤ _; omega) hr0.1 hr0.2 rfl fun H1 cA e1 z1 o1 hAr hNm => ?_
        have hcA : cA = dA .char := Option.some.inj (hNm.symm.trans (hK.1.2 3 _ rfl).2)
        subst hcA
        exact kk _ (List.mem_singleton.mpr rfl) ls (.ref H.size :: vs') H1 locs ⟨hlo, ⟨_, _, rfl, by show _ = Value.ref (base + h.length); rw [hsz], hst'⟩, hE, hG.app hfr (by rw [z1]; rfl) o1 (fun j c1 hj => by
          have h0 : j < 1 := (List.getElem?_eq_some_iff.mp hj).1
          rw [show j = 0 by omega] at hj ⊢
          cases hj
          exact ⟨fun _ => 0, by rw [Nat.add_zero, e1]; rfl, fun j _ => rfl, by simp [p_aty, newarray.typeOf]⟩), hlc⟩
      | byte =>
        refine va_newaK (atype := .byte) hx hb (hts _ q_ac_byte) rfl hd rfl hn0 hN (by show zz.toNat * 1 ≤ _; omega) hr0.1 hr0.2 rfl fun H1 cA e1 z1 o1 hAr hNm => ?_
        have hcA : cA = dA .byte := Option.some.inj (hNm.symm.trans (hK.1.2 1 _ rfl).2)
        subst hcA
        exact kk _ (List.mem_singleton.mpr rfl) ls (.ref H.size :: vs') H1 locs ⟨hlo, ⟨_, _, rfl, by show _ = Value.ref (base + h.length); rw [hsz], hst'⟩, hE, hG.app hfr (by rw [z1]; rfl) o1 (fun j c1 hj => by
          have h0 : j < 1 := (List.getElem?_eq_some_iff.mp hj).1
          rw [show j = 0 by omega] at hj ⊢
          cases hj
          exact ⟨fun _ => 0, by rw [Nat.add_zero, e1]; rfl, fun j _ => rfl, by simp [p_aty, newarray.typeOf]⟩), hlc⟩
      | int =>
        refine va_newaK (atype := .int) hx hb (hts _ q_ac_int) rfl hd rfl hn0 hN (by show zz.toNat * 4 ≤ _; omega) hr0.1 hr0.2 rfl fun H1 cA e1 z1 o1 hAr hNm => ?_
        have hcA : cA = dA .int := Option.some.inj (hNm.symm.trans (hK.1.2 0 _ rfl).2)
        subst hcA
        exact kk _ (List.mem_singleton.mpr rfl) ls (.ref H.size :: vs') H1 locs ⟨hlo, ⟨_, _, rfl, by show _ = Value.ref (base + h.length); rw [hsz], hst'⟩, hE, hG.app hfr (by rw [z1]; rfl) o1 (fun j c1 hj => by
          have h0 : j < 1 := (List.getElem?_eq_some_iff.mp hj).1
          rw [show j = 0 by omega] at hj ⊢
          cases hj
          exact ⟨fun _ => 0, by rw [Nat.add_zero, e1]; rfl, fun j _ => rfl, by simp [p_aty, newarray.typeOf]⟩), hlc⟩
    · cases hs
  · cases hs
theorem q_mnaS {ci dims : Nat} (C : q_Ctx p R s m args meth c dC dI dA r b base L Hb k) (hi : ins k pc = some (.multianewarray ci dims, nx, a1, a2, a3, z)) (hs : ((match st with
      | .inl (.inl k1) :: .inl (.inl n1) :: rs => bif E.1 && decide (0 ≤ k1) && decide (k1 ≤ 65536) && decide (0 ≤ n1) && decide (n1 ≤ 65536) then
          some (.inl [(1 + n1.toNat, n1.toNat + n1.toNat * k1.toNat, nx, lo, .inr (.inl (some (h.length + 1))) :: rs, E, p_mna h n1.toNat k1.toNat)]) else none
      | _ => none) : Option pS) = some (.inl l0)) (F : q_Fr dC dI dA r b base Hb (mL k) (pc, lo, st, E, h) ls vs H locs) (hroom : ∀ q ∈ l0, cells + q.1 ≤ R.cells ∧ slots + q.2.1 ≤ R.slots) (kk : q_KK p l e R s m args below meth c cells slots Q dC dI dA r b base Hb k l0) : W p l e R s m args below meth c H locs cells slots Q (F0 m pc ls vs) := by
  obtain ⟨hx, hb, hml, hown, hts, hK, hnm, hbb, hRf, hRl, hk9⟩ := C
  obtain ⟨hlo, hst, hE, hG, hlc⟩ := F
  obtain ⟨en, hd⟩ := q_dec (n := 4) hk9 hi rfl
  have hc := (q_row hk9 hi).2.2.1
  subst en
  simp only [c_I, Bool.and_eq_true] at hc
  have hdm := Nat.eq_of_beq_eq_true hc.2
  subst hdm
  split at hs
  · rename_i k1 n1 rs
    obtain ⟨w, vs', rfl, ⟨y, rfl, hy⟩, w2, vs2, rfl, ⟨x, rfl, hxx⟩, hst'⟩ := hst
    simp only [cond_eq_ite, Bool.and_eq_true, decide_eq_true_eq] at hs
    split at hs
    · rename_i hh
      cases hs
      have hfr := hh.1.1.1.1
      have ex : x = Int32.ofInt n1 := hxx
      have ey : y = Int32.ofInt k1 := hy
      have etx : x.toInt = n1 := by rw [ex]; exact Int32.toInt_ofInt_of_le (by omega) (by omega)
      have ety : y.toInt = k1 := by rw [ey]; exact Int32.toInt_ofInt_of_le (by omega) (by omega)
      have h3 : (0 : Int32).toInt = 0 := rfl
      have hx0 : ¬ x < 0 := fun hlt => by have h2 := Int32.lt_iff_toInt_lt.mp hlt; omega
      have hy0 : ¬ y < 0 := fun hlt => by have h2 := Int32.lt_iff_toInt_lt.mp hlt; omega
      have hN : x.toNatClampNeg = n1.toNat := by show x.toInt.toNat = _; rw [etx]
      have hM : y.toNatClampNeg = k1.toNat := by show y.toInt.toNat = _; rw [ety]
      have hr0 := hroom _ (List.mem_singleton.mpr rfl)
      have hsz : H.size = base + h.length := hG.2.2.1 hfr
      refine q_mna hx hb hown (hts _ (wAt_mem hc.1)) hK.2.2.2.1 (hts _ q_ac_int) (hK.1.2 0 _ rfl).2 (hK.1.2 5 _ rfl).2 hx0 hy0 hN hM (by omega) (by omega) hr0.1 hr0.2 hd (fun H1 z1 o1 c0 cs => ?_)
      have hres := kk _ (List.mem_singleton.mpr rfl) ls (.ref H.size :: vs2) H1 locs ⟨hlo, ⟨_, _, rfl, by show _ = Value.ref (base + h.length); rw [hsz], hst'⟩, hE, ?_, hlc⟩
      · simp only [Nat.add_assoc] at hres ⊢
        exact hres
      · refine hG.app hfr (by rw [z1, List.length_cons, List.length_replicate]; omega) o1 (fun j c1 hj => ?_)
        rcases j with _ | j
        · simp only [List.getElem?_cons_zero] at hj
          cases hj
          refine ⟨_, by rw [Nat.add_zero]; exact c0, fun j hj => ?_⟩
          simp only [if_pos hj, va_rf]
          have hbl : Nat.blt j n1.toNat = true := by simp only [Nat.blt]; exact Nat.ble_eq_true_of_le hj
          rw [hbl]
          show Value.ref (H.size + 1 + j) = q_rf b base (some (h.length + 2 + j))
          rw [show h.length + 2 + j = (h.length + 1 + j) + 1 by omega]
          exact congrArg Value.ref (show (H.size + 1 + j : Nat) = base + (h.length + 1 + j) by omega)
        · simp only [List.getElem?_cons_succ] at hj
          have hjl : j < n1.toNat := by
            have := (List.getElem?_eq_some_iff.mp hj).1
            rwa [List.length_replicate] at this
          rw [List.getElem?_replicate, if_pos hjl] at hj
          cases hj
          refine ⟨fun _ => 0, ?_, fun _ _ => rfl, Or.inl rfl⟩
          rw [show H.size + (j + 1) = H.size + 1 + j by omega]
          exact cs j hjl
    · cases hs
  · cases hs
theorem q_copyS {ci : Nat} (hlk : Cond.methodLink (mY k).cls ci arraycopyName ∈ tb) (C : q_Ctx p R s m args meth c dC dI dA r b base L Hb k) (hi : ins k pc = some (.invokestatic ci, nx, a1, a2, a3, z)) (hs : (p_copy nx lo st E h : Option pS) = some (.inl l0)) (F : q_Fr dC dI dA r b base Hb (mL k) (pc, lo, st, E, h) ls vs H locs) (kk : q_KK p l e R s m args below meth c cells slots Q dC dI dA r b base Hb k l0) : W p l e R s m args below meth c H locs cells slots Q (F0 m pc ls vs) := by
  obtain ⟨hx, hb, hml, hown, hts, hK, hnm, hbb, hRf, hRl, hk9⟩ := C
  obtain ⟨hlo, hst, hE, hG, hlc⟩ := F
  obtain ⟨en, hd⟩ := q_dec (n := 3) hk9 hi rfl
  subst en
  unfold p_copy at hs
  split at hs
  · rename_i n dp q1 sp q0 rs
    obtain ⟨w1, vs1, rfl, ⟨xn, rfl, hn⟩, w2, vs2, rfl, ⟨xd, rfl, hdp⟩, w3, vs3, rfl, hw3, w4, vs4, rfl, ⟨xs, rfl, hsp⟩, w5, vs5, rfl, hw5, hst'⟩ := hst
    have e3 : w3 = .ref (base + q1) := hw3
    have e5 : w5 = .ref (base + q0) := hw5
    subst e3
    subst e5
    split at hs
    · rename_i n0 f ha0
      split at hs
      · rename_i n1 g ha1
        split at hs
        · rename_i zn hzn
          split at hs
          · rename_i zd hzd
            split at hs
            · rename_i zs hzs
              simp only [cond_eq_ite, Bool.and_eq_true, decide_eq_true_eq] at hs
              split at hs
              · rename_i hh
                have hcat : p_cats rs ≤ 8 := Nat.le_of_ble_eq_true hh.2
                obtain ⟨n1a, n1b⟩ := q_int hE hn hzn (by omega)
                obtain ⟨d1a, d1b⟩ := q_int hE hdp hzd (by omega)
                obtain ⟨s1a, s1b⟩ := q_int hE hsp hzs (by omega)
                obtain ⟨-, f', f1, f2, -⟩ := q_arr hG ha0
                obtain ⟨gk, g', g1, g2, g3⟩ := q_arr hG ha1
                refine q_copy hx hb (by rw [hml]; exact hlo.1.symm) hown (hts _ hlk) (hts _ q_w_nat) (hts _ q_w_sta) (hts _ q_w_sys) (hK.1.2 0 _ rfl).1 f1 g1 s1a d1a n1a (by rw [s1b, n1b]; omega) (by rw [d1b, n1b]; omega) (by omega) (by rw [hst'.cats]; have : nativeFrameWords "java/lang/System" "arraycopy" 5 ≤ 100 := (by decide); omega) hd (fun H1 Lq hL z1 z2 z3 => ?_)
                rw [s1b, d1b, n1b] at z3
                refine q_go hs kk ⟨hlo, hst', hE, hG.set gk z1 z2 ⟨_, z3, fun j hj => ?_, g3⟩, fun q hq => ?_⟩
                · unfold p_cpy va_cpy
                  by_cases hin : zd.toNat ≤ j ∧ j < zd.toNat + zn.toNat
                  · rw [if_pos hin]
                    have b1 : Nat.ble zd.toNat j = true := Nat.ble_eq_true_of_le hin.1
                    have b2 : Nat.blt j (zd.toNat + zn.toNat) = true := by simp only [Nat.blt]; exact Nat.ble_eq_true_of_le hin.2
                    rw [b1, b2]
                    exact f2 _ (by omega)
                  · rw [if_neg hin]
                    have b3 : (Nat.ble zd.toNat j && Nat.blt j (zd.toNat + zn.toNat)) = false := by
                      cases hb9 : (Nat.ble zd.toNat j && Nat.blt j (zd.toNat + zn.toNat)) with
                      | false => rfl
                      | true =>
                        simp only [Bool.and_eq_true] at hb9
                        exact absurd ⟨Nat.le_of_ble_eq_true hb9.1, q_blt hb9.2⟩ hin
                    rw [b3]
                    exact g2 j hj
                · rcases List.mem_append.mp hq with hq | hq
                  · exact hlc q hq
                  · rw [hL q hq]
                    exact Nat.le_add_right _ _
              · cases hs
            · cases hs
          · cases hs
        · cases hs
      · cases hs
    · cases hs
  · cases hs
theorem q_oinit {ci : Nat} (hlk : Cond.methodLink (mY k).cls ci objectInit ∈ tb) (C : q_Ctx p R s m args meth c dC dI dA r b base L Hb k) (hi : ins k pc = some (.invokespecial ci, nx, a1, a2, a3, z)) (hs : ((match st with
        | .inr (.inl (some (_ + 1))) :: rs => bif Nat.ble (p_cats rs) 8 then p_go nx lo rs E h else none
        | _ => none) : Option pS) = some (.inl l0)) (F : q_Fr dC dI dA r b base Hb (mL k) (pc, lo, st, E, h) ls vs H locs) (kk : q_KK p l e R s m args below meth c cells slots Q dC dI dA r b base Hb k l0) : W p l e R s m args below meth c H locs cells slots Q (F0 m pc ls vs) := by
  obtain ⟨hx, hb, hml, hown, hts, hK, hnm, hbb, hRf, hRl, hk9⟩ := C
  obtain ⟨hlo, hst, hE, hG, hlc⟩ := F
  obtain ⟨en, hd⟩ := q_dec (n := 3) hk9 hi rfl
  subst en
  split at hs
  · rename_i q rs
    obtain ⟨w, vs', rfl, hw, hst'⟩ := hst
    have e2 : w = .ref (base + q) := hw
    subst e2
    cases hc8 : Nat.ble (p_cats rs) 8 with
    | false => rw [hc8] at hs; cases hs
    | true =>
      rw [hc8] at hs
      have hcat := Nat.le_of_ble_eq_true hc8
      exact W.objInit hx hb hown (hts _ hlk) (hts _ q_w_oi) (hts _ q_w_oc) rfl (by rw [hml]; exact hlo.1) rfl hd (by omega) (by rw [hst'.cats]; show 2 * 0 + _ + 12 ≤ _; omega) (q_go hs kk ⟨hlo, hst', hE, hG, hlc⟩)
  · cases hs
theorem q_next (C : q_Ctx p R s m args meth c dC dI dA r b base L Hb k) (hs : p_step L k pc lo st E h = some (.inl l0)) (F : q_Fr dC dI dA r b base Hb (mL k) (pc, lo, st, E, h) ls vs H locs) (hroom : ∀ q ∈ l0, cells + q.1 ≤ R.cells ∧ slots + q.2.1 ≤ R.slots) (kk : q_KK p l e R s m args below meth c cells slots Q dC dI dA r b base Hb k l0) : W p l e R s m args below meth c H locs cells slots Q (F0 m pc ls vs) := by
  have hk9 : k < 300 := C.2.2.2.2.2.2.2.2.2.2
  unfold p_step at hs
  cases hi : ins k pc with
  | none => rw [hi] at hs; cases hs
  | some row =>
    rw [hi] at hs
    obtain ⟨i, nx, a1, a2, a3, z⟩ := row
    have hc := (q_row hk9 hi).2.2.1
    cases i <;> dsimp only at hs
    case iconst => exact q_iconst C hi hs F kk
    case bipush => exact q_bipush C hi hs F kk
    case sipush => exact q_sipush C hi hs F kk
    case ldc => exact q_ldc C hi hs F kk
    case ldc_w => exact q_ldcw C hi hs F kk
    case iload_n => exact q_iload_n C hi hs F kk
    case iload => exact q_iload C hi hs F kk
    case aload_n => exact q_aload_n C hi hs F kk
    case aload => exact q_aload C hi hs F kk
    case istore_n => exact q_istore_n C hi hs F kk
    case istore => exact q_istore C hi hs F kk
    case astore_n => exact q_astore_n C hi hs F kk
    case astore => exact q_astore C hi hs F kk
    case iinc => exact q_iinc C hi hs F kk
    case iadd => exact q_iadd C hi hs F kk
    case isub => exact q_isub C hi hs F kk
    case imul => exact q_imul C hi hs F kk
    case iand => exact q_iand C hi hs F kk
    case ior => exact q_ior C hi hs F kk
    case ixor => exact q_ixor C hi hs F kk
    case ishl => exact q_ishl C hi hs F kk
    case ishr => exact q_ishr C hi hs F kk
    case iushr => exact q_iushr C hi hs F kk
    case idiv => exact q_idiv C hi hs F kk
    case irem => exact q_irem C hi hs F kk
    case ineg => exact q_ineg C hi hs F kk
    case i2b => exact q_i2b C hi hs F kk
    case i2s => exact q_i2s C hi hs F kk
    case i2c => exact q_i2c C hi hs F kk
    case ifCond => exact q_ifc C hi hs F kk
    case if_icmp => exact q_icmp C hi hs F kk
    case goto => exact q_goto C hi hs F kk
    case tableswitch => exact q_tsw C hi hs F kk
    case dup => exact q_dup C hi hs F kk
    case pop => exact q_pop C hi hs F kk
    case dup_x1 => exact q_dup_x1 C hi hs F kk
    case dup2 => exact q_dup2 C hi hs F kk
    case getfield => exact q_getf C hi hs F kk
    case putfield => exact q_putf C hi hs F kk
    case aaload => exact q_aald C hi hs F kk
    case arraylength => exact q_alen C hi hs F kk
    case new => exact q_new C hi hs F hroom kk
    case newarray => exact q_newa C hi hs F hroom kk
    case multianewarray => exact q_mnaS C hi hs F hroom kk
    case iaload => exact q_rld (kind := 0) C hi hs F kk
    case baload => exact q_rld (kind := 1) C hi hs F kk
    case caload => exact q_rld (kind := 2) C hi hs F kk
    case iastore => exact q_rst (kind := 0) C hi hs F kk
    case bastore => exact q_rst (kind := 1) C hi hs F kk
    case castore => exact q_rst (kind := 2) C hi hs F kk
    case invokestatic x =>
      cases h901 : Nat.beq a1 901 with
      | true =>
        rw [h901] at hs
        simp only [c_I, h901, cond_true] at hc
        exact q_copyS (wAt_mem hc) C hi hs F kk
      | false =>
        rw [h901] at hs
        simp only [cond_false, p_inv] at hs
        split at hs
        · simp only [cond_eq_ite] at hs
          split at hs <;> cases hs
        · cases hs
    case invokevirtual x =>
      split at hs
      · simp only [cond_eq_ite] at hs
        split at hs <;> cases hs
      · cases hs
    case invokespecial x =>
      cases h900 : Nat.beq a1 900 with
      | true =>
        rw [h900] at hs
        simp only [c_I, h900, cond_true] at hc
        exact q_oinit (wAt_mem hc) C hi hs F kk
      | false =>
        rw [h900] at hs
        simp only [cond_false] at hs
        split at hs <;> cases hs
    case ireturn =>
      split at hs
      · split at hs
        · cases hs
        · split at hs
          · simp only [cond_eq_ite] at hs
            split at hs <;> cases hs
          · cases hs
        · cases hs
      · cases hs
    case return_ =>
      split at hs
      · split at hs <;> cases hs
      · cases hs
    all_goals (first | (cases hs; done) | skip)
end Step3
