/-! Calls of plain methods, and of Math.min and Math.max. -/
section CallW0
variable {p : Program} {l : Launch} {e : Env} {R : Room} {s : State} {m : MethodId} {args : Array Value} {below : List Frame} {meth : Method} {c : Code} {H : Heap} {locs : List Loc} {cells slots : Nat} {Q : State → Prop}
theorem q_callW {pc mc ms base : Nat} {ls : Array Slot} {st0 rest : List Value} {Qa : State → Outcome → State → Prop} (hr : va_Run p l e R s m args below meth c H locs cells slots mc ms (F0 m pc ls st0) rest Qa (fun q => base ≤ q)) (hlc : ∀ q ∈ locs, base ≤ q.base)
    (kk : ∀ (v : Option Value) (st t : State) (locs1 : List Loc), Qa st (.returned v) t → (∀ q ∈ locs1, base ≤ q.base) → W p l e R s m args below meth c t.heap locs1 (cells + mc) (slots + ms) Q (F0 m (pc + 3) ls (v.toList ++ rest))) : W p l e R s m args below meth c H locs cells slots Q (F0 m pc ls st0) := by
  intro T hT X
  obtain ⟨v, st₀, t, T', L, h0, X', hL, e1, e2, hq, st⟩ := hr T hT X
  obtain ⟨t2, a1, b1⟩ := kk v st₀ t (locs ++ L) hq (fun q hq => by
    rcases List.mem_append.mp hq with h | h
    · exact hlc q h
    · exact hL q h) T' e1 X'
  exact ⟨t2, st t2 a1, b1⟩
end CallW0
theorem q_appL {r : Nat → Int32} {b base : Nat} {a : Option pA} {v : Option Value} {rs : List pA} {vr : List Value} (h1 : q_ret r b base a v) (h2 : q_L r b base rs vr) : q_L r b base (a.toList ++ rs) (v.toList ++ vr) := by
  cases a with
  | none =>
    have e : v = none := h1
    subst e
    exact h2
  | some a =>
    obtain ⟨w, rfl, hw⟩ := h1
    exact ⟨w, vr, rfl, hw, h2⟩
theorem q_beqF {a n : Nat} (h : a ≠ n) : Nat.beq a n = false := by
  cases hb : Nat.beq a n with
  | false => rfl
  | true => exact absurd (Nat.eq_of_beq_eq_true hb) h
theorem q_bleF {a n : Nat} (h : a < n) : Nat.ble n a = false := by
  cases hb : Nat.ble n a with
  | false => rfl
  | true => exact absurd (Nat.le_of_ble_eq_true hb) (by omega)
set_option maxRecDepth 100000 in
theorem q_key0 {D N : Nat} (h : 80 * D + 480 ≤ N) (y : Nat) (hy : y ≤ 40) : 8 + (y + 11) + (80 * D + 400) ≤ N := by omega
section Plain
variable {l : Launch} {dC : Nat → ClassId} {dI : Nat → Nat → Nat} {dA : FieldType → ClassId} {r : Nat → Int32} {b base L : Nat} {Hb : Heap} {c D mc ms : Nat} {as : List pA} {E : pE} {h : pH} {os : List pO}
theorem q_callPlain (hk : c < 299) (hp : c_plain c = true) (hM : ∀ vs, q_L r b base as vs → q_E r E → Met l (mY c) (q_ws c) (q_rm D mc ms) (q_Pc dC dI dA r b base L Hb E h vs) (q_Qc dC dI dA r b base Hb os) mc ms (fun q => base ≤ q)) : q_CallOK l dC dI dA r b base L Hb D c as E h mc ms os := by
  intro p e R s m args below meth cd H locs cells slots Q k pc nx lo st rs ls vs C site hcat F hD hD2 hcl hsl hret kk
  obtain ⟨hx, hb, hml, hown, hts, hK, hnm, hbb, hRf, hRl, hk9⟩ := C
  obtain ⟨hlo, hst, hE, hG, hlc⟩ := F
  obtain ⟨w1, w2, w3, w4, w5, w6, w7⟩ := q_MW (q_meth hk hp)
  have key0 : ∀ y : Nat, y ≤ 40 → 8 + (y + 11) + (80 * D + 400) ≤ R.locals := q_key0 hD2
  have hroom : (q_rm D mc ms).frames + 1 ≤ R.frames ∧ 8 + (mL c + 11) + (q_rm D mc ms).locals ≤ R.locals := ⟨by rw [show (q_rm D mc ms).frames = D + 8 from rfl]; omega, key0 _ w7⟩
  have blind : ∀ vv, FrameBlind (q_Pc dC dI dA r b base L Hb E h vv) := fun vv a U g mk q => ⟨q.1, q.2.1.calling, q.2.2⟩
  have pre : ∀ vv : List Value, ∀ U : State, U.heap = H → s.WarmedH U.vm → q_Pc dC dI dA r b base L Hb E h vv vv.toArray U := fun vv U hU hW => ⟨rfl, hK.moved hW, by rw [hU]; exact hG⟩
  have fin : ∀ (vr : List Value), q_L r b base rs vr → nx = pc + 3 → ∀ (a : Array Value) (v : Option Value) (st t : State) (locs1 : List Loc), q_Qc dC dI dA r b base Hb os a st (.returned v) t → (∀ q ∈ locs1, base ≤ q.base) → W p l e R s m args below meth cd t.heap locs1 (cells + mc) (slots + ms) Q (F0 m (pc + 3) ls (v.toList ++ vr)) := by
    intro vr hvr hnx a v st2 t locs1 hq hl1
    obtain ⟨o, ho, ho0, ⟨v2, hv2, hv3⟩, hoE, hoG⟩ := hq
    cases hv2
    obtain ⟨f, hf⟩ := hret o ho
    obtain ⟨e0, ret0, pc0, lo0, st0, E0, h0⟩ := o
    simp only at ho0
    subst ho0
    cases hf
    subst hnx
    exact kk _ ho _ rfl ls _ t.heap locs1 ⟨hlo, q_appL hv3 hvr, hoE, hoG, hl1⟩
  obtain ⟨x, a2, a3, z, site⟩ := site
  rcases site with ⟨hi, ht⟩ | ⟨hi, ht, hr⟩ | ⟨hi, h900, ht, q, as', rfl⟩
  · obtain ⟨en, hd⟩ := q_dec (n := 3) hk9 hi rfl
    have hc := (q_row hk9 hi).2.2.1
    simp only [c_I, q_beqF (show c ≠ 901 by omega), cond_false, nMth, q_bleF (show c < 303 by omega), Bool.false_or, Bool.and_eq_true] at hc
    have ea2 := Nat.eq_of_beq_eq_true hc.2
    obtain ⟨wv, vr, rfl, g1, g2, g3⟩ := p_takeS ht rfl hst
    rw [List.append_nil] at g1
    refine q_callW (va_runS (As := wv.reverse) (rest := vr) ⟨hx, hb, hml, hown, hts⟩ (hM _ g1 hE) ⟨callB_of (mP c) hts (q_good w1) rfl rfl rfl (hts _ w2) (hts _ (wAt_mem hc.1.1)) ⟨w4, w5, w6⟩ hroom, hts _ (wAt_mem hc.1.2)⟩ ⟨blind _, pre _⟩ rfl (by rw [List.length_reverse, g3, ea2]) hlo.1 (by rw [List.reverse_reverse]) (lv_room (by rw [g2.cats]; exact hcat)) hd ⟨hcl, hsl⟩) hlc (fin vr g2 en _)
  · obtain ⟨en, hd⟩ := q_dec (n := 3) hk9 hi rfl
    have hc := (q_row hk9 hi).2.2.1
    simp only [c_I, nMth, q_bleF (show c < 303 by omega), Bool.false_or, Bool.and_eq_true] at hc
    have ea2 := Nat.eq_of_beq_eq_true hc.2
    obtain ⟨wv, vr, rfl, g1, g2, g3⟩ := p_takeS ht rfl hst
    rw [List.append_nil] at g1
    unfold p_rcv at hr
    split at hr
    · rename_i q as2
      split at hr
      · rename_i ci fs ho
        have eci := Nat.eq_of_beq_eq_true hr
        obtain ⟨w, As, hrev, hw, hAs⟩ := g1
        have ew : w = .ref (base + q) := hw
        subst ew
        have hwv : wv = As.reverse ++ [.ref (base + q)] := by
          have := congrArg List.reverse hrev
          rw [List.reverse_reverse, List.reverse_cons] at this
          exact this
        have hlen : As.length = mP c := by
          have h9 := congrArg List.length hwv
          rw [List.length_append, List.length_reverse, List.length_singleton, g3] at h9
          omega
        have hq0 := hc.1.2
        unfold c_cls at hq0
        split at hq0
        · rename_i q0 hq1
          have hq2 := of_decide_eq_true hq0
          obtain ⟨-, us, w9, k1, k2, cell, k3, k4, k5, k6⟩ := q_obj hG ho
          rw [eci] at k2 k4
          cases Option.some.inj (hq1.symm.trans k2)
          have hcls : s.vm.findClass (mY c).cls = some cell.cls := by rw [← hq2, k4]; exact (hK.1.1 _ _ hq1).2.1
          refine q_callW (va_runV (As := As) (rest := vr) (b := base + q) (C := (mY c).cls) ⟨hx, hb, hml, hown, hts⟩ (hM (.ref (base + q) :: As) ⟨_, _, rfl, rfl, hAs⟩ hE) ⟨callB_of (mP c) hts (q_good w1) rfl rfl rfl (hts _ w2) (hts _ (wAt_mem hc.1.1.1.1.2)) ⟨w4, w5, w6⟩ hroom, hts _ (wAt_mem hc.1.1.1.2), hts _ (wAt_mem hc.1.1.2)⟩ ⟨blind _, ⟨cell, k3, by rw [k5]; rfl, hcls⟩, pre _⟩ rfl hlen hlo.1 (by rw [hwv, List.append_assoc]; rfl) (lv_room (by rw [g2.cats]; exact hcat)) hd ⟨hcl, hsl⟩) hlc (fin vr g2 en _)
        · cases hq0
      · cases hr
    · cases hr
  · obtain ⟨en, hd⟩ := q_dec (n := 3) hk9 hi rfl
    have hc := (q_row hk9 hi).2.2.1
    simp only [c_I, h900, cond_false, nMth, q_bleF (show c < 303 by omega), Bool.false_or, Bool.and_eq_true, decide_eq_true_eq] at hc
    have ea2 := Nat.eq_of_beq_eq_true hc.2
    obtain ⟨wv, vr, rfl, g1, g2, g3⟩ := p_takeS ht rfl hst
    rw [List.append_nil] at g1
    obtain ⟨w, As, hrev, hw, hAs⟩ := g1
    have ew : w = .ref (base + q) := hw
    subst ew
    have hwv : wv = As.reverse ++ [.ref (base + q)] := by
      have := congrArg List.reverse hrev
      rw [List.reverse_reverse, List.reverse_cons] at this
      exact this
    have hlen : As.length = mP c := by
      have h9 := congrArg List.length hwv
      rw [List.length_append, List.length_reverse, List.length_singleton, g3] at h9
      omega
    have hR := hc.1.2
    have hN := hc.1.1.2
    have hI := hts _ (wAt_mem hc.1.1.1.2)
    have hlink := hc.1.1.1.1.2
    have hMM := hM (.ref (base + q) :: As) ⟨_, _, rfl, rfl, hAs⟩ hE
    cases hz : decide (z = 1) with
    | true =>
      rw [hz] at hlink
      have hnw := hK.2.2.1 _ (nAt_mem hlink)
      have hcb := va_cnB (host := "SkirtsByTheDay") (index := x) (R := R) (own := (mY k).cls) (mP c) hts (q_good w1) (ws' := tb) (bytes := mC c) (maxL := mL c) (ret := mR c) rfl (rm := q_rm D mc ms) rfl rfl hnw (hts _ w2) ⟨w4, w5, w6⟩ hroom
      rw [hR] at hcb
      exact q_callW (va_runIN (As := As) (rest := vr) (b := base + q) ⟨hx, hb, hml, hown, hts⟩ hMM ⟨hcb, hN, hI⟩ ⟨blind _, pre _⟩ rfl hlen hlo.1 (by rw [hwv, List.append_assoc]; rfl) (lv_room (by rw [g2.cats]; exact hcat)) hd ⟨hcl, hsl⟩) hlc (fin vr g2 en _)
    | false =>
      rw [hz] at hlink
      have hcb := callB_of (R := R) (own := (mY k).cls) (index := x) (mP c) hts (q_good w1) (ws' := tb) (bytes := mC c) (maxL := mL c) (ret := mR c) rfl (rm := q_rm D mc ms) rfl rfl (hts _ w2) (hts _ (wAt_mem hlink)) ⟨w4, w5, w6⟩ hroom
      rw [hR] at hcb
      exact q_callW (va_runI (As := As) (rest := vr) (b := base + q) ⟨hx, hb, hml, hown, hts⟩ hMM ⟨hcb, hN, hI⟩ ⟨blind _, pre _⟩ rfl hlen hlo.1 (by rw [hwv, List.append_assoc]; rfl) (lv_room (by rw [g2.cats]; exact hcat)) hd ⟨hcl, hsl⟩) hlc (fin vr g2 en _)
/-- Math.min (300), Math.max (301) -/
def p_math (k : Nat) (as : List pA) (E : pE) (h : pH) : Option pZ := match as with
  | [.inl x, .inl y] => bif Nat.beq k 300 then some (0, 0, (p_lt E y x).map (fun q => (0, some (.inl (bif q.1 then y else x)), (0, [], [], q.2, h)))) else
      bif Nat.beq k 301 then some (0, 0, (p_lt E x y).map (fun q => (0, some (.inl (bif q.1 then y else x)), (0, [], [], q.2, h)))) else none
  | _ => none
theorem q_mw : Cond.code Lib.Math.min.name Lib.Math.min.code 2 (some .int) ∈ tb ∧ Cond.code Lib.Math.max.name Lib.Math.max.code 2 (some .int) ∈ tb ∧ Cond.initialized "java/lang/Math" ∈ tb := ⟨wAt_mem (i := (mW 300).1) (by decide +kernel), wAt_mem (i := (mW 301).1) (by decide +kernel), wAt_mem (i := (mW 301).2.1) (by decide +kernel)⟩
theorem q_callMath (hm : p_math c as E h = some (mc, ms, os)) : q_CallOK l dC dI dA r b base L Hb D c as E h mc ms os := by
  intro p e R s m args below meth cd H locs cells slots Q k pc nx lo st rs ls vs C site hcat F hD hD2 hcl hsl hret kk
  obtain ⟨hx, hb, hml, hown, hts, hK, hnm, hbb, hRf, hRl, hk9⟩ := C
  obtain ⟨hlo, hst, hE, hG, hlc⟩ := F
  unfold p_math at hm
  split at hm
  · rename_i x0 y0
    obtain ⟨x, a2, a3, z, site⟩ := site
    have key : ∀ (hc3 : c = 300 ∨ c = 301), ins k pc = some (.invokestatic x, nx, c, a2, a3, z) ∧ p_take a2 [] st = some ([.inl x0, .inl y0], rs) := by
      intro hc3
      rcases site with ⟨hi, ht⟩ | ⟨hi, ht, hr⟩ | ⟨hi, h900, ht, q, as', hq⟩
      · exact ⟨hi, ht⟩
      · simp [p_rcv] at hr
      · cases hq
    have fin : ∀ (u w : pV) (xx yy : Int32) (vr : List Value) (lq : List (Bool × pE)), q_V r u xx → q_V r w yy → q_L r b base rs vr → nx = pc + 3 → mc = 0 → ms = 0 → os = lq.map (fun q => (0, some (.inl (bif q.1 then w else u)), (0, [], [], q.2, h))) → ∀ P : Prop, ∀ dP : Decidable P, (∃ q ∈ lq, (q.1 = true ↔ P) ∧ q_E r q.2 ∧ q.2.1 = E.1) → W p l e R s m args below meth cd H locs cells slots Q (F0 m (pc + 3) ls (.int (if P then yy else xx) :: vr)) := by
      intro u w xx yy vr lq hu hw hvr hnx e1 e2 e3 P dP hq
      subst e1; subst e2; subst e3
      obtain ⟨q, h1, h2, h3, h4⟩ := hq
      have hm2 : ((0, some (.inl (bif q.1 then w else u)), (0, [], [], q.2, h)) : pO) ∈ lq.map (fun q => ((0, some (.inl (bif q.1 then w else u)), (0, [], [], q.2, h)) : pO)) := List.mem_map.mpr ⟨q, h1, rfl⟩
      have K := kk _ hm2 _ rfl ls (.int (if P then yy else xx) :: vr) H locs ⟨hlo, ⟨_, _, rfl, ⟨_, rfl, ?_⟩, hvr⟩, h3, hG.env h4, hlc⟩
      · rw [hnx] at K
        exact K
      · obtain ⟨q1, q2⟩ := q
        cases q1 with
        | true => rw [if_pos (h2.mp rfl)]; exact hw
        | false => rw [if_neg (fun hp => by have := h2.mpr hp; cases this)]; exact hu
    cases h300 : Nat.beq c 300 with
    | true =>
      rw [h300] at hm
      have ec := Nat.eq_of_beq_eq_true h300
      subst ec
      cases hm
      obtain ⟨hi, ht⟩ := key (Or.inl rfl)
      obtain ⟨en, hd⟩ := q_dec (n := 3) hk9 hi rfl
      have hc := (q_row hk9 hi).2.2.1
      simp only [c_I, q_beqF (show (300 : Nat) ≠ 901 by omega), cond_false, nMth, q_bleF (show (300 : Nat) < 303 by omega), Bool.false_or, Bool.and_eq_true] at hc
      obtain ⟨wv, vr, rfl, g1, g2, g3⟩ := p_takeS ht rfl hst
      rw [List.append_nil] at g1
      obtain ⟨w1, vs1, e1, ⟨xx, rfl, hxx⟩, w2, vs2, rfl, ⟨yy, rfl, hyy⟩, e2⟩ := g1
      have e2 : vs2 = [] := e2
      subst e2
      have hwv : wv = [.int yy, .int xx] := by
        have := congrArg List.reverse e1
        rw [List.reverse_reverse] at this
        exact this
      subst hwv
      exact va_mmin (rest := vr) hx hb (by rw [hml]; exact hlo.1.symm) hown (hts _ (wAt_mem hc.1.1)) (hts _ (wAt_mem hc.1.2)) (hts _ q_mw.2.2) (hts _ q_mw.1) (by omega) (by rw [g2.cats]; omega) (by omega) (by omega) hd (fin x0 y0 xx yy vr _ hxx hyy g2 en rfl rfl rfl _ _ (q_ltL hE hyy hxx))
    | false =>
      rw [h300] at hm
      cases h301 : Nat.beq c 301 with
      | true =>
        rw [h301] at hm
        have ec := Nat.eq_of_beq_eq_true h301
        subst ec
        cases hm
        obtain ⟨hi, ht⟩ := key (Or.inr rfl)
        obtain ⟨en, hd⟩ := q_dec (n := 3) hk9 hi rfl
        have hc := (q_row hk9 hi).2.2.1
        simp only [c_I, q_beqF (show (301 : Nat) ≠ 901 by omega), cond_false, nMth, q_bleF (show (301 : Nat) < 303 by omega), Bool.false_or, Bool.and_eq_true] at hc
        obtain ⟨wv, vr, rfl, g1, g2, g3⟩ := p_takeS ht rfl hst
        rw [List.append_nil] at g1
        obtain ⟨w1, vs1, e1, ⟨xx, rfl, hxx⟩, w2, vs2, rfl, ⟨yy, rfl, hyy⟩, e2⟩ := g1
        have e2 : vs2 = [] := e2
        subst e2
        have hwv : wv = [.int yy, .int xx] := by
          have := congrArg List.reverse e1
          rw [List.reverse_reverse] at this
          exact this
        subst hwv
        exact va_mmax (rest := vr) hx hb (by rw [hml]; exact hlo.1.symm) hown (hts _ (wAt_mem hc.1.1)) (hts _ (wAt_mem hc.1.2)) (hts _ q_mw.2.2) (hts _ q_mw.2.1) (by omega) (by rw [g2.cats]; omega) (by omega) (by omega) hd (fin x0 y0 xx yy vr _ hxx hyy g2 en rfl rfl rfl _ _ (q_ltL hE hxx hyy))
      | false => rw [h301] at hm; cases hm
  · cases hm
end Plain
