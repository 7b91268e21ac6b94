/-! Entries of bodies; calls. -/
section CallW0
variable {p : Program} {l : Launch} {e : Env} {R : Room} {s : State} {m : MethodId} {args : Array Value} {below : List Frame} {meth : Method} {c : Code} {H : Heap} {locs : List Loc} {cells slots : Nat} {Q : State → Prop}
theorem q_callW {pc mc ms base : Nat} {ls : Array Slot} {st0 rest : List Value} {Qa : State → Outcome → State → Prop} (hr : va_Run p l e R s m args below meth c H locs cells slots mc ms (F0 m pc ls st0) rest Qa (fun q => base ≤ q)) (hlc : ∀ q ∈ locs, base ≤ q.base)
    (kk : ∀ (v : Option Value) (st t : State) (locs1 : List Loc), Qa st (.returned v) t → (∀ q ∈ locs1, base ≤ q.base) → W p l e R s m args below meth c t.heap locs1 (cells + mc) (slots + ms) Q (F0 m (pc + 3) ls (v.toList ++ rest))) : W p l e R s m args below meth c H locs cells slots Q (F0 m pc ls st0) := by
  intro T hT X
  obtain ⟨v, st₀, t, T', L, h0, X', hL, e1, e2, hq, st⟩ := hr T hT X
  obtain ⟨t2, a1, b1⟩ := kk v st₀ t (locs ++ L) hq (fun q hq => by
    rcases List.mem_append.mp hq with h | h
    · exact hlc q h
    · exact hL q h) T' e1 X'
  exact ⟨t2, st t2 a1, b1⟩
end CallW0
theorem q_appL {rv : List Int} {ad : Nat → Nat} {a : Option sA} {v : Option Value} {rs : List sA} {vr : List Value} (h1 : q_ret rv ad a v) (h2 : q_L rv ad rs vr) : q_L rv ad (a.toList ++ rs) (v.toList ++ vr) := by
  cases a with
  | none =>
    have e : v = none := h1
    subst e
    exact h2
  | some a =>
    obtain ⟨w, rfl, hw⟩ := h1
    exact ⟨w, vr, rfl, hw, h2⟩
theorem q_beqF {a n : Nat} (h : a ≠ n) : Nat.beq a n = false := by
  cases hb : Nat.beq a n with
  | false => rfl
  | true => exact absurd (Nat.eq_of_beq_eq_true hb) h
theorem q_bleF {a n : Nat} (h : a < n) : Nat.ble n a = false := by
  cases hb : Nat.ble n a with
  | false => rfl
  | true => exact absurd (Nat.le_of_ble_eq_true hb) (by omega)
set_option maxRecDepth 100000 in
theorem q_key0 {D N : Nat} (h : 80 * D + 480 ≤ N) (y : Nat) (hy : y ≤ 40) : 8 + (y + 11) + (80 * D + 400) ≤ N := by omega
section Plain
variable {l : Launch} {dC : Nat → ClassId} {dI : Nat → Nat → Nat} {dA : FieldType → ClassId} {rv : List Int} {ad : Nat → Nat} {Hb H0 : Heap} {k c D K mc ms n : Nat} {dp : sF} {X : sF → Nat → List sA → sE → sH → Option sZ} {as : List sA} {E : sE} {h : sH} {os : List sO}
/-- into a body -/
theorem q_metW {Qc : Array Value → State → Outcome → State → Prop} {vs : List Value} (hk : k < 302) (hp : c_plain k = true) (hcat : s_cats as ≤ mL k) (hvs : q_L rv ad as vs) (hE : q_E rv E) (hG0 : q_G dC dI dA rv ad Hb H0 E h H0)
    (body : ∀ (p : Program) (e : Env) (s : State) (m : MethodId) (below : List Frame) (meth : Method) (c : Code) (ls : Array Slot), q_Ctx p (q_rm D mc ms) s m vs.toArray meth c dC dI dA Hb k → meth.sig.returnType = mR k → meth.locks = false → q_Fr dC dI dA rv ad Hb H0 (mL k) (0, s_args 0 as, [], E, h) ls [] H0 [] → W p l e (q_rm D mc ms) s m vs.toArray below meth c H0 [] 0 0 (MQ below Qc vs.toArray s mc ms (fun q => Hb.size ≤ q)) (F0 m 0 ls [])) :
    Met l (mY k) (q_ws k) (q_rm D mc ms) (q_Pc dC dI dA Hb H0 vs) Qc mc ms (fun q => Hb.size ≤ q) := by
  obtain ⟨w1, w2, w3, w4, w5, w6, w7⟩ := q_MW (q_meth hk hp)
  refine va_MetF (cc := mC k) (maxL := mL k) (ret := mR k) w3 rfl ?_
  intro p e s m args below meth c s₁ B hml hv
  obtain ⟨rfl, hK, hH⟩ := hv
  have hts0 := atoms_spec (ws := q_ws k) B.pre
  have hts : ∀ w ∈ tb, w.before vs.toArray s = true := fun w hw => hts0 w (List.mem_cons_of_mem _ hw)
  have hown : s.vm.findClass (mY k).cls = some m.cls := findClass_of_methodNamed B.named
  have hlocks := B.notSynchronized
  have hnm : meth.name = (mY k).name := (name_of_methodNamed B.named B.method).1
  have hret := B.returns
  have C : q_Ctx p (q_rm D mc ms) s m vs.toArray meth c dC dI dA Hb k := ⟨B.exec, B.bytes, hml, hown, hts, hK, fun q => hnm.trans q, by show 8 ≤ D + 8; omega, by show 400 ≤ 80 * D + 400; omega⟩
  have hl := lv_entry vs (n := mL k) (by rw [q_slN, hvs.cats]; exact hcat)
  rw [lg_entry_eq, hH]
  generalize (lg_sl vs ++ List.replicate (mL k - (lg_sl vs).length) Slot.unset).toArray = ls at hl ⊢
  have hlo : q_Lo rv ad (s_args 0 as) ls (mL k) := ⟨hl.1, hl.2.1, fun q hq => by
    obtain ⟨v, g1, g2⟩ := q_argsL 0 hvs q hq
    exact ⟨v, hl.2.2 _ g1, g2⟩⟩
  exact body p e s m below meth c ls C hret hlocks ⟨hlo, rfl, hE, hG0, fun q hq => nomatch hq⟩
/-- a body run in place -/
theorem q_met {vs : List Value} (hk : k < 302) (hp : c_plain k = true) (hX : q_XOK l dC dI dA Hb ad D dp X) (hr : s_run X dp k (fun _ => false) n (0, s_args 0 as, [], E, h) = some (mc, ms, os)) (hv : s_val rv dp = some (D : Int)) (hcat : s_cats as ≤ mL k) (hE : q_E rv E) (hos : ∀ o ∈ os, o.1 = 0) (hvs : q_L rv ad as vs) (hG0 : q_G dC dI dA rv ad Hb H0 E h H0) :
    Met l (mY k) (q_ws k) (q_rm D mc ms) (q_Pc dC dI dA Hb H0 vs) (q_Qc dC dI dA rv ad Hb H0 os) mc ms (fun q => Hb.size ≤ q) := by
  refine q_metW hk hp hcat hvs hE hG0 fun p e s m below meth c ls C hret hlocks F => ?_
  refine q_run C hX (Nat.le_refl _) (Nat.le_refl _) n _ mc ms os rv hr hv ls [] H0 [] 0 0 F (by show 0 + mc ≤ mc; omega) (by show 0 + ms ≤ ms; omega) (fun o ho ht x ls1 vs1 H1 locs1 cells1 slots1 F1 z1 z2 => ?_)
  obtain ⟨e0, ret0, pc, lo, st, E1, h1⟩ := o
  have he := hos _ ho
  simp only at he
  subst he
  have c1 : cells1 ≤ mc := by have z3 : cells1 + 0 ≤ 0 + mc := z1; omega
  have s1 : slots1 ≤ ms := by have z3 : slots1 + 0 ≤ 0 + ms := z2; omega
  rcases ht with ⟨ht, -⟩ | ht
  · cases ht
  · refine W.widen (k := mc) (n := ms) c1 s1 ?_
    exact q_leave C hret hlocks ht F1 (fun v hv t htH _ => ⟨v, rfl, _, ho, x, rfl, hv, F1.2.2.1, by rw [htH]; exact F1.2.2.2.1⟩)
theorem q_callPlain {Qp : Heap → Array Value → State → Outcome → State → Prop} (hk : c < 302) (hp : c_plain c = true) (hDK : D + 1 ≤ K) (hM : ∀ (H : Heap) (vs : List Value), q_L rv ad as vs → q_E rv E → q_G dC dI dA rv ad Hb H E h H → Met l (mY c) (q_ws c) (q_rm D mc ms) (q_Pc dC dI dA Hb H vs) (Qp H) mc ms (fun q => Hb.size ≤ q))
    (hQ : ∀ (H0 H : Heap) (a : Array Value) (st t : State) (v : Option Value), q_E rv E → q_G dC dI dA rv ad Hb H0 E h H → Qp H a st (.returned v) t → q_End dC dI dA rv ad Hb H0 os v t.heap) : q_CallOK l dC dI dA Hb rv ad K c as E h mc ms os := by
  intro p e R s m args below meth cd H0 H locs cells slots Q k pc nx lo st rs ls vs C site hcat F hD hD2 hcl hsl hret kk
  obtain ⟨hx, hb, hml, hown, hts, hK, hnm, hRf, hRl⟩ := C
  obtain ⟨hlo, hst, hE, hG, hlc⟩ := F
  obtain ⟨w1, w2, w3, w4, w5, w6, w7⟩ := q_MW (q_meth hk hp)
  have key0 : ∀ y : Nat, y ≤ 40 → 8 + (y + 11) + (80 * D + 400) ≤ R.locals := q_key0 (by omega)
  have hroom : (q_rm D mc ms).frames + 1 ≤ R.frames ∧ 8 + (mL c + 11) + (q_rm D mc ms).locals ≤ R.locals := ⟨by rw [show (q_rm D mc ms).frames = D + 8 from rfl]; omega, key0 _ w7⟩
  have blind : ∀ vv, FrameBlind (q_Pc dC dI dA Hb H vv) := fun vv a U g mk q => ⟨q.1, q.2.1.calling, q.2.2⟩
  have pre : ∀ vv : List Value, ∀ U : State, U.heap = H → s.WarmedH U.vm → q_Pc dC dI dA Hb H vv vv.toArray U := fun vv U hU hW => ⟨rfl, hK.moved hW, hU⟩
  have hGs : q_G dC dI dA rv ad Hb H E h H := ⟨hG.1, fun _ _ _ => rfl, ⟨Nat.le_refl _, hG.2.2.1.2⟩, hG.2.2.2⟩
  have fin : ∀ (vr : List Value), q_L rv ad rs vr → nx = pc + 3 → ∀ (a : Array Value) (v : Option Value) (st t : State) (locs1 : List Loc), Qp H a st (.returned v) t → (∀ q ∈ locs1, Hb.size ≤ q.base) → W p l e R s m args below meth cd t.heap locs1 (cells + mc) (slots + ms) Q (F0 m (pc + 3) ls (v.toList ++ vr)) := by
    intro vr hvr hnx a v st2 t locs1 hq hl1
    obtain ⟨o, ho, x, ho0, hv3, hoE, hoG⟩ := hQ H0 H a st2 t v hE hG hq
    obtain ⟨f, hf⟩ := hret o ho
    obtain ⟨e0, ret0, pc0, lo0, st0, E0, h0⟩ := o
    simp only at ho0
    subst ho0
    cases hf
    subst hnx
    exact kk _ ho _ rfl x ls _ t.heap locs1 ⟨hlo.mono x, q_appL hv3 (hvr.mono x), hoE, hoG, hl1⟩
  obtain ⟨x, a2, a3, z, site⟩ := site
  rcases site with ⟨hi, ht⟩ | ⟨hi, ht, hr⟩ | ⟨hi, h900, ht, q, as', rfl⟩
  · obtain ⟨en, hd⟩ := q_dec (n := 3) hi rfl
    have hc := (q_rowI hi).2.2.1
    simp only [c_I, q_beqF (show c ≠ 901 by omega), cond_false, nMth, q_bleF (show c < 303 by omega), Bool.false_or, Bool.and_eq_true] at hc
    have ea2 := Nat.eq_of_beq_eq_true hc.2
    obtain ⟨wv, vr, rfl, g1, g2, g3⟩ := s_takeS ht rfl hst
    rw [List.append_nil] at g1
    refine q_callW (va_runS (As := wv.reverse) (rest := vr) ⟨hx, hb, hml, hown, hts⟩ (hM _ _ g1 hE hGs) ⟨callB_of (mP c) hts (q_good w1) rfl rfl rfl (hts _ w2) (hts _ (wAt_mem hc.1.1)) ⟨w4, w5, w6⟩ hroom, hts _ (wAt_mem hc.1.2)⟩ ⟨blind _, pre _⟩ rfl (by rw [List.length_reverse, g3, ea2]) hlo.1 (by rw [List.reverse_reverse]) (lv_room (by rw [g2.cats]; exact hcat)) hd ⟨hcl, hsl⟩) hlc (fin vr g2 en _)
  · obtain ⟨en, hd⟩ := q_dec (n := 3) hi rfl
    have hc := (q_rowI hi).2.2.1
    simp only [c_I, nMth, q_bleF (show c < 303 by omega), Bool.false_or, Bool.and_eq_true] at hc
    have ea2 := Nat.eq_of_beq_eq_true hc.2
    obtain ⟨wv, vr, rfl, g1, g2, g3⟩ := s_takeS ht rfl hst
    rw [List.append_nil] at g1
    unfold s_rcv at hr
    split at hr
    · rename_i q as2
      split at hr
      · rename_i ci fs ho
        have eci := Nat.eq_of_beq_eq_true hr
        obtain ⟨w, As, hrev, hw, hAs⟩ := g1
        have ew : w = .ref (ad q) := hw
        subst ew
        have hwv : wv = As.reverse ++ [.ref (ad q)] := by
          have := congrArg List.reverse hrev
          rw [List.reverse_reverse, List.reverse_cons] at this
          exact this
        have hlen : As.length = mP c := by
          have h9 := congrArg List.length hwv
          rw [List.length_append, List.length_reverse, List.length_singleton, g3] at h9
          omega
        have hq0 := hc.1.2
        unfold c_cls at hq0
        split at hq0
        · rename_i q0 hq1
          have hq2 := of_decide_eq_true hq0
          obtain ⟨-, -, us, w9, k1, k2, cell, k3, k4, k5, k6⟩ := q_obj hG ho
          rw [eci] at k2 k4
          cases Option.some.inj (hq1.symm.trans k2)
          have hcls : s.vm.findClass (mY c).cls = some cell.cls := by rw [← hq2, k4]; exact (hK.1.1 _ _ hq1).2.1
          refine q_callW (va_runV (As := As) (rest := vr) (b := ad q) (C := (mY c).cls) ⟨hx, hb, hml, hown, hts⟩ (hM _ (.ref (ad q) :: As) ⟨_, _, rfl, rfl, hAs⟩ hE hGs) ⟨callB_of (mP c) hts (q_good w1) rfl rfl rfl (hts _ w2) (hts _ (wAt_mem hc.1.1.1.1.2)) ⟨w4, w5, w6⟩ hroom, hts _ (wAt_mem hc.1.1.1.2), hts _ (wAt_mem hc.1.1.2)⟩ ⟨blind _, ⟨cell, k3, by rw [k5]; rfl, hcls⟩, pre _⟩ rfl hlen hlo.1 (by rw [hwv, List.append_assoc]; rfl) (lv_room (by rw [g2.cats]; exact hcat)) hd ⟨hcl, hsl⟩) hlc (fin vr g2 en _)
        · cases hq0
      · cases hr
    · cases hr
  · obtain ⟨en, hd⟩ := q_dec (n := 3) hi rfl
    have hc := (q_rowI hi).2.2.1
    simp only [c_I, h900, cond_false, nMth, q_bleF (show c < 303 by omega), Bool.false_or, Bool.and_eq_true, decide_eq_true_eq] at hc
    have ea2 := Nat.eq_of_beq_eq_true hc.2
    obtain ⟨wv, vr, rfl, g1, g2, g3⟩ := s_takeS ht rfl hst
    rw [List.append_nil] at g1
    obtain ⟨w, As, hrev, hw, hAs⟩ := g1
    have ew : w = .ref (ad q) := hw
    subst ew
    have hwv : wv = As.reverse ++ [.ref (ad q)] := by
      have := congrArg List.reverse hrev
      rw [List.reverse_reverse, List.reverse_cons] at this
      exact this
    have hlen : As.length = mP c := by
      have h9 := congrArg List.length hwv
      rw [List.length_append, List.length_reverse, List.length_singleton, g3] at h9
      omega
    have hR := hc.1.2
    have hN := hc.1.1.2
    have hI := hts _ (wAt_mem hc.1.1.1.2)
    have hlink := hc.1.1.1.1.2
    have hMM := hM _ (.ref (ad q) :: As) ⟨_, _, rfl, rfl, hAs⟩ hE hGs
    cases hz : decide (z = 1) with
    | true =>
      rw [hz] at hlink
      have hnw := hK.2.1 _ (nAt_mem hlink)
      have hcb := va_cnB (host := "SkirtsByTheDay") (index := x) (R := R) (own := (mY k).cls) (mP c) hts (q_good w1) (ws' := tb) (bytes := mC c) (maxL := mL c) (ret := mR c) rfl (rm := q_rm D mc ms) rfl rfl hnw (hts _ w2) ⟨w4, w5, w6⟩ hroom
      rw [hR] at hcb
      exact q_callW (va_runIN (As := As) (rest := vr) (b := ad q) ⟨hx, hb, hml, hown, hts⟩ hMM ⟨hcb, hN, hI⟩ ⟨blind _, pre _⟩ rfl hlen hlo.1 (by rw [hwv, List.append_assoc]; rfl) (lv_room (by rw [g2.cats]; exact hcat)) hd ⟨hcl, hsl⟩) hlc (fin vr g2 en _)
    | false =>
      rw [hz] at hlink
      have hcb := callB_of (R := R) (own := (mY k).cls) (index := x) (mP c) hts (q_good w1) (ws' := tb) (bytes := mC c) (maxL := mL c) (ret := mR c) rfl (rm := q_rm D mc ms) rfl rfl (hts _ w2) (hts _ (wAt_mem hlink)) ⟨w4, w5, w6⟩ hroom
      rw [hR] at hcb
      exact q_callW (va_runI (As := As) (rest := vr) (b := ad q) ⟨hx, hb, hml, hown, hts⟩ hMM ⟨hcb, hN, hI⟩ ⟨blind _, pre _⟩ rfl hlen hlo.1 (by rw [hwv, List.append_assoc]; rfl) (lv_room (by rw [g2.cats]; exact hcat)) hd ⟨hcl, hsl⟩) hlc (fin vr g2 en _)
/-- the cells' numbers are the same, perhaps with more behind them -/
noncomputable def s_pre : sH → sH → Bool
  | [], _ => true
  | x :: r, y :: r' => Nat.beq x.1 y.1 && s_pre r r'
  | _ :: _, [] => false
theorem s_preS : ∀ {h h' : sH}, s_pre h h' = true → ∀ x ∈ h, ∃ y ∈ h', y.1 = x.1
  | [], _, _, x, hx => nomatch hx
  | a :: r, [], hp, x, hx => by cases hp
  | a :: r, b :: r', hp, x, hx => by
    simp only [s_pre, Bool.and_eq_true] at hp
    rcases List.mem_cons.mp hx with rfl | hx
    · exact ⟨b, List.mem_cons_self, (Nat.eq_of_beq_eq_true hp.1).symm⟩
    · obtain ⟨y, h1, h2⟩ := s_preS hp.2 x hx
      exact ⟨y, List.mem_cons_of_mem _ h1, h2⟩
/-- told to one who was there since H0 -/
theorem q_G.back {rv' : List Int} {E' : sE} {h' : sH} {H1 H' : Heap} (hG : q_G dC dI dA rv ad Hb H0 E h H1) (hp : s_pre h h' = true) (hG' : q_G dC dI dA rv' ad Hb H1 E' h' H') : q_G dC dI dA rv' ad Hb H0 E' h' H' :=
  ⟨hG'.1, fun q hq hn => (hG'.2.1 q (by have := hG.2.2.1.1; omega) hn).trans (hG.2.1 q hq fun x hx => by
    obtain ⟨y, h1, h2⟩ := s_preS hp x hx
    rw [← h2]
    exact hn y h1), ⟨by have := hG.2.2.1.1; have := hG'.2.2.1.1; omega, hG'.2.2.1.2⟩, hG'.2.2.2⟩
/-- a call of a body run in place -/
theorem q_callIn (hk : c < 302) (hp : c_plain c = true) (hDK : D + 1 ≤ K) (hX : q_XOK l dC dI dA Hb ad D dp X) (hr : s_run X dp c (fun _ => false) n (0, s_args 0 as, [], E, h) = some (mc, ms, os)) (hv : s_val rv dp = some (D : Int)) (hcat : s_cats as ≤ mL c) (hos : ∀ o ∈ os, o.1 = 0 ∧ s_pre h o.2.2.2.2.2.2 = true) : q_CallOK l dC dI dA Hb rv ad K c as E h mc ms os := by
  refine q_callPlain (Qp := fun H => q_Qc dC dI dA rv ad Hb H os) hk hp hDK (fun H vs h1 h2 h3 => q_met hk hp hX hr hv hcat h2 (fun o ho => (hos o ho).1) h1 h3) (fun H0 H a st t v hE hG hq => ?_)
  obtain ⟨v2, hv2, o, ho, x, z1, z2, z3, z4⟩ := hq
  cases hv2
  exact ⟨o, ho, x, z1, z2, z3, hG.back (hos o ho).2 z4⟩
end Plain
