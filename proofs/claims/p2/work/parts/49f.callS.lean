/-! A call, with what is known behind it. -/
section CallS
variable {l : Launch} {dC : Nat → ClassId} {dI : Nat → Nat → Nat} {dA : FieldType → ClassId} {rv : List Int} {ad : Nat → Nat} {Hb H0 : Heap} {k c D K mc ms n : Nat} {dp : sF} {X : sF → Nat → List sA → sE → sH → Option sZ} {as : List sA} {E : sE} {h : sH} {os : List sO}
theorem y_callS {S : List Int → Prop} {Qp : Heap → Array Value → State → Outcome → State → Prop} (hk : c < 302) (hp : c_plain c = true) (hDK : D + 1 ≤ K) (hM : ∀ (H : Heap) (vs : List Value), q_L rv ad as vs → q_E rv E → q_G dC dI dA rv ad Hb H E h H → Met l (mY c) (q_ws c) (q_rm D mc ms) (q_Pc dC dI dA Hb H vs) (Qp H) mc ms (fun q => Hb.size ≤ q))
    (hQ : ∀ (H0 H : Heap) (a : Array Value) (st t : State) (v : Option Value), q_E rv E → q_G dC dI dA rv ad Hb H0 E h H → Qp H a st (.returned v) t → ∃ o ∈ os, ∃ x, S x ∧ o.1 = 0 ∧ q_ret (rv ++ x) ad o.2.1 v ∧ q_E (rv ++ x) o.2.2.2.2.2.1 ∧ q_G dC dI dA (rv ++ x) ad Hb H0 o.2.2.2.2.2.1 o.2.2.2.2.2.2 t.heap) :
  ∀ (p : Program) (e : Env) (R : Room) (s : State) (m : MethodId) (args : Array Value) (below : List Frame) (meth : Method) (cd : Code) (H0 H : Heap) (locs : List Loc) (cells slots : Nat) (Q : State → Prop) (k pc nx : Nat) (lo : sL) (st rs : List sA) (ls : Array Slot) (vs : List Value),
    q_Ctx p R s m args meth cd dC dI dA Hb k → q_Site k pc nx c st as rs h → s_cats rs ≤ 8 → q_Fr dC dI dA rv ad Hb H0 (mL k) (pc, lo, st, E, h) ls vs H locs → K + 8 ≤ R.frames → 80 * K + 400 ≤ R.locals → cells + mc ≤ R.cells → slots + ms ≤ R.slots →
    (∀ o ∈ os, ∃ f, s_ret1 (nx, lo, rs, E, h) o = some f) →
    (∀ o ∈ os, ∀ f, s_ret1 (nx, lo, rs, E, h) o = some f → ∀ (x : List Int) (ls : Array Slot) (vs : List Value) (H : Heap) (locs : List Loc), S x → q_Fr dC dI dA (rv ++ x) ad Hb H0 (mL k) f.2.2 ls vs H locs → W p l e R s m args below meth cd H locs (cells + mc) (slots + ms) Q (F0 m f.2.2.1 ls vs)) →
    W p l e R s m args below meth cd H locs cells slots Q (F0 m pc ls vs) := by
  intro p e R s m args below meth cd H0 H locs cells slots Q k pc nx lo st rs ls vs C site hcat F hD hD2 hcl hsl hret kk
  obtain ⟨hx, hb, hml, hown, hts, hK, hnm, hRf, hRl⟩ := C
  obtain ⟨hlo, hst, hE, hG, hlc⟩ := F
  obtain ⟨w1, w2, w3, w4, w5, w6, w7⟩ := q_MW (q_meth hk hp)
  have key0 : ∀ y : Nat, y ≤ 40 → 8 + (y + 11) + (80 * D + 400) ≤ R.locals := q_key0 (by omega)
  have hroom : (q_rm D mc ms).frames + 1 ≤ R.frames ∧ 8 + (mL c + 11) + (q_rm D mc ms).locals ≤ R.locals := ⟨by rw [show (q_rm D mc ms).frames = D + 8 from rfl]; omega, key0 _ w7⟩
  have blind : ∀ vv, FrameBlind (q_Pc dC dI dA Hb H vv) := fun vv a U g mk q => ⟨q.1, q.2.1.calling, q.2.2⟩
  have pre : ∀ vv : List Value, ∀ U : State, U.heap = H → s.WarmedH U.vm → q_Pc dC dI dA Hb H vv vv.toArray U := fun vv U hU hW => ⟨rfl, hK.moved hW, hU⟩
  have hGs : q_G dC dI dA rv ad Hb H E h H := ⟨hG.1, fun _ _ _ => rfl, ⟨Nat.le_refl _, hG.2.2.1.2⟩, hG.2.2.2⟩
  have fin : ∀ (vr : List Value), q_L rv ad rs vr → nx = pc + 3 → ∀ (a : Array Value) (v : Option Value) (st t : State) (locs1 : List Loc), Qp H a st (.returned v) t → (∀ q ∈ locs1, Hb.size ≤ q.base) → W p l e R s m args below meth cd t.heap locs1 (cells + mc) (slots + ms) Q (F0 m (pc + 3) ls (v.toList ++ vr)) := by
    intro vr hvr hnx a v st2 t locs1 hq hl1
    obtain ⟨o, ho, x, hS, ho0, hv3, hoE, hoG⟩ := hQ H0 H a st2 t v hE hG hq
    obtain ⟨f, hf⟩ := hret o ho
    obtain ⟨e0, ret0, pc0, lo0, st0, E0, h0⟩ := o
    simp only at ho0
    subst ho0
    cases hf
    subst hnx
    exact kk _ ho _ rfl x ls _ t.heap locs1 hS ⟨hlo.mono x, q_appL hv3 (hvr.mono x), hoE, hoG, hl1⟩
  obtain ⟨x, a2, a3, z, site⟩ := site
  rcases site with ⟨hi, ht⟩ | ⟨hi, ht, hr⟩ | ⟨hi, h900, ht, q, as', rfl⟩
  · obtain ⟨en, hd⟩ := q_dec (n := 3) hi rfl
    have hc := (q_rowI hi).2.2.1
    simp only [c_I, q_beqF (show c ≠ 901 by omega), cond_false, nMth, q_bleF (show c < 303 by omega), Bool.false_or, Bool.and_eq_true] at hc
    have ea2 := Nat.eq_of_beq_eq_true hc.2
    obtain ⟨wv, vr, rfl, g1, g2, g3⟩ := s_takeS ht rfl hst
    rw [List.append_nil] at g1
    refine q_callW (va_runS (As := wv.reverse) (rest := vr) ⟨hx, hb, hml, hown, hts⟩ (hM _ _ g1 hE hGs) ⟨callB_of (mP c) hts (q_good w1) rfl rfl rfl (hts _ w2) (hts _ (wAt_mem hc.1.1)) ⟨w4, w5, w6⟩ hroom, hts _ (wAt_mem hc.1.2)⟩ ⟨blind _, pre _⟩ rfl (by rw [List.length_reverse, g3, ea2]) hlo.1 (by rw [List.reverse_reverse]) (lv_room (by rw [g2.cats]; exact hcat)) hd ⟨hcl, hsl⟩) hlc (fin vr g2 en _)
  · obtain ⟨en, hd⟩ := q_dec (n := 3) hi rfl
    have hc := (q_rowI hi).2.2.1
    simp only [c_I, nMth, q_bleF (show c < 303 by omega), Bool.false_or, Bool.and_eq_true] at hc
    have ea2 := Nat.eq_of_beq_eq_true hc.2
    obtain ⟨wv, vr, rfl, g1, g2, g3⟩ := s_takeS ht rfl hst
    rw [List.append_nil] at g1
    unfold s_rcv at hr
    split at hr
    · rename_i q as2
      split at hr
      · rename_i ci fs ho
        have eci := Nat.eq_of_beq_eq_true hr
        obtain ⟨w, As, hrev, hw, hAs⟩ := g1
        have ew : w = .ref (ad q) := hw
        subst ew
        have hwv : wv = As.reverse ++ [.ref (ad q)] := by
          have := congrArg List.reverse hrev
          rw [List.reverse_reverse, List.reverse_cons] at this
          exact this
        have hlen : As.length = mP c := by
          have h9 := congrArg List.length hwv
          rw [List.length_append, List.length_reverse, List.length_singleton, g3] at h9
          omega
        have hq0 := hc.1.2
        unfold c_cls at hq0
        split at hq0
        · rename_i q0 hq1
          have hq2 := of_decide_eq_true hq0
          obtain ⟨-, -, us, w9, k1, k2, cell, k3, k4, k5, k6⟩ := q_obj hG ho
          rw [eci] at k2 k4
          cases Option.some.inj (hq1.symm.trans k2)
          have hcls : s.vm.findClass (mY c).cls = some cell.cls := by rw [← hq2, k4]; exact (hK.1.1 _ _ hq1).2.1
          refine q_callW (va_runV (As := As) (rest := vr) (b := ad q) (C := (mY c).cls) ⟨hx, hb, hml, hown, hts⟩ (hM _ (.ref (ad q) :: As) ⟨_, _, rfl, rfl, hAs⟩ hE hGs) ⟨callB_of (mP c) hts (q_good w1) rfl rfl rfl (hts _ w2) (hts _ (wAt_mem hc.1.1.1.1.2)) ⟨w4, w5, w6⟩ hroom, hts _ (wAt_mem hc.1.1.1.2), hts _ (wAt_mem hc.1.1.2)⟩ ⟨blind _, ⟨cell, k3, by rw [k5]; rfl, hcls⟩, pre _⟩ rfl hlen hlo.1 (by rw [hwv, List.append_assoc]; rfl) (lv_room (by rw [g2.cats]; exact hcat)) hd ⟨hcl, hsl⟩) hlc (fin vr g2 en _)
        · cases hq0
      · cases hr
    · cases hr
  · obtain ⟨en, hd⟩ := q_dec (n := 3) hi rfl
    have hc := (q_rowI hi).2.2.1
    simp only [c_I, h900, cond_false, nMth, q_bleF (show c < 303 by omega), Bool.false_or, Bool.and_eq_true, decide_eq_true_eq] at hc
    have ea2 := Nat.eq_of_beq_eq_true hc.2
    obtain ⟨wv, vr, rfl, g1, g2, g3⟩ := s_takeS ht rfl hst
    rw [List.append_nil] at g1
    obtain ⟨w, As, hrev, hw, hAs⟩ := g1
    have ew : w = .ref (ad q) := hw
    subst ew
    have hwv : wv = As.reverse ++ [.ref (ad q)] := by
      have := congrArg List.reverse hrev
      rw [List.reverse_reverse, List.reverse_cons] at this
      exact this
    have hlen : As.length = mP c := by
      have h9 := congrArg List.length hwv
      rw [List.length_append, List.length_reverse, List.length_singleton, g3] at h9
      omega
    have hR := hc.1.2
    have hN := hc.1.1.2
    have hI := hts _ (wAt_mem hc.1.1.1.2)
    have hlink := hc.1.1.1.1.2
    have hMM := hM _ (.ref (ad q) :: As) ⟨_, _, rfl, rfl, hAs⟩ hE hGs
    cases hz : decide (z = 1) with
    | true =>
      rw [hz] at hlink
      have hnw := hK.2.1 _ (nAt_mem hlink)
      have hcb := va_cnB (host := "SkirtsByTheDay") (index := x) (R := R) (own := (mY k).cls) (mP c) hts (q_good w1) (ws' := tb) (bytes := mC c) (maxL := mL c) (ret := mR c) rfl (rm := q_rm D mc ms) rfl rfl hnw (hts _ w2) ⟨w4, w5, w6⟩ hroom
      rw [hR] at hcb
      exact q_callW (va_runIN (As := As) (rest := vr) (b := ad q) ⟨hx, hb, hml, hown, hts⟩ hMM ⟨hcb, hN, hI⟩ ⟨blind _, pre _⟩ rfl hlen hlo.1 (by rw [hwv, List.append_assoc]; rfl) (lv_room (by rw [g2.cats]; exact hcat)) hd ⟨hcl, hsl⟩) hlc (fin vr g2 en _)
    | false =>
      rw [hz] at hlink
      have hcb := callB_of (R := R) (own := (mY k).cls) (index := x) (mP c) hts (q_good w1) (ws' := tb) (bytes := mC c) (maxL := mL c) (ret := mR c) rfl (rm := q_rm D mc ms) rfl rfl (hts _ w2) (hts _ (wAt_mem hlink)) ⟨w4, w5, w6⟩ hroom
      rw [hR] at hcb
      exact q_callW (va_runI (As := As) (rest := vr) (b := ad q) ⟨hx, hb, hml, hown, hts⟩ hMM ⟨hcb, hN, hI⟩ ⟨blind _, pre _⟩ rfl hlen hlo.1 (by rw [hwv, List.append_assoc]; rfl) (lv_room (by rw [g2.cats]; exact hcat)) hd ⟨hcl, hsl⟩) hlc (fin vr g2 en _)
theorem y_endsS {rw x r0 : List Int} {th : List sF} {H1 H2 : Heap} {B0 : List pI} {n : sN} {v : Option Value} (hE : q_E r0 E) (hf : E.1 = false) (ht : q_Th r0 th rw) (hG : q_G dC dI dA r0 ad Hb H0 E h H1)
    (hr : q_ret (rw ++ x) ad n.1 v) (hE1 : q_E (rw ++ x) n.2.1) (hG1 : q_G dC dI dA (rw ++ x) ad Hb H1 n.2.1 n.2.2 H2) :
    ∀ {ns : List sN} {os : List sO}, s_ends E h th B0 ns = some os → n ∈ ns → ∃ o ∈ os, o.1 = 0 ∧ q_ret (r0 ++ x) ad o.2.1 v ∧ q_E (r0 ++ x) o.2.2.2.2.2.1 ∧ q_G dC dI dA (r0 ++ x) ad Hb H0 o.2.2.2.2.2.1 o.2.2.2.2.2.2 H2
  | [], _, _, hm => nomatch hm
  | n0 :: ns, os, hs, hm => by
    unfold s_ends at hs
    split at hs
    · cases hs
    · rename_i oo hoo
      split at hs
      · cases hs
      · rename_i l hl
        cases hs
        rcases List.mem_cons.mp hm with rfl | hm
        · obtain ⟨o, rfl, z1, z2, z3, z4⟩ := s_endS hE hf ht hG hoo hr hE1 hG1
          exact ⟨o, List.mem_cons_self, z1, z2, z3, z4⟩
        · obtain ⟨o, z0, z⟩ := y_endsS hE hf ht hG hr hE1 hG1 hl hm
          refine ⟨o, ?_, z⟩
          cases oo with
          | none => exact z0
          | some o2 => exact List.mem_cons_of_mem _ z0
theorem y_callKs {S : List Int → List Int → Prop} {th : List sF} {C : sK} (hk : c < 302) (hp : c_plain c = true) (hv : s_val rv dp = some (K : Int)) (ih : ∀ D, D < K → q_KOKs l dC dI dA Hb ad S c C D) (hf : s_fitT th dp as E h C = some os) :
  ∀ (p : Program) (e : Env) (R : Room) (s : State) (m : MethodId) (args : Array Value) (below : List Frame) (meth : Method) (cd : Code) (H0 H : Heap) (locs : List Loc) (cells slots : Nat) (Q : State → Prop) (k pc nx : Nat) (lo : sL) (st rs : List sA) (ls : Array Slot) (vs : List Value),
    q_Ctx p R s m args meth cd dC dI dA Hb k → q_Site k pc nx c st as rs h → s_cats rs ≤ 8 → q_Fr dC dI dA rv ad Hb H0 (mL k) (pc, lo, st, E, h) ls vs H locs → K + 8 ≤ R.frames → 80 * K + 400 ≤ R.locals → cells + 0 ≤ R.cells → slots + 0 ≤ R.slots →
    (∀ o ∈ os, ∃ f, s_ret1 (nx, lo, rs, E, h) o = some f) →
    (∀ o ∈ os, ∀ f, s_ret1 (nx, lo, rs, E, h) o = some f → ∀ (x : List Int) (ls : Array Slot) (vs : List Value) (H : Heap) (locs : List Loc), (∃ rw, q_Th rv th rw ∧ S rw x) → q_Fr dC dI dA (rv ++ x) ad Hb H0 (mL k) f.2.2 ls vs H locs → W p l e R s m args below meth cd H locs (cells + 0) (slots + 0) Q (F0 m f.2.2.1 ls vs)) →
    W p l e R s m args below meth cd H locs cells slots Q (F0 m pc ls vs) := by
  intro p e R s m args below meth cd H0 H locs cells slots Q k pc nx lo st rs ls vs Cx site hcat F
  have hE := F.2.2.1
  obtain ⟨cdp, cas, cE, ch, ce⟩ := C
  unfold s_fitT at hf
  dsimp only at hf hE
  obtain ⟨hc, hf⟩ := q_bif hf
  rw [Bool.and_eq_true, Bool.and_eq_true, Bool.and_eq_true, Bool.and_eq_true] at hc
  obtain ⟨⟨⟨⟨hfl, hcL⟩, hcE⟩, hcH⟩, hcd⟩ := hc
  have hfl : E.1 = false := by simpa using hfl
  obtain ⟨rw', ht, hE', hT⟩ := s_cES hE hcE
  split at hcd
  · cases hcd
  · rename_i d hd
    obtain ⟨z, z1, z2⟩ := s_sbFS ht hd
    simp only [Bool.and_eq_true] at hcd
    have d0 := s_gezS hE hcd.1 z2
    have d1 := s_ge2S hE hcd.2 (s_subS hv z2)
    obtain ⟨D, rfl⟩ := Int.eq_ofNat_of_zero_le d0
    refine y_callS (D := D) (K := K) (S := fun x => ∃ rw, q_Th rv th rw ∧ S rw x) (Qp := fun H _ _ oc t => ∃ v, oc = .returned v ∧ ∃ n ∈ ce, ∃ x, S rw' x ∧ q_ret (rw' ++ x) ad n.1 v ∧ q_E (rw' ++ x) n.2.1 ∧ q_G dC dI dA (rw' ++ x) ad Hb H n.2.1 n.2.2 t.heap) hk hp (by omega) (fun H vs h1 h2 h3 => ?_) (fun H0 H a st t v h1 hG hq => ?_) p e R s m args below meth cd H0 H locs cells slots Q k pc nx lo st rs ls vs Cx site hcat F
    · have hcs := s_cHS h2 ht h3.2.2.2.2.1 hcH
      refine ih D (by omega) rw' H vs z1 (s_cLS h2 ht hcL h1) hE' ⟨h3.1, fun _ _ _ => rfl, ⟨Nat.le_refl _, h3.2.2.1.2⟩, (fun e => by rw [hT] at e; cases e), fun x hx => (hcs x hx).1, (fun a ha b hb e => by
        obtain ⟨a', a1, a2, -⟩ := (hcs a ha).2
        obtain ⟨b', b1, b2, -⟩ := (hcs b hb).2
        rw [← a2, ← b2]
        exact h3.2.2.2.2.2.1 a' a1 b' b1 (by rw [a2, b2]; exact e)), fun _ => (h3.2.2.2.2.2.2 hfl).kept fun i ⟨z, z1, z2, z3⟩ => ⟨by obtain ⟨w, w1, w2, w3⟩ := (hcs z z1).2; exact ⟨w, w1, by rw [w2]; exact z2, by rw [← w3]; exact z3⟩, rfl⟩⟩
    · obtain ⟨v2, hv2, n, hn, x, hS, o2, o3, o4⟩ := hq
      cases hv2
      obtain ⟨o, ho, k1, k2, k3, k4⟩ := y_endsS h1 hfl ht hG o2 o3 o4 hf hn
      exact ⟨o, ho, x, ⟨rw', ht, hS⟩, k1, k2, k3, k4⟩
end CallS
