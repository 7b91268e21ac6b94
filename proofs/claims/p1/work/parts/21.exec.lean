/-! Every call of the machine is one of the true one. -/
section HelperMets
variable {l : Launch} {dC : Nat → ClassId} {dI : Nat → Nat → Nat} {dA : FieldType → ClassId} {r : Nat → Int32} {b base L : Nat} {Hb : Heap} {k kc D mc ms : Nat} {E : pE} {h : pH} {os : List pO} {x nx a2 a3 : Nat} {z : Int}
theorem q_metHP (hH : c_H k = true) (hk : k < 299) (hmL : mL k = 5) (hhh : q_hh k = [(0, 10, 13, 13)]) (hkc : kc < 299) (hkcp : c_plain kc = true) (hmP : mP kc = 2)
    (d0 : decode (mC k) 0 = .ok (.aload_n 3, 1)) (d1 : decode (mC k) 1 = .ok (.iconst 0, 1)) (d2 : decode (mC k) 2 = .ok (.aload_n 0, 1)) (d3 : decode (mC k) 3 = .ok (.iload_n 1, 1)) (d4 : decode (mC k) 4 = .ok (.iload_n 2, 1)) (hi : ins k 5 = some (.invokevirtual x, nx, kc, a2, a3, z)) (d13 : decode (mC k) 13 = .ok (.astore 4, 2)) (d15 : decode (mC k) 15 = .ok (.iconst 1, 1)) (d16 : decode (mC k) 16 = .ok (.ireturn, 1))
    (hos : ∀ o ∈ os, o.1 = 1) {q ro : Nat} {xa xb : Int32} {asc : List pA} (hrc : p_rcv kc (.inr (.inl (some (q + 1))) :: asc) h = true)
    (hM : vx_Met l (mY kc) (q_ws kc) (q_rm D mc ms) (q_Pc dC dI dA r b base L Hb E h [.ref (base + q), .int xa, .int xb]) (fun _ _ _ _ => False) (q_XC dC dI dA r b base Hb os) mc ms (fun q => base ≤ q)) :
    Met l (mY k) (q_wsH k) (q_rm (D + 1) mc ms) (q_Pc dC dI dA r b base L Hb E h [.ref (base + q), .int xa, .int xb, .ref ro]) (q_Qc dC dI dA r b base Hb (os.map p_hout)) mc ms (fun q => base ≤ q) := by
  obtain ⟨w1, w2, w3, w4, w5, w6, w7, w8, w9⟩ := q_HW hH
  refine q_ofWH (cc := mC k) (maxL := mL k) (ret := mR k) (hh := q_hh k) w3 rfl ?_
  intro p e s m args below meth c s₁ B hml hv
  obtain ⟨rfl, hK, hG⟩ := hv
  have hts0 := atoms_spec (ws := q_wsH k) B.pre
  have hts : ∀ w ∈ tb, w.before _ s = true := fun w hw => hts0 w (List.mem_cons_of_mem _ hw)
  have hown : s.vm.findClass (mY k).cls = some m.cls := findClass_of_methodNamed B.named
  have hlocks := B.notSynchronized
  have hret : meth.sig.returnType = some .int := B.returns.trans w8
  have htab : c.exceptionTable.toList = tableOf (q_hh k) := vx_table (x := mY k) B (hts _ w1)
  rw [hhh] at htab
  have hx := B.exec
  have hb := B.bytes
  have hl := lv_entry [Value.ref (base + q), .int xa, .int xb, .ref ro] (n := mL k) (by rw [hmL]; exact Nat.le_of_ble_eq_true rfl)
  rw [lg_entry_eq]
  generalize (lg_sl [Value.ref (base + q), .int xa, .int xb, .ref ro] ++ List.replicate (mL k - (lg_sl [Value.ref (base + q), .int xa, .int xb, .ref ro]).length) Slot.unset).toArray = ls at hl ⊢
  have hl : lv_has ls (mL k) [(0, .ref (base + q)), (1, .int xa), (2, .int xb), (3, .ref ro)] := hl
  refine lv_aload_n hx hb d0 rfl (lv_at hl 3 rfl) ?_
  refine lv_iconst (v := 0) hx hb d1 rfl ?_
  refine lv_aload_n hx hb d2 rfl (lv_at hl 0 rfl) ?_
  refine lv_iload_n hx hb d3 rfl (lv_at hl 1 rfl) ?_
  refine lv_iload_n hx hb d4 rfl (lv_at hl 2 rfl) ?_
  refine q_hcall (en := { startPc := 0, endPc := 10, handlerPc := 13, catchType := 13 }) (As := [.int xa, .int xb]) (rest := [.int 0, .ref ro]) (hp := 13) hx hb hml hown hts hK hG hk hkc hkcp w9 hret hlocks hi hrc hM (by rw [hmP]; rfl) (show 1 + (1 + 0) ≤ 8 by decide) hl.1 htab rfl rfl rfl (by show D + 9 ≤ D + 1 + 8; omega) (by show 80 * D + 480 ≤ 80 * (D + 1) + 400; omega) (Nat.le_refl _) (Nat.le_refl _) (fun q9 H1 locs1 hl1 hq => ?_)
  refine lv_astore hx hb d13 hl (by rw [hmL]; decide) rfl (fun ls' _ => ?_)
  exact q_hend hx hb hret hlocks hos hl1 hq d15 d16
theorem q_metHQ (hH : c_H k = true) (hk : k < 299) (hmL : mL k = 4) (hhh : q_hh k = [(0, 9, 12, 13)]) (hkc : kc < 299) (hkcp : c_plain kc = true) (hmP : mP kc = 1)
    (d0 : decode (mC k) 0 = .ok (.aload_n 2, 1)) (d1 : decode (mC k) 1 = .ok (.iconst 0, 1)) (d2 : decode (mC k) 2 = .ok (.aload_n 0, 1)) (d3 : decode (mC k) 3 = .ok (.iload_n 1, 1)) (hi : ins k 4 = some (.invokevirtual x, nx, kc, a2, a3, z)) (d12 : decode (mC k) 12 = .ok (.astore_n 3, 1)) (d13 : decode (mC k) 13 = .ok (.iconst 1, 1)) (d14 : decode (mC k) 14 = .ok (.ireturn, 1))
    (hos : ∀ o ∈ os, o.1 = 1) {q ro : Nat} {xa : Int32} {asc : List pA} (hrc : p_rcv kc (.inr (.inl (some (q + 1))) :: asc) h = true)
    (hM : vx_Met l (mY kc) (q_ws kc) (q_rm D mc ms) (q_Pc dC dI dA r b base L Hb E h [.ref (base + q), .int xa]) (fun _ _ _ _ => False) (q_XC dC dI dA r b base Hb os) mc ms (fun q => base ≤ q)) :
    Met l (mY k) (q_wsH k) (q_rm (D + 1) mc ms) (q_Pc dC dI dA r b base L Hb E h [.ref (base + q), .int xa, .ref ro]) (q_Qc dC dI dA r b base Hb (os.map p_hout)) mc ms (fun q => base ≤ q) := by
  obtain ⟨w1, w2, w3, w4, w5, w6, w7, w8, w9⟩ := q_HW hH
  refine q_ofWH (cc := mC k) (maxL := mL k) (ret := mR k) (hh := q_hh k) w3 rfl ?_
  intro p e s m args below meth c s₁ B hml hv
  obtain ⟨rfl, hK, hG⟩ := hv
  have hts0 := atoms_spec (ws := q_wsH k) B.pre
  have hts : ∀ w ∈ tb, w.before _ s = true := fun w hw => hts0 w (List.mem_cons_of_mem _ hw)
  have hown : s.vm.findClass (mY k).cls = some m.cls := findClass_of_methodNamed B.named
  have hlocks := B.notSynchronized
  have hret : meth.sig.returnType = some .int := B.returns.trans w8
  have htab : c.exceptionTable.toList = tableOf (q_hh k) := vx_table (x := mY k) B (hts _ w1)
  rw [hhh] at htab
  have hx := B.exec
  have hb := B.bytes
  have hl := lv_entry [Value.ref (base + q), .int xa, .ref ro] (n := mL k) (by rw [hmL]; exact Nat.le_of_ble_eq_true rfl)
  rw [lg_entry_eq]
  generalize (lg_sl [Value.ref (base + q), .int xa, .ref ro] ++ List.replicate (mL k - (lg_sl [Value.ref (base + q), .int xa, .ref ro]).length) Slot.unset).toArray = ls at hl ⊢
  have hl : lv_has ls (mL k) [(0, .ref (base + q)), (1, .int xa), (2, .ref ro)] := hl
  refine lv_aload_n hx hb d0 rfl (lv_at hl 2 rfl) ?_
  refine lv_iconst (v := 0) hx hb d1 rfl ?_
  refine lv_aload_n hx hb d2 rfl (lv_at hl 0 rfl) ?_
  refine lv_iload_n hx hb d3 rfl (lv_at hl 1 rfl) ?_
  refine q_hcall (en := { startPc := 0, endPc := 9, handlerPc := 12, catchType := 13 }) (As := [.int xa]) (rest := [.int 0, .ref ro]) (hp := 12) hx hb hml hown hts hK hG hk hkc hkcp w9 hret hlocks hi hrc hM (by rw [hmP]; rfl) (show 1 + (1 + 0) ≤ 8 by decide) hl.1 htab rfl rfl rfl (by show D + 9 ≤ D + 1 + 8; omega) (by show 80 * D + 480 ≤ 80 * (D + 1) + 400; omega) (Nat.le_refl _) (Nat.le_refl _) (fun q9 H1 locs1 hl1 hq => ?_)
  refine lv_astore_n hx hb d12 rfl hl (by rw [hmL]; decide) rfl (fun ls' _ => ?_)
  exact q_hend hx hb hret hlocks hos hl1 hq d13 d14
theorem q_callH {c : Nat} {as : List pA} (hH : c_H c = true) (hc299 : c < 299) (hnp : c_plain c = false) (hM : ∀ vs, q_L r b base as vs → q_E r E → Met l (mY c) (q_wsH c) (q_rm D mc ms) (q_Pc dC dI dA r b base L Hb E h vs) (q_Qc dC dI dA r b base Hb os) mc ms (fun q => base ≤ q)) : q_CallOK l dC dI dA r b base L Hb D c as E h mc ms os := by
  intro p e R s m args below meth cd H locs cells slots Q k pc nx lo st rs ls vs C site hcat F hD hD2 hcl hsl hret kk
  obtain ⟨hx, hb, hml, hown, hts, hK, hnm, hbb, hRf, hRl, hk9⟩ := C
  obtain ⟨hlo, hst, hE, hG, hlc⟩ := F
  obtain ⟨w1, w2, w3, w4, w5, w6, w7, w8, w9⟩ := q_HW hH
  have hroom : (q_rm D mc ms).frames + 1 ≤ R.frames ∧ 8 + (mL c + 11) + (q_rm D mc ms).locals ≤ R.locals := ⟨by rw [show (q_rm D mc ms).frames = D + 8 from rfl]; omega, q_key0 hD2 _ w7⟩
  obtain ⟨x, a2, a3, z, site⟩ := site
  rcases site with ⟨hi, ht⟩ | ⟨hi, ht, hr⟩ | ⟨hi, h900, ht, q, as', rfl⟩
  · obtain ⟨en, hd⟩ := q_dec (n := 3) hk9 hi rfl
    have hc := (q_row hk9 hi).2.2.1
    simp only [c_I, q_beqF (show c ≠ 901 by omega), cond_false, nMth, q_bleF (show c < 303 by omega), Bool.false_or, Bool.and_eq_true] at hc
    have ea2 := Nat.eq_of_beq_eq_true hc.2
    obtain ⟨wv, vr, rfl, g1, g2, g3⟩ := p_takeS ht rfl hst
    rw [List.append_nil] at g1
    refine q_callW (vx_runSW (hh := q_hh c) (bytes := mC c) (maxL := mL c) (ret := mR c) (n := mP c) (As := wv.reverse) (rest := vr) ⟨hx, hb, hml, hown, hts⟩ (hM _ g1 hE)
      ⟨⟨rfl, rfl, hroom.1, hroom.2, pay_in hts (q_goodH w1), List.mem_cons_self⟩, hts _ w1, hts _ w2, ⟨w4, w5⟩, fun sig hsig => by
        have h2 := w6
        rw [hsig] at h2
        exact (Option.some.inj h2).symm, hts _ (wAt_mem hc.1.1), hts _ (wAt_mem hc.1.2)⟩
      ⟨fun a U g mk q => ⟨q.1, q.2.1.calling, q.2.2⟩, fun U hU hW => ⟨rfl, hK.moved hW, by rw [hU]; exact hG⟩⟩ rfl (by rw [List.length_reverse, g3, ea2]) hlo.1 (by rw [List.reverse_reverse]) (lv_room (by rw [g2.cats]; exact hcat)) hd ⟨hcl, hsl⟩) hlc (fun v st2 t locs1 hq hl1 => ?_)
    obtain ⟨o, ho, ho0, ⟨v2, hv2, hv3⟩, hoE, hoG⟩ := hq
    cases hv2
    obtain ⟨f, hf⟩ := hret o ho
    obtain ⟨e0, ret0, pc0, lo0, st0, E0, h0⟩ := o
    simp only at ho0
    subst ho0
    cases hf
    subst en
    exact kk _ ho _ rfl ls _ t.heap locs1 ⟨hlo, q_appL hv3 g2, hoE, hoG, hl1⟩
  · have hc := (q_row hk9 hi).2.2.1
    simp only [c_I, nMth, q_bleF (show c < 303 by omega), Bool.false_or, Bool.and_eq_true] at hc
    rw [hnp] at hc
    exact absurd hc.1.1.1.1.1 (by decide)
  · have hc := (q_row hk9 hi).2.2.1
    simp only [c_I, h900, cond_false, nMth, q_bleF (show c < 303 by omega), Bool.false_or, Bool.and_eq_true, decide_eq_true_eq] at hc
    rw [hnp] at hc
    exact absurd hc.1.1.1.1.1 (by decide)
end HelperMets
def p_hres : Option pZ → Option pZ
  | none => none
  | some (mc, ms, os) => bif os.all (fun o => Nat.beq o.1 1 && Nat.ble (p_cats o.2.2.2.2.1) 8) then some (mc, ms, os.map p_hout) else none
/-- the body of a method -/
def p_body (L n : Nat) (X : Nat → List pA → pE → pH → Option pZ) (k : Nat) (as : List pA) (E : pE) (h : pH) : Option pZ := bif Nat.ble (p_cats as) (mL k) then p_run L X k 1000000 n (0, p_args 0 as, [], E, h) else none
/-- a method, so deep: the law's helpers, plain ones, Math's -/
def p_exe (L n : Nat) : Nat → Nat → List pA → pE → pH → Option pZ
  | 0, _, _, _, _ => none
  | 1, k, as, E, h => bif Nat.blt k 299 && c_plain k then p_body L n (fun _ _ _ _ => none) k as E h else bif Nat.blt k 299 then none else p_math k as E h
  | d + 2, k, as, E, h => bif Nat.blt k 299 && c_plain k then p_body L n (p_exe L n (d + 1)) k as E h else bif Nat.blt k 299 then (match as with
      | [.inr (.inl (some (q + 1))), .inl x, .inl y, .inr (.inl (some _))] => bif Nat.beq k 295 then (bif p_rcv 117 [.inr (.inl (some (q + 1)))] h then p_hres (p_body L n (p_exe L n d) 117 [.inr (.inl (some (q + 1))), .inl x, .inl y] E h) else none) else
          bif Nat.beq k 296 then (bif p_rcv 118 [.inr (.inl (some (q + 1)))] h then p_hres (p_body L n (p_exe L n d) 118 [.inr (.inl (some (q + 1))), .inl x, .inl y] E h) else none) else none
      | [.inr (.inl (some (q + 1))), .inl x, .inr (.inl (some _))] => bif Nat.beq k 297 then (bif p_rcv 130 [.inr (.inl (some (q + 1)))] h then p_hres (p_body L n (p_exe L n d) 130 [.inr (.inl (some (q + 1))), .inl x] E h) else none) else
          bif Nat.beq k 298 then (bif p_rcv 162 [.inr (.inl (some (q + 1)))] h then p_hres (p_body L n (p_exe L n d) 162 [.inr (.inl (some (q + 1))), .inl x] E h) else none) else none
      | _ => none) else p_math k as E h
