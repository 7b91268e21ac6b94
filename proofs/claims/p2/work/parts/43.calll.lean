/-! Calls of the law. -/
def t_X (tab : Nat → List sK) : sF → Nat → List sA → sE → sH → Option sZ := fun dp c as E h => match p_hlp c with
  | none => s_X tab 8 dp c as E h
  | some kc => bif Nat.ble (s_cats as) (mL c) then s_hrun (s_X tab 8) dp c kc as E h else none
theorem s_hrunP {X : sF → Nat → List sA → sE → sH → Option sZ} {dp : sF} {c kc mc ms : Nat} {as : List sA} {E : sE} {h : sH} {os : List sO} (hr : s_hrun X dp c kc as E h = some (mc, ms, os)) : s_gez E dp 2 = true ∧ ∀ o ∈ os, s_pre h o.2.2.2.2.2.2 = true := by
  unfold s_hrun at hr
  split at hr
  · obtain ⟨hb1, hs1⟩ := q_bif hr
    rw [Bool.and_eq_true] at hb1
    refine ⟨hb1.2, ?_⟩
    split at hs1
    · obtain ⟨-, hs2⟩ := q_bif hs1
      split at hs2
      · obtain ⟨-, hs3⟩ := q_bif hs2
        split at hs3
        · obtain ⟨-, hs4⟩ := q_bif hs3
          split at hs4
          · obtain ⟨hb5, hs5⟩ := q_bif hs4
            cases hs5
            exact fun o ho => List.all_eq_true.mp hb5 o ho
          · cases hs4
        · cases hs3
      · cases hs2
    · cases hs1
  · cases hr
section CallL
variable {l : Launch} {dC : Nat → ClassId} {dI : Nat → Nat → Nat} {dA : FieldType → ClassId} {Hb : Heap} {ad : Nat → Nat}
theorem q_callHlp {X : sF → Nat → List sA → sE → sH → Option sZ} {dp : sF} {rv : List Int} {K c kc mc ms : Nat} {as : List sA} {E : sE} {h : sH} {os : List sO} (hfl : l.stackTraces = false) (hh : q_HK c kc) (hX : ∀ (D : Nat) (d : sF), D < K → q_XOK l dC dI dA Hb ad D d X) (hr : s_hrun X dp c kc as E h = some (mc, ms, os)) (hv : s_val rv dp = some (K : Int)) (hcas : s_cats as ≤ mL c) : q_CallOK l dC dI dA Hb rv ad K c as E h mc ms os := by
  intro p e R s m args below meth cd H0 H locs cells slots Q k pc nx lo st rs ls vs C site hcat F hD hD2 hcl hsl hret kk
  obtain ⟨hx, hb, hml, hown, hts, hK, hnm, hRf, hRl⟩ := C
  obtain ⟨hlo, hst, hE, hG, hlc⟩ := F
  obtain ⟨hgz, hpre⟩ := s_hrunP hr
  have hK2 : 2 ≤ (K : Int) := s_gezS hE hgz hv
  have hGs : q_G dC dI dA rv ad Hb H E h H := ⟨hG.1, fun _ _ _ => rfl, ⟨Nat.le_refl _, hG.2.2.1.2⟩, hG.2.2.2⟩
  obtain ⟨hH, hHD, hc1, hc2, hkc⟩ := hh
  obtain ⟨w1, w2, w3, w4, w5, w6, w7, w8, w9⟩ := q_HW hH
  have hroom : (q_rm (K - 1) mc ms).frames + 1 ≤ R.frames ∧ 8 + (mL c + 11) + (q_rm (K - 1) mc ms).locals ≤ R.locals := ⟨by show K - 1 + 8 + 1 ≤ R.frames; omega, q_key0 (by omega) _ w7⟩
  obtain ⟨x, a2, a3, z, site⟩ := site
  have hnp : c_plain c = false := by
    have : c = 298 ∨ c = 299 ∨ c = 300 ∨ c = 301 := by omega
    rcases this with rfl | rfl | rfl | rfl <;> rfl
  rcases site with ⟨hi, ht⟩ | ⟨hi, ht, hr'⟩ | ⟨hi, h900, ht, q, as', rfl⟩
  · obtain ⟨en, hd⟩ := q_dec (n := 3) hi rfl
    have hc := (q_rowI hi).2.2.1
    simp only [c_I, q_beqF (show c ≠ 901 by omega), cond_false, nMth, q_bleF (show c < 303 by omega), Bool.false_or, Bool.and_eq_true] at hc
    have ea2 := Nat.eq_of_beq_eq_true hc.2
    obtain ⟨wv, vr, rfl, g1, g2, g3⟩ := s_takeS ht rfl hst
    rw [List.append_nil] at g1
    obtain ⟨-, hM⟩ := q_metH hfl ⟨hH, hHD, hc1, hc2, hkc⟩ hX hr hv hcas g1 hE hGs
    refine q_callW (vx_runSW (hh := q_hh c) (bytes := mC c) (maxL := mL c) (ret := mR c) (n := mP c) (As := wv.reverse) (rest := vr) ⟨hx, hb, hml, hown, hts⟩ hM
      ⟨⟨rfl, rfl, hroom.1, hroom.2, pay_in hts (q_goodH w1), List.mem_cons_self⟩, hts _ w1, hts _ w2, ⟨w4, w5⟩, fun sig hsig => by
        have h2 := w6
        rw [hsig] at h2
        exact (Option.some.inj h2).symm, hts _ (wAt_mem hc.1.1), hts _ (wAt_mem hc.1.2)⟩
      ⟨fun a U g mk q => ⟨q.1, q.2.1.calling, q.2.2⟩, fun U hU hW => ⟨rfl, hK.moved hW, hU⟩⟩ rfl (by rw [List.length_reverse, g3, ea2]) hlo.1 (by rw [List.reverse_reverse]) (lv_room (by rw [g2.cats]; exact hcat)) hd ⟨hcl, hsl⟩) hlc (fun v st2 t locs1 hq hl1 => ?_)
    obtain ⟨v2, hv2, o, ho, y, ho0, hv3, hoE, hoG⟩ := hq
    cases hv2
    obtain ⟨f, hf⟩ := hret o ho
    have hp := hpre o ho
    obtain ⟨e0, ret0, pc0, lo0, st0, E0, h0⟩ := o
    dsimp only at ho0 hv3 hoE hoG hp
    subst ho0
    cases hf
    have en : nx = pc + 3 := en
    subst en
    exact kk _ ho _ rfl y ls _ t.heap locs1 ⟨hlo.mono y, q_appL hv3 (g2.mono y), hoE, hG.back hp hoG, hl1⟩
  · have hc := (q_rowI hi).2.2.1
    simp only [c_I, nMth, q_bleF (show c < 303 by omega), Bool.false_or, Bool.and_eq_true] at hc
    have := hc.1.1.1.1.1
    rw [hnp] at this
    cases this
  · have hc := (q_rowI hi).2.2.1
    simp only [c_I, h900, cond_false, nMth, q_bleF (show c < 303 by omega), Bool.false_or, Bool.and_eq_true, decide_eq_true_eq] at hc
    have := hc.1.1.1.1.1
    rw [hnp] at this
    cases this
theorem q_xokL {tab : Nat → List sK} (hfl : l.stackTraces = false) (hT : ∀ D, ∀ c, ∀ C ∈ tab c, q_KOK l dC dI dA Hb ad c C D) (K : Nat) (dp : sF) : q_XOK l dC dI dA Hb ad K dp (t_X tab) := by
  intro rv c as E h mc ms os hv hs
  unfold t_X at hs
  cases hp : p_hlp c with
  | none =>
    rw [hp] at hs
    exact q_xok 8 K dp (fun D _ => hT D) rv c as E h mc ms os hv hs
  | some kc =>
    rw [hp] at hs
    obtain ⟨hb, hs⟩ := q_bif hs
    exact q_callHlp hfl (q_hk hp) (fun D d _ => q_xok 8 D d (fun D' _ => hT D')) hs hv (Nat.le_of_ble_eq_true hb)
end CallL
