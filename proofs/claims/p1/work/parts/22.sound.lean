section Sound
variable {l : Launch} {dC : Nat → ClassId} {dI : Nat → Nat → Nat} {dA : FieldType → ClassId} {r : Nat → Int32} {b base L : Nat} {Hb : Heap} {n : Nat}
theorem q_ret0 {nx : Nat} {lo : pL} {rs : List pA} {E : pE} {h : pH} {o : pO} {f : Nat × Nat × pF} (hf : p_ret (nx, lo, rs, E, h) o = some f) : o.1 = 0 := by
  obtain ⟨e0, ret0, pc0, lo0, st0, E0, h0⟩ := o
  unfold p_ret at hf
  split at hf
  · rename_i e1 e2
    cases e2
    rfl
  · cases hf
theorem q_bodyS {X : Nat → List pA → pE → pH → Option pZ} {D k : Nat} {as : List pA} {E : pE} {h : pH} {mc ms : Nat} {os : List pO} (hbb : b < base) (hk : k < 299) (hp : c_plain k = true) (hX : ∀ c as E h mc ms os, X c as E h = some (mc, ms, os) → q_CallOK l dC dI dA r b base L Hb D c as E h mc ms os)
    (hr : p_body L n X k as E h = some (mc, ms, os)) : q_CallOK l dC dI dA r b base L Hb (D + 1) k as E h mc ms os := by
  intro p e R s m args below meth cd H locs cells slots Q k0 pc nx lo st rs ls vs C site hcat F hD hD2 hcl hsl hret kk
  unfold p_body at hr
  cases hc : Nat.ble (p_cats as) (mL k) with
  | false => rw [hc] at hr; cases hr
  | true =>
    rw [hc] at hr
    refine q_callPlain hk hp (fun vs hvs hE => q_met hk hp hbb hX hr (Nat.le_of_ble_eq_true hc) hE (fun o ho => ?_) hvs) p e R s m args below meth cd H locs cells slots Q k0 pc nx lo st rs ls vs C site hcat F hD hD2 hcl hsl hret kk
    obtain ⟨f, hf⟩ := hret o ho
    exact q_ret0 hf
theorem q_hresS {z : Option pZ} {mc ms : Nat} {os : List pO} (h : p_hres z = some (mc, ms, os)) : ∃ os0, z = some (mc, ms, os0) ∧ os = os0.map p_hout ∧ ∀ o ∈ os0, o.1 = 1 ∧ p_cats o.2.2.2.2.1 ≤ 8 := by
  unfold p_hres at h
  split at h
  · cases h
  · rename_i mc1 ms1 os1
    cases ha : os1.all (fun o => Nat.beq o.1 1 && Nat.ble (p_cats o.2.2.2.2.1) 8) with
    | false => rw [ha] at h; cases h
    | true =>
      rw [ha] at h
      cases h
      refine ⟨os1, rfl, rfl, fun o ho => ?_⟩
      have := List.all_eq_true.mp ha o ho
      simp only [Bool.and_eq_true] at this
      exact ⟨Nat.eq_of_beq_eq_true this.1, Nat.le_of_ble_eq_true this.2⟩
theorem q_thrS {X : Nat → List pA → pE → pH → Option pZ} {D k : Nat} {as : List pA} {E : pE} {h : pH} {mc ms : Nat} {os : List pO} (hk : k = 117 ∨ k = 118 ∨ k = 130 ∨ k = 162) (hfl : l.stackTraces = false) (hbb : b < base) (hHb : Hb.size = base) (hX : ∀ c as E h mc ms os, X c as E h = some (mc, ms, os) → q_CallOK l dC dI dA r b base L Hb D c as E h mc ms os)
    (hr : p_body L n X k as E h = some (mc, ms, os)) (hE : q_E r E) (hos : ∀ o ∈ os, o.1 = 1 ∧ p_cats o.2.2.2.2.1 ≤ 8) {vs : List Value} (hvs : q_L r b base as vs) :
    vx_Met l (mY k) (q_ws k) (q_rm (D + 1) mc ms) (q_Pc dC dI dA r b base L Hb E h vs) (fun _ _ _ _ => False) (q_XC dC dI dA r b base Hb os) mc ms (fun q => base ≤ q) := by
  unfold p_body at hr
  cases hc : Nat.ble (p_cats as) (mL k) with
  | false => rw [hc] at hr; cases hr
  | true =>
    rw [hc] at hr
    exact q_metX hk hfl hbb hHb hX hr (Nat.le_of_ble_eq_true hc) hE hos hvs
theorem q_rcv1 {kc q : Nat} {h : pH} (hr : p_rcv kc [.inr (.inl (some (q + 1)))] h = true) (asc : List pA) : p_rcv kc (.inr (.inl (some (q + 1))) :: asc) h = true := hr
theorem q_exe (hfl : l.stackTraces = false) (hbb : b < base) (hHb : Hb.size = base) : ∀ (d c : Nat) (as : List pA) (E : pE) (h : pH) (mc ms : Nat) (os : List pO), p_exe L n d c as E h = some (mc, ms, os) → q_CallOK l dC dI dA r b base L Hb d c as E h mc ms os
  | 0, c, as, E, h, mc, ms, os, hr => by
    unfold p_exe at hr
    cases hr
  | 1, c, as, E, h, mc, ms, os, hr => by
    unfold p_exe at hr
    cases h1 : (Nat.blt c 299 && c_plain c) with
    | true =>
      rw [h1] at hr
      simp only [Bool.and_eq_true] at h1
      exact q_bodyS (D := 0) (X := fun _ _ _ _ => none) hbb (q_blt h1.1) h1.2 (fun _ _ _ _ _ _ _ h => nomatch h) hr
    | false =>
      rw [h1] at hr
      cases h2 : Nat.blt c 299 with
      | true => rw [h2] at hr; cases hr
      | false => rw [h2] at hr; exact q_callMath hr
  | d + 2, c, as, E, h, mc, ms, os, hr => by
    unfold p_exe at hr
    cases h1 : (Nat.blt c 299 && c_plain c) with
    | true =>
      rw [h1] at hr
      simp only [Bool.and_eq_true] at h1
      exact q_bodyS (D := d + 1) hbb (q_blt h1.1) h1.2 (q_exe hfl hbb hHb (d + 1)) hr
    | false =>
      rw [h1] at hr
      cases h2 : Nat.blt c 299 with
      | false => rw [h2] at hr; exact q_callMath hr
      | true =>
        rw [h2] at hr
        simp only [cond_false, cond_true] at hr
        split at hr
        · rename_i q x y ro
          cases h5 : Nat.beq c 295 with
          | true =>
            rw [h5] at hr
            have ec := Nat.eq_of_beq_eq_true h5
            subst ec
            simp only [cond_true] at hr
            cases hrc : p_rcv 117 [.inr (.inl (some (q + 1)))] h with
            | false => rw [hrc] at hr; cases hr
            | true =>
              rw [hrc] at hr
              obtain ⟨os0, hz, rfl, hos⟩ := q_hresS hr
              refine q_callH c_H5 (by decide) (by decide) (fun vs hvs hE => ?_)
              obtain ⟨w1, v1, rfl, hw1, w2, v2, rfl, ⟨xa, rfl, hxa⟩, w3, v3, rfl, ⟨xb, rfl, hxb⟩, w4, v4, rfl, hw4, hnil⟩ := hvs
              have e1 : w1 = .ref (base + q) := hw1
              have e4 : v4 = [] := hnil
              subst e1; subst e4
              have hM := q_thrS (Or.inl rfl) hfl hbb hHb (q_exe hfl hbb hHb d) hz hE hos (vs := [.ref (base + q), .int xa, .int xb]) ⟨_, _, rfl, rfl, _, _, rfl, ⟨xa, rfl, hxa⟩, _, _, rfl, ⟨xb, rfl, hxb⟩, rfl⟩
              have hw : ∃ rr, w4 = .ref rr := by
                have e5 : w4 = q_rf b base (some ro) := hw4
                cases ro with
                | zero => exact ⟨_, e5⟩
                | succ ro => exact ⟨_, e5⟩
              obtain ⟨rr, rfl⟩ := hw
              exact q_metHP (x := 7) (nx := 8) (a2 := 2) (a3 := 1205) (z := 0) c_H5 (by decide) (by decide +kernel) (by decide +kernel) (by decide) (by decide) (by decide +kernel) (by decide +kernel) (by decide +kernel) (by decide +kernel) (by decide +kernel) (by decide +kernel) (by decide +kernel) (by decide +kernel) (by decide +kernel) (by decide +kernel) (fun o ho => (hos o ho).1) (q_rcv1 hrc []) hM
          | false =>
            rw [h5] at hr
            simp only [cond_false] at hr
            cases h6 : Nat.beq c 296 with
            | false => rw [h6] at hr; cases hr
            | true =>
              rw [h6] at hr
              have ec := Nat.eq_of_beq_eq_true h6
              subst ec
              simp only [cond_true] at hr
              cases hrc : p_rcv 118 [.inr (.inl (some (q + 1)))] h with
              | false => rw [hrc] at hr; cases hr
              | true =>
                rw [hrc] at hr
                obtain ⟨os0, hz, rfl, hos⟩ := q_hresS hr
                refine q_callH c_H6 (by decide) (by decide) (fun vs hvs hE => ?_)
                obtain ⟨w1, v1, rfl, hw1, w2, v2, rfl, ⟨xa, rfl, hxa⟩, w3, v3, rfl, ⟨xb, rfl, hxb⟩, w4, v4, rfl, hw4, hnil⟩ := hvs
                have e1 : w1 = .ref (base + q) := hw1
                have e4 : v4 = [] := hnil
                subst e1; subst e4
                have hM := q_thrS (Or.inr (Or.inl rfl)) hfl hbb hHb (q_exe hfl hbb hHb d) hz hE hos (vs := [.ref (base + q), .int xa, .int xb]) ⟨_, _, rfl, rfl, _, _, rfl, ⟨xa, rfl, hxa⟩, _, _, rfl, ⟨xb, rfl, hxb⟩, rfl⟩
                have hw : ∃ rr, w4 = .ref rr := by
                  have e5 : w4 = q_rf b base (some ro) := hw4
                  cases ro with
                  | zero => exact ⟨_, e5⟩
                  | succ ro => exact ⟨_, e5⟩
                obtain ⟨rr, rfl⟩ := hw
                exact q_metHP (x := 15) (nx := 8) (a2 := 2) (a3 := 1283) (z := 0) c_H6 (by decide) (by decide +kernel) (by decide +kernel) (by decide) (by decide) (by decide +kernel) (by decide +kernel) (by decide +kernel) (by decide +kernel) (by decide +kernel) (by decide +kernel) (by decide +kernel) (by decide +kernel) (by decide +kernel) (by decide +kernel) (fun o ho => (hos o ho).1) (q_rcv1 hrc []) hM
        · rename_i q x ro
          cases h5 : Nat.beq c 297 with
          | true =>
            rw [h5] at hr
            have ec := Nat.eq_of_beq_eq_true h5
            subst ec
            simp only [cond_true] at hr
            cases hrc : p_rcv 130 [.inr (.inl (some (q + 1)))] h with
            | false => rw [hrc] at hr; cases hr
            | true =>
              rw [hrc] at hr
              obtain ⟨os0, hz, rfl, hos⟩ := q_hresS hr
              refine q_callH c_H7 (by decide) (by decide) (fun vs hvs hE => ?_)
              obtain ⟨w1, v1, rfl, hw1, w2, v2, rfl, ⟨xa, rfl, hxa⟩, w4, v4, rfl, hw4, hnil⟩ := hvs
              have e1 : w1 = .ref (base + q) := hw1
              have e4 : v4 = [] := hnil
              subst e1; subst e4
              have hM := q_thrS (Or.inr (Or.inr (Or.inl rfl))) hfl hbb hHb (q_exe hfl hbb hHb d) hz hE hos (vs := [.ref (base + q), .int xa]) ⟨_, _, rfl, rfl, _, _, rfl, ⟨xa, rfl, hxa⟩, rfl⟩
              have hw : ∃ rr, w4 = .ref rr := by
                have e5 : w4 = q_rf b base (some ro) := hw4
                cases ro with
                | zero => exact ⟨_, e5⟩
                | succ ro => exact ⟨_, e5⟩
              obtain ⟨rr, rfl⟩ := hw
              exact q_metHQ (x := 18) (nx := 7) (a2 := 1) (a3 := 1292) (z := 0) c_H7 (by decide) (by decide +kernel) (by decide +kernel) (by decide) (by decide) (by decide +kernel) (by decide +kernel) (by decide +kernel) (by decide +kernel) (by decide +kernel) (by decide +kernel) (by decide +kernel) (by decide +kernel) (by decide +kernel) (fun o ho => (hos o ho).1) (q_rcv1 hrc []) hM
          | false =>
            rw [h5] at hr
            simp only [cond_false] at hr
            cases h6 : Nat.beq c 298 with
            | false => rw [h6] at hr; cases hr
            | true =>
              rw [h6] at hr
              have ec := Nat.eq_of_beq_eq_true h6
              subst ec
              simp only [cond_true] at hr
              cases hrc : p_rcv 162 [.inr (.inl (some (q + 1)))] h with
              | false => rw [hrc] at hr; cases hr
              | true =>
                rw [hrc] at hr
                obtain ⟨os0, hz, rfl, hos⟩ := q_hresS hr
                refine q_callH c_H8 (by decide) (by decide) (fun vs hvs hE => ?_)
                obtain ⟨w1, v1, rfl, hw1, w2, v2, rfl, ⟨xa, rfl, hxa⟩, w4, v4, rfl, hw4, hnil⟩ := hvs
                have e1 : w1 = .ref (base + q) := hw1
                have e4 : v4 = [] := hnil
                subst e1; subst e4
                have hM := q_thrS (Or.inr (Or.inr (Or.inr rfl))) hfl hbb hHb (q_exe hfl hbb hHb d) hz hE hos (vs := [.ref (base + q), .int xa]) ⟨_, _, rfl, rfl, _, _, rfl, ⟨xa, rfl, hxa⟩, rfl⟩
                have hw : ∃ rr, w4 = .ref rr := by
                  have e5 : w4 = q_rf b base (some ro) := hw4
                  cases ro with
                  | zero => exact ⟨_, e5⟩
                  | succ ro => exact ⟨_, e5⟩
                obtain ⟨rr, rfl⟩ := hw
                exact q_metHQ (x := 22) (nx := 7) (a2 := 1) (a3 := 1300) (z := 0) c_H8 (by decide) (by decide +kernel) (by decide +kernel) (by decide) (by decide) (by decide +kernel) (by decide +kernel) (by decide +kernel) (by decide +kernel) (by decide +kernel) (by decide +kernel) (by decide +kernel) (by decide +kernel) (by decide +kernel) (fun o ho => (hos o ho).1) (q_rcv1 hrc []) hM
        · cases hr
end Sound
