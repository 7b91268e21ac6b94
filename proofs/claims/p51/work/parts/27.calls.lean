/-! What a call comes to: by a contract, or by the body. -/
noncomputable def s_nO (n : sN) : sO := (0, n.1, (0, [], [], n.2.1, n.2.2))
/-- a contract holds, so deep -/
noncomputable def q_KOK (l : Launch) (dC : Nat → ClassId) (dI : Nat → Nat → Nat) (dA : FieldType → ClassId) (Hb : Heap) (ad : Nat → Nat) (c : Nat) (C : sK) (D : Nat) : Prop :=
  ∀ (rw : List Int) (H : Heap) (vs : List Value), s_val rw C.1 = some (D : Int) → q_L rw ad C.2.1 vs → q_E rw C.2.2.1 → q_G dC dI dA rw ad Hb H C.2.2.1 C.2.2.2.1 H →
    Met l (mY c) (q_ws c) (q_rm D 0 0) (q_Pc dC dI dA Hb H vs) (q_Qc dC dI dA rw ad Hb H (C.2.2.2.2.map s_nO)) 0 0 (fun q => Hb.size ≤ q)
noncomputable def s_X (tab : Nat → List sK) : Nat → sF → Nat → List sA → sE → sH → Option sZ
  | 0, dp, c, as, E, h => match tab c with
    | [] => none
    | l => match s_fits dp as E h l with
      | none => none
      | some os => bif Nat.blt c 302 && c_plain c then some (0, 0, os) else none
  | j + 1, dp, c, as, E, h => match tab c with
    | [] => bif Nat.blt c 302 && c_plain c && Nat.ble (s_cats as) (mL c) && s_gez E dp 1 then (match s_run (s_X tab j) (s_sub dp (s_num 1)) c (fun _ => false) 4000 (0, s_args 0 as, [], E, h) with
      | none => none
      | some (mc, ms, os) => bif os.all (fun o => Nat.beq o.1 0 && s_pre h o.2.2.2.2.2.2) then some (mc, ms, os) else none) else none
    | l => match s_fits dp as E h l with
      | none => none
      | some os => bif Nat.blt c 302 && c_plain c then some (0, 0, os) else none
section Calls
variable {l : Launch} {dC : Nat → ClassId} {dI : Nat → Nat → Nat} {dA : FieldType → ClassId} {Hb : Heap} {ad : Nat → Nat}
theorem q_callK {rv : List Int} {K c : Nat} {dp : sF} {as : List sA} {E : sE} {h : sH} {os : List sO} {C : sK} (hk : c < 302) (hp : c_plain c = true) (hv : s_val rv dp = some (K : Int)) (ih : ∀ D, D < K → q_KOK l dC dI dA Hb ad c C D) (hf : s_fit1 dp as E h C = some os) : q_CallOK l dC dI dA Hb rv ad K c as E h 0 0 os := by
  intro p e R s m args below meth cd H0 H locs cells slots Q k pc nx lo st rs ls vs Cx site hcat F
  have hE := F.2.2.1
  obtain ⟨cdp, cas, cE, ch, ce⟩ := C
  unfold s_fit1 at hf
  dsimp only at hf hE
  split at hf
  · cases hf
  · rename_i th hth
    obtain ⟨hc, hf⟩ := q_bif hf
    · rw [Bool.and_eq_true, Bool.and_eq_true, Bool.and_eq_true, Bool.and_eq_true] at hc
      obtain ⟨⟨⟨⟨hfl, hcL⟩, hcE⟩, hcH⟩, hcd⟩ := hc
      have hfl : E.1 = false := by simpa using hfl
      obtain ⟨rw', ht, hE', hT⟩ := s_cES hE hcE
      split at hcd
      · cases hcd
      · rename_i d hd
        obtain ⟨z, z1, z2⟩ := s_sbFS ht hd
        simp only [Bool.and_eq_true] at hcd
        have d0 := s_gezS hE hcd.1 z2
        have d1 := s_ge2S hE hcd.2 (s_subS hv z2)
        obtain ⟨D, rfl⟩ := Int.eq_ofNat_of_zero_le d0
        refine q_callPlain (D := D) (K := K) (Qp := fun H => q_Qc dC dI dA rw' ad Hb H (ce.map s_nO)) hk hp (by omega) (fun H vs h1 h2 h3 => ?_) (fun H0 H a st t v h1 hG hq => ?_) p e R s m args below meth cd H0 H locs cells slots Q k pc nx lo st rs ls vs Cx site hcat F
        · have hcs := s_cHS h2 ht h3.2.2.2.2.1 hcH
          refine ih D (by omega) rw' H vs z1 (s_cLS h2 ht hcL h1) hE' ⟨h3.1, fun _ _ _ => rfl, ⟨Nat.le_refl _, h3.2.2.1.2⟩, (fun e => by rw [hT] at e; cases e), fun x hx => (hcs x hx).1, (fun a ha b hb e => by
            obtain ⟨a', a1, a2, -⟩ := (hcs a ha).2
            obtain ⟨b', b1, b2, -⟩ := (hcs b hb).2
            rw [← a2, ← b2]
            exact h3.2.2.2.2.2.1 a' a1 b' b1 (by rw [a2, b2]; exact e)), fun _ => (h3.2.2.2.2.2.2 hfl).kept fun i ⟨z, z1, z2, z3⟩ => ⟨by obtain ⟨w, w1, w2, w3⟩ := (hcs z z1).2; exact ⟨w, w1, by rw [w2]; exact z2, by rw [← w3]; exact z3⟩, rfl⟩⟩
        · obtain ⟨v2, hv2, o, ho, x, o1, o2, o3, o4⟩ := hq
          cases hv2
          obtain ⟨n, hn, rfl⟩ := List.mem_map.mp ho
          exact s_endsS h1 hfl ht hG o2 o3 o4 hf hn
theorem s_fitsS {dp : sF} {as : List sA} {E : sE} {h : sH} : ∀ {Cs : List sK} {os : List sO}, s_fits dp as E h Cs = some os → ∃ C ∈ Cs, s_fit1 dp as E h C = some os
  | [], _, hf => by cases hf
  | C :: r, os, hf => by
    unfold s_fits at hf
    split at hf
    · rename_i o2 h1
      cases hf
      exact ⟨C, List.mem_cons_self, h1⟩
    · obtain ⟨C2, h1, h2⟩ := s_fitsS hf
      exact ⟨C2, List.mem_cons_of_mem _ h1, h2⟩
theorem q_xok {tab : Nat → List sK} : ∀ (j K : Nat) (dp : sF), (∀ D, D < K → ∀ c, ∀ C ∈ tab c, q_KOK l dC dI dA Hb ad c C D) → q_XOK l dC dI dA Hb ad K dp (s_X tab j)
  | j, K, dp, ih => by
    have con : ∀ {rv : List Int} {c : Nat} {as : List sA} {E : sE} {h : sH} {mc ms : Nat} {os : List sO} {Cs : List sK}, s_val rv dp = some (K : Int) → tab c = Cs → (match s_fits dp as E h Cs with
      | none => (none : Option sZ)
      | some os => bif Nat.blt c 302 && c_plain c then some (0, 0, os) else none) = some (mc, ms, os) → q_CallOK l dC dI dA Hb rv ad K c as E h mc ms os := by
      intro rv c as E h mc ms os Cs hv ht hs
      split at hs
      · cases hs
      · rename_i os2 hos
        cases hc : Nat.blt c 302 && c_plain c with
        | false => rw [hc] at hs; cases hs
        | true =>
          rw [hc] at hs
          cases hs
          simp only [Bool.and_eq_true] at hc
          obtain ⟨C, h1, h2⟩ := s_fitsS hos
          exact q_callK (Nat.le_of_ble_eq_true hc.1) hc.2 hv (fun D hD => ih D hD c C (by rw [ht]; exact h1)) h2
    intro rv c as E h mc ms os hv hs
    cases j with
    | zero =>
      unfold s_X at hs
      split at hs
      · cases hs
      · rename_i l2 hne
        exact con hv rfl hs
    | succ j =>
      unfold s_X at hs
      split at hs
      · obtain ⟨hc, hs⟩ := q_bif hs
        rw [Bool.and_eq_true, Bool.and_eq_true, Bool.and_eq_true] at hc
        obtain ⟨⟨⟨c1, c2⟩, c3⟩, c4⟩ := hc
        split at hs
        · cases hs
        · rename_i mc2 ms2 os2 hr
          obtain ⟨hall, hs⟩ := q_bif hs
          cases hs
          intro p e R s m args below meth cd H0 H locs cells slots Q k pc nx lo st rs ls vs Cx site hcat F
          have k1 : 1 ≤ (K : Int) := s_gezS F.2.2.1 c4 hv
          obtain ⟨K', rfl⟩ : ∃ K', K = K' + 1 := ⟨K - 1, by omega⟩
          have hv' : s_val rv (s_sub dp (s_num 1)) = some (K' : Int) := by
            have := s_subS hv (s_numS 1)
            rw [this]
            congr 1
            omega
          refine q_callIn (D := K') (Nat.le_of_ble_eq_true c1) c2 (Nat.le_refl _) (q_xok j K' (s_sub dp (s_num 1)) (fun D hD => ih D (by omega))) hr hv' (Nat.le_of_ble_eq_true c3) (fun o ho => ?_) p e R s m args below meth cd H0 H locs cells slots Q k pc nx lo st rs ls vs Cx site hcat F
          have := List.all_eq_true.mp hall o ho
          rw [Bool.and_eq_true] at this
          exact ⟨Nat.eq_of_beq_eq_true this.1, this.2⟩
      · rename_i l2 hne
        exact con hv rfl hs
end Calls
