/-! Contracts with a premise of the names' values; pieces of bodies with what is then known. -/
def q_XOKp (l : Launch) (dC : Nat → ClassId) (dI : Nat → Nat → Nat) (dA : FieldType → ClassId) (Hb : Heap) (ad : Nat → Nat) (K : Nat) (dp : sF) (PP : List Int → Prop) (X : sF → Nat → List sA → sE → sH → Option sZ) : Prop :=
  ∀ (rv : List Int) (c : Nat) (as : List sA) (E : sE) (h : sH) (mc ms : Nat) (os : List sO), PP rv → s_val rv dp = some (K : Int) → X dp c as E h = some (mc, ms, os) → q_CallOK l dC dI dA Hb rv ad K c as E h mc ms os
section Run2
variable {p : Program} {l : Launch} {e : Env} {R : Room} {s : State} {m : MethodId} {args : Array Value} {below : List Frame} {meth : Method} {c : Code} {Q : State → Prop}
variable {dC : Nat → ClassId} {dI : Nat → Nat → Nat} {dA : FieldType → ClassId} {ad : Nat → Nat} {Hb H0 : Heap} {k K : Nat} {dp : sF} {stp : sG → Bool} {X : sF → Nat → List sA → sE → sH → Option sZ} {PP : List Int → Prop}
theorem q_run2 (C : q_Ctx p R s m args meth c dC dI dA Hb k) (hPP : ∀ rv x, PP rv → PP (rv ++ x)) (hX : q_XOKp l dC dI dA Hb ad K dp PP X) (hD : K + 8 ≤ R.frames) (hD2 : 80 * K + 400 ≤ R.locals) :
    ∀ (n : Nat) (f : sG) (mc ms : Nat) (os : List sO) (rv : List Int), PP rv → s_run X dp k stp n f = some (mc, ms, os) → s_val rv dp = some (K : Int) → ∀ (ls : Array Slot) (vs : List Value) (H : Heap) (locs : List Loc) (cells slots : Nat), q_Fr dC dI dA rv ad Hb H0 (mL k) f ls vs H locs → cells + mc ≤ R.cells → slots + ms ≤ R.slots →
      (∀ o ∈ os, q_Term k stp o → ∀ (x : List Int) (ls : Array Slot) (vs : List Value) (H : Heap) (locs : List Loc) (cells' slots' : Nat), q_Fr dC dI dA (rv ++ x) ad Hb H0 (mL k) o.2.2 ls vs H locs → cells' + (bif Nat.beq o.1 1 then 1 else 0) ≤ cells + mc → slots' + (bif Nat.beq o.1 1 then 6 else 0) ≤ slots + ms → W p l e R s m args below meth c H locs cells' slots' Q (F0 m o.2.2.1 ls vs)) →
      W p l e R s m args below meth c H locs cells slots Q (F0 m f.1 ls vs)
  | 0, f, mc, ms, os, _, _, h, _, _, _, _, _, _, _, _, _, _, _ => by cases h
  | n + 1, (pc, lo, st, E, h), mc, ms, os, rv, hp, hr, hv, ls, vs, H, locs, cells, slots, F, hc, hs, hend => by
    unfold s_run at hr
    cases hst : stp (pc, lo, st, E, h) with
    | true =>
      rw [hst] at hr
      cases hr
      exact hend _ (List.mem_singleton.mpr rfl) (Or.inl ⟨rfl, hst⟩) [] ls vs H locs cells slots (by rw [List.append_nil]; exact F) (Nat.le_refl _) (Nat.le_refl _)
    | false =>
      rw [hst] at hr
      simp only [cond_false] at hr
      cases hhk : s_hook k (pc, lo, st, E, h) with
      | some g =>
        rw [hhk] at hr
        simp only at hr
        obtain ⟨x, F1, epc⟩ := q_hook hhk F
        have epc : g.1 = pc := epc
        rw [show ((pc, lo, st, E, h) : sG).1 = g.1 from epc.symm]
        exact q_run2 C hPP hX hD hD2 n g mc ms os (rv ++ x) (hPP _ _ hp) hr (s_val_mono x hv) ls vs H locs cells slots F1 hc hs (fun o ho ht x2 ls2 vs2 H2 locs2 cells2 slots2 F2 z1 z2 => hend o ho ht (x ++ x2) ls2 vs2 H2 locs2 cells2 slots2 (by rw [← List.append_assoc]; exact F2) z1 z2)
      | none =>
      rw [hhk] at hr
      simp only at hr
      split at hr
      · cases hr
      · rename_i l0 hstep
        have hall := s_allS hr
        refine q_next C hstep F (fun q hq => ?_) (fun q hq x ls1 vs1 H1 locs1 F1 => ?_)
        · obtain ⟨c1, s1, o1, g1, g2, g3, g4⟩ := hall q hq
          exact ⟨by omega, by omega⟩
        · obtain ⟨c1, s1, o1, g1, g2, g3, g4⟩ := hall q hq
          exact q_run2 C hPP hX hD hD2 n q.2.2 c1 s1 o1 (rv ++ x) (hPP _ _ hp) g1 (s_val_mono x hv) ls1 vs1 H1 locs1 (cells + q.1) (slots + q.2.1) F1 (by omega) (by omega) (fun o ho ht x2 ls2 vs2 H2 locs2 cells2 slots2 F2 z1 z2 => hend o (g4 o ho) ht (x ++ x2) ls2 vs2 H2 locs2 cells2 slots2 (by rw [← List.append_assoc]; exact F2) (by omega) (by omega))
      · rename_i e2 r2 hstep
        cases hr
        exact hend _ (List.mem_singleton.mpr rfl) (Or.inr hstep) [] ls vs H locs cells slots (by rw [List.append_nil]; exact F) (Nat.le_refl _) (Nat.le_refl _)
      · rename_i c2 as f2 hstep
        split at hr
        · cases hr
        · rename_i mc1 ms1 os1 hx1
          split at hr
          · cases hr
          · rename_i l1 hl1
            split at hr
            · cases hr
            · rename_i c3 s3 o3 h3
              cases hr
              obtain ⟨nx, rs, rfl, hcat, hc3, site⟩ := q_site hstep
              have hall := s_allS h3
              refine hX _ _ _ _ _ _ _ _ hp hv hx1 p e R s m args below meth c H0 H locs cells slots Q k pc nx lo st rs ls vs C site hcat F hD hD2 (by omega) (by omega) (fun o ho => ?_) (fun o ho f hf x ls1 vs1 H1 locs1 F1 => ?_)
              · obtain ⟨x, g1, -⟩ := s_retsS hl1 o ho
                exact ⟨x, g1⟩
              · obtain ⟨y, g1, g2⟩ := s_retsS hl1 o ho
                have ex : y = f := Option.some.inj (g1.symm.trans hf)
                subst ex
                obtain ⟨c4, s4, o4, k1, k2, k3, k4⟩ := hall y g2
                exact q_run2 C hPP hX hD hD2 n y.2.2 c4 s4 o4 (rv ++ x) (hPP _ _ hp) k1 (s_val_mono x hv) ls1 vs1 H1 locs1 (cells + mc1) (slots + ms1) F1 (by omega) (by omega) (fun o ho ht x2 ls2 vs2 H2 locs2 cells2 slots2 F2 z1 z2 => hend o (k4 o ho) ht (x ++ x2) ls2 vs2 H2 locs2 cells2 slots2 (by rw [← List.append_assoc]; exact F2) (by omega) (by omega))
end Run2
/-- a contract with a premise holds, so deep -/
def q_KOKp (l : Launch) (dC : Nat → ClassId) (dI : Nat → Nat → Nat) (dA : FieldType → ClassId) (Hb : Heap) (ad : Nat → Nat) (P : List Int → Prop) (c : Nat) (C : sK) (D : Nat) : Prop :=
  ∀ (rw : List Int) (H : Heap) (vs : List Value), P rw → s_val rw C.1 = some (D : Int) → q_L rw ad C.2.1 vs → q_E rw C.2.2.1 → q_G dC dI dA rw ad Hb H C.2.2.1 C.2.2.2.1 H →
    Met l (mY c) (q_ws c) (q_rm D 0 0) (q_Pc dC dI dA Hb H vs) (q_Qc dC dI dA rw ad Hb H (C.2.2.2.2.map s_nO)) 0 0 (fun q => Hb.size ≤ q)
def s_fitT (th : List sF) (dp : sF) (as : List sA) (E : sE) (h : sH) (C : sK) : Option (List sO) := match C with
  | (cd, cas, cE, ch, ce) => bif !E.1 && s_cL E th cas as && s_cE E th cE && s_cH E th h ch && (match s_sbF th cd with
        | none => false
        | some d => s_gez E d 0 && s_ge2 E (s_sub dp d) 1) then s_ends E h th cE.2.1 ce else none
def s_XP (c0 : Nat) (th : List sF) (C : sK) (X : sF → Nat → List sA → sE → sH → Option sZ) : sF → Nat → List sA → sE → sH → Option sZ := fun dp c as E h => bif Nat.beq c c0 then (match s_fitT th dp as E h C with
  | none => none
  | some os => bif Nat.blt c 302 && c_plain c then some (0, 0, os) else none) else X dp c as E h
section Calls2
variable {l : Launch} {dC : Nat → ClassId} {dI : Nat → Nat → Nat} {dA : FieldType → ClassId} {Hb : Heap} {ad : Nat → Nat} {P PP : List Int → Prop}
theorem q_callKp {rv : List Int} {K c : Nat} {dp : sF} {th : List sF} {as : List sA} {E : sE} {h : sH} {os : List sO} {C : sK} (hk : c < 302) (hp : c_plain c = true) (hv : s_val rv dp = some (K : Int)) (hP : ∀ rw, q_Th rv th rw → P rw) (ih : ∀ D, D < K → q_KOKp l dC dI dA Hb ad P c C D) (hf : s_fitT th dp as E h C = some os) : q_CallOK l dC dI dA Hb rv ad K c as E h 0 0 os := by
  intro p e R s m args below meth cd H0 H locs cells slots Q k pc nx lo st rs ls vs Cx site hcat F
  have hE := F.2.2.1
  obtain ⟨cdp, cas, cE, ch, ce⟩ := C
  unfold s_fitT at hf
  dsimp only at hf hE
  obtain ⟨hc, hf⟩ := q_bif hf
  rw [Bool.and_eq_true, Bool.and_eq_true, Bool.and_eq_true, Bool.and_eq_true] at hc
  obtain ⟨⟨⟨⟨hfl, hcL⟩, hcE⟩, hcH⟩, hcd⟩ := hc
  have hfl : E.1 = false := by simpa using hfl
  obtain ⟨rw', ht, hE', hT⟩ := s_cES hE hcE
  split at hcd
  · cases hcd
  · rename_i d hd
    obtain ⟨z, z1, z2⟩ := s_sbFS ht hd
    simp only [Bool.and_eq_true] at hcd
    have d0 := s_gezS hE hcd.1 z2
    have d1 := s_ge2S hE hcd.2 (s_subS hv z2)
    obtain ⟨D, rfl⟩ := Int.eq_ofNat_of_zero_le d0
    refine q_callPlain (D := D) (K := K) (Qp := fun H => q_Qc dC dI dA rw' ad Hb H (ce.map s_nO)) hk hp (by omega) (fun H vs h1 h2 h3 => ?_) (fun H0 H a st t v h1 hG hq => ?_) p e R s m args below meth cd H0 H locs cells slots Q k pc nx lo st rs ls vs Cx site hcat F
    · have hcs := s_cHS h2 ht h3.2.2.2.2.1 hcH
      refine ih D (by omega) rw' H vs (hP _ ht) z1 (s_cLS h2 ht hcL h1) hE' ⟨h3.1, fun _ _ _ => rfl, ⟨Nat.le_refl _, h3.2.2.1.2⟩, (fun e => by rw [hT] at e; cases e), fun x hx => (hcs x hx).1, (fun a ha b hb e => by
        obtain ⟨a', a1, a2, -⟩ := (hcs a ha).2
        obtain ⟨b', b1, b2, -⟩ := (hcs b hb).2
        rw [← a2, ← b2]
        exact h3.2.2.2.2.2.1 a' a1 b' b1 (by rw [a2, b2]; exact e)), fun _ => (h3.2.2.2.2.2.2 hfl).kept fun i ⟨z, z1, z2, z3⟩ => ⟨by obtain ⟨w, w1, w2, w3⟩ := (hcs z z1).2; exact ⟨w, w1, by rw [w2]; exact z2, by rw [← w3]; exact z3⟩, rfl⟩⟩
    · obtain ⟨v2, hv2, o, ho, x, o1, o2, o3, o4⟩ := hq
      cases hv2
      obtain ⟨n, hn, rfl⟩ := List.mem_map.mp ho
      exact s_endsS h1 hfl ht hG o2 o3 o4 hf hn
theorem q_xokP {K c0 : Nat} {dp : sF} {th : List sF} {C : sK} {X : sF → Nat → List sA → sE → sH → Option sZ} (hX : q_XOK l dC dI dA Hb ad K dp X) (hK : ∀ D, D < K → q_KOKp l dC dI dA Hb ad P c0 C D) (hP : ∀ rv rw, PP rv → q_Th rv th rw → P rw) : q_XOKp l dC dI dA Hb ad K dp PP (s_XP c0 th C X) := by
  intro rv c as E h mc ms os hp hv hx
  unfold s_XP at hx
  cases hb : Nat.beq c c0 with
  | false =>
    rw [hb] at hx
    exact hX rv c as E h mc ms os hv hx
  | true =>
    rw [hb] at hx
    simp only [cond_true] at hx
    have e := Nat.eq_of_beq_eq_true hb
    subst e
    split at hx
    · cases hx
    · rename_i os2 hos
      obtain ⟨hc, hx⟩ := q_bif hx
      cases hx
      rw [Bool.and_eq_true] at hc
      exact q_callKp (Nat.le_of_ble_eq_true hc.1) hc.2 hv (fun rw ht => hP rv rw hp ht) hK hos
theorem q_xokO {K : Nat} {dp : sF} {X : sF → Nat → List sA → sE → sH → Option sZ} (hX : q_XOK l dC dI dA Hb ad K dp X) : q_XOKp l dC dI dA Hb ad K dp PP X := fun rv c as E h mc ms os _ hv hx => hX rv c as E h mc ms os hv hx
end Calls2
/-! A piece of a body: where it comes to, in which words, and what is known then. -/
def s_toB (n0 : Nat) (b : List sF) (T S : sG) : Bool := match T, S with
  | (pc, lo, st, tE, th), (pc2, lo2, st2, E, h) => Nat.beq pc pc2 && (!E.1 && s_idn n0 n0 b && s_cLo E b lo2 lo && s_cL E b st st2 && s_cE E b tE && s_cH E b h th && s_subI th h)
def s_okB (n0 : Nat) (b : List sF) (ret : Option sA) (E : sE) (h : sH) (n : sN) : Bool := match n with
  | (r2, nE, nh) => !E.1 && s_idn n0 n0 b && (match r2, ret with
      | some a, some c => s_cA E b a c
      | none, none => true
      | _, _ => false) && s_cE E b nE && s_cH E b h nh && s_subI nh h
abbrev sAl : Type := ((sG × List sF) ⊕ (sN × List sF)) × List (sF × Int) × List sF
def s_alt (n0 : Nat) (o : sO) (a : sAl) : Bool := (a.2.1.all (fun q => s_ge2 o.2.2.2.2.2.1 q.1 q.2) && a.2.2.all (fun f => s_nz0 o.2.2.2.2.2.1 f)) && (match a.1 with
  | .inl (T, b) => Nat.beq o.1 2 && s_toB n0 b T o.2.2
  | .inr (n, b) => Nat.beq o.1 0 && s_okB n0 b o.2.1 o.2.2.2.2.2.1 o.2.2.2.2.2.2 n)
def s_seg (X : sF → Nat → List sA → sE → sH → Option sZ) (dp : sF) (k : Nat) (stp : sG → Bool) (n n0 : Nat) (f : sG) (as : List sAl) : Bool := match s_step k f.1 f.2.1 f.2.2.1 f.2.2.2.1 f.2.2.2.2 with
  | some (.inl l) => (match s_all (s_run X dp k stp n) l with
    | some (c, s, os) => Nat.beq c 0 && Nat.beq s 0 && os.all (fun o => as.any (s_alt n0 o))
    | none => false)
  | _ => false
/-- what is known of the old values, of the new -/
def q_fct (rv : List Int) (ge : List (sF × Int)) (ne : List sF) : Prop := (∀ q ∈ ge, ∀ w, s_val rv q.1 = some w → q.2 ≤ w) ∧ ∀ f ∈ ne, ∀ w, s_val rv f = some w → w ≠ 0
def y_new (rv : List Int) (b : List sF) (rw : List Int) : Prop := b.length = rw.length ∧ ∀ (k : Nat) (f : sF) (w : Int), b[k]? = some f → s_val rv f = some w → rw[k]? = some w
section Segs
variable {dC : Nat → ClassId} {dI : Nat → Nat → Nat} {dA : FieldType → ClassId} {ad : Nat → Nat} {Hb H0 H : Heap} {rv0 y : List Int} {E : sE} {h : sH} {n0 : Nat} {b : List sF}
theorem s_toBS {Tg S : sG} {nL : Nat} {ls : Array Slot} {vs : List Value} {locs : List Loc} (h0 : rv0.length = n0) (F : q_Fr dC dI dA (rv0 ++ y) ad Hb H0 nL S ls vs H locs) (hs : s_toB n0 b Tg S = true) : ∃ y', q_Th (rv0 ++ y) b (rv0 ++ y') ∧ q_Fr dC dI dA (rv0 ++ y') ad Hb H0 nL Tg ls vs H locs ∧ Tg.1 = S.1 := by
  obtain ⟨pc, lo, st, tE, tH⟩ := Tg
  obtain ⟨pc2, lo2, st2, sE2, h2⟩ := S
  obtain ⟨f1, f2, f3, f4, f5⟩ := F
  unfold s_toB at hs
  dsimp only at hs f1 f2 f3 f4
  rw [Bool.and_eq_true] at hs
  obtain ⟨hpc, hc⟩ := hs
  rw [Bool.and_eq_true, Bool.and_eq_true, Bool.and_eq_true, Bool.and_eq_true, Bool.and_eq_true, Bool.and_eq_true] at hc
  obtain ⟨⟨⟨⟨⟨⟨c0, c1⟩, c2⟩, c3⟩, c4⟩, c5⟩, c6⟩ := hc
  have c0 : sE2.1 = false := by simpa using c0
  obtain ⟨rw', k1, k2, k3⟩ := s_cES f3 c4
  obtain ⟨y', rfl⟩ := s_idnV h0 k1 c1
  exact ⟨y', k1, ⟨⟨f1.1, f1.2.1, s_cLoS f3 k1 f1 c2⟩, s_cLS f3 k1 c3 f2, k2, s_heapT f3 c0 k1 k3 c5 c6 f4, f5⟩, Nat.eq_of_beq_eq_true hpc⟩
theorem s_okBS {n : sN} {ret : Option sA} {v : Option Value} (h0 : rv0.length = n0) (hE : q_E (rv0 ++ y) E) (hG : q_G dC dI dA (rv0 ++ y) ad Hb H0 E h H) (hr : q_ret (rv0 ++ y) ad ret v) (hs : s_okB n0 b ret E h n = true) : ∃ x, q_Th (rv0 ++ y) b (rv0 ++ x) ∧ q_ret (rv0 ++ x) ad n.1 v ∧ q_E (rv0 ++ x) n.2.1 ∧ q_G dC dI dA (rv0 ++ x) ad Hb H0 n.2.1 n.2.2 H := by
  obtain ⟨r2, nE, nh⟩ := n
  unfold s_okB at hs
  dsimp only at hs
  rw [Bool.and_eq_true, Bool.and_eq_true, Bool.and_eq_true, Bool.and_eq_true, Bool.and_eq_true] at hs
  obtain ⟨⟨⟨⟨⟨c0, c1⟩, c2⟩, c3⟩, c4⟩, c5⟩ := hs
  have c0 : E.1 = false := by simpa using c0
  obtain ⟨rw', k1, k2, k3⟩ := s_cES hE c3
  obtain ⟨y', rfl⟩ := s_idnV h0 k1 c1
  refine ⟨y', k1, ?_, k2, s_heapT hE c0 k1 k3 c4 c5 hG⟩
  split at c2
  · rename_i a c
    obtain ⟨w, w1, w2⟩ := hr
    exact ⟨w, w1, s_cAS hE k1 c2 w2⟩
  · exact hr
  · cases c2
theorem q_fctS {x : List Int} {ge : List (sF × Int)} {ne : List sF} (hE : q_E (rv0 ++ x) E) (h1 : ge.all (fun q => s_ge2 E q.1 q.2) = true) (h2 : ne.all (fun f => s_nz0 E f) = true) : q_fct rv0 ge ne := by
  refine ⟨fun q hq w hw => ?_, fun f hf w hw => ?_⟩
  · exact s_ge2S hE (List.all_eq_true.mp h1 q hq) (s_val_mono x hw)
  · exact s_nz0S hE (List.all_eq_true.mp h2 f hf) (s_val_mono x hw)
theorem y_newS {rv x rw : List Int} (h : q_Th (rv ++ x) b rw) : y_new rv b rw := ⟨h.1, fun k f w hk hw => by
  obtain ⟨v, v1, v2⟩ := h.2 k f hk
  rw [s_val_mono x hw] at v2
  cases v2
  exact v1⟩
end Segs
section SegW
variable {p : Program} {l : Launch} {e : Env} {s : State} {m : MethodId} {below : List Frame} {meth : Method} {c : Code}
variable {dC : Nat → ClassId} {dI : Nat → Nat → Nat} {dA : FieldType → ClassId} {ad : Nat → Nat} {Hb H0 : Heap} {k K n n0 : Nat} {dp : sF} {stp : sG → Bool} {X : sF → Nat → List sA → sE → sH → Option sZ} {PP : List Int → Prop} {Qc : Array Value → State → Outcome → State → Prop} {vs : List Value}
set_option maxHeartbeats 1000000 in
theorem q_segW (Cx : q_Ctx p (q_rm K 0 0) s m vs.toArray meth c dC dI dA Hb k) (hret : meth.sig.returnType = mR k) (hlocks : meth.locks = false) (hPP : ∀ rv x, PP rv → PP (rv ++ x)) (hX : q_XOKp l dC dI dA Hb ad K dp PP X) {rv0 y : List Int} (h0 : rv0.length = n0) (hdp : s_val (rv0 ++ y) dp = some (K : Int)) (hP : PP (rv0 ++ y)) {f : sG} {as : List sAl} (hseg : s_seg X dp k stp n n0 f as = true) {ls1 : Array Slot} {vs1 : List Value} {H1 : Heap} {locs1 : List Loc} (F : q_Fr dC dI dA (rv0 ++ y) ad Hb H0 (mL k) f ls1 vs1 H1 locs1)
    (hT : ∀ (T : sG) (b : List sF) (ge : List (sF × Int)) (ne : List sF), ((.inl (T, b), ge, ne) : sAl) ∈ as → q_fct (rv0 ++ y) ge ne → ∀ (y' : List Int) (ls2 : Array Slot) (vs2 : List Value) (H2 : Heap) (locs2 : List Loc), y_new (rv0 ++ y) b (rv0 ++ y') → q_Fr dC dI dA (rv0 ++ y') ad Hb H0 (mL k) T ls2 vs2 H2 locs2 → W p l e (q_rm K 0 0) s m vs.toArray below meth c H2 locs2 0 0 (MQ below Qc vs.toArray s 0 0 (fun q => Hb.size ≤ q)) (F0 m T.1 ls2 vs2))
    (hN : ∀ (nn : sN) (b : List sF) (ge : List (sF × Int)) (ne : List sF), ((.inr (nn, b), ge, ne) : sAl) ∈ as → q_fct (rv0 ++ y) ge ne → ∀ (v : Option Value) (x : List Int) (H2 : Heap), y_new (rv0 ++ y) b (rv0 ++ x) → q_ret (rv0 ++ x) ad nn.1 v → q_E (rv0 ++ x) nn.2.1 → q_G dC dI dA (rv0 ++ x) ad Hb H0 nn.2.1 nn.2.2 H2 → ∀ t : State, t.heap = H2 → Qc vs.toArray s (.returned v) t) :
    W p l e (q_rm K 0 0) s m vs.toArray below meth c H1 locs1 0 0 (MQ below Qc vs.toArray s 0 0 (fun q => Hb.size ≤ q)) (F0 m f.1 ls1 vs1) := by
  obtain ⟨pc, lo, st, E, h⟩ := f
  unfold s_seg at hseg
  dsimp only at hseg
  split at hseg
  · rename_i l0 hstep
    split at hseg
    · rename_i c0 s0 os hz
      rw [Bool.and_eq_true, Bool.and_eq_true] at hseg
      have e1 := Nat.eq_of_beq_eq_true hseg.1.1
      have e2 := Nat.eq_of_beq_eq_true hseg.1.2
      subst e1
      subst e2
      have hall := s_allS hz
      refine q_next Cx hstep F (fun q0 hq0 => ?_) (fun q0 hq0 x ls2 vs2 H2 locs2 F2 => ?_)
      · obtain ⟨a1, a2, o1, g1, g2, g3, g4⟩ := hall q0 hq0
        exact ⟨by show 0 + q0.1 ≤ 0; omega, by show 0 + q0.2.1 ≤ 0; omega⟩
      · obtain ⟨a1, a2, o1, g1, g2, g3, g4⟩ := hall q0 hq0
        have e1 : q0.1 = 0 := by omega
        have e2 : q0.2.1 = 0 := by omega
        have e3 : a1 = 0 := by omega
        have e4 : a2 = 0 := by omega
        subst e3
        subst e4
        rw [e1, e2]
        refine q_run2 Cx hPP hX (Nat.le_refl _) (Nat.le_refl _) n q0.2.2 0 0 o1 (rv0 ++ y ++ x) (hPP _ _ hP) g1 (s_val_mono _ hdp) ls2 vs2 H2 locs2 0 0 F2 (Nat.le_refl _) (Nat.le_refl _) (fun o ho ht x2 ls3 vs3 H3 locs3 cells3 slots3 F3 z1 z2 => ?_)
        have e5 : cells3 = 0 := by omega
        have e6 : slots3 = 0 := by omega
        subst e5
        subst e6
        have F3 : q_Fr dC dI dA (rv0 ++ y ++ (x ++ x2)) ad Hb H0 (mL k) o.2.2 ls3 vs3 H3 locs3 := by rw [← List.append_assoc]; exact F3
        obtain ⟨a, ha, hal⟩ := List.any_eq_true.mp (List.all_eq_true.mp hseg.2 o (g4 o ho))
        obtain ⟨alt, ge, ne⟩ := a
        unfold s_alt at hal
        rw [Bool.and_eq_true, Bool.and_eq_true] at hal
        have hf := q_fctS F3.2.2.1 hal.1.1 hal.1.2
        have hal2 := hal.2
        have F4 : q_Fr dC dI dA (rv0 ++ (y ++ (x ++ x2))) ad Hb H0 (mL k) o.2.2 ls3 vs3 H3 locs3 := by rw [← List.append_assoc]; exact F3
        split at hal2
        · rename_i T b heq
          have heq : alt = .inl (T, b) := heq
          subst heq
          rw [Bool.and_eq_true] at hal2
          obtain ⟨y', k1, k2, k3⟩ := s_toBS h0 F4 hal2.2
          rw [← k3]
          rw [← List.append_assoc] at k1
          exact hT T b ge ne ha hf y' ls3 vs3 H3 locs3 (y_newS k1) k2
        · rename_i nn b heq
          have heq : alt = .inr (nn, b) := heq
          subst heq
          rw [Bool.and_eq_true] at hal2
          have e0 := Nat.eq_of_beq_eq_true hal2.1
          rcases ht with ⟨ht, -⟩ | ht
          · rw [ht] at e0
            cases e0
          · obtain ⟨e0', ret0, pc3, lo3, st3, E3, h3⟩ := o
            dsimp only at e0 ht hal2 F4 ⊢
            subst e0
            refine q_leave Cx hret hlocks ht F4 (fun v hv t htH _ => ?_)
            obtain ⟨x3, w1, w2, w3, w4⟩ := s_okBS h0 F4.2.2.1 F4.2.2.2.1 hv hal2.2
            rw [← List.append_assoc] at w1
            exact hN nn b ge ne ha hf v x3 H3 (y_newS w1) w2 w3 w4 t htH
    · cases hseg
  · cases hseg
end SegW
