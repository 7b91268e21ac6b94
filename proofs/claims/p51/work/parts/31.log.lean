/-! Bodies that write into open rows: these aren't named there; what is written is kept in a log. -/
noncomputable abbrev sLg : Type := List (Nat × sF × sF)
noncomputable def s_stpP (pcs : List Nat) (f : sG) : Bool := pcs.any (fun p => Nat.beq p f.1)
noncomputable def s_one? (U : List (Nat × Nat)) (q : Nat) : Option Nat := match U with
  | [] => none
  | u :: r => bif Nat.beq u.1 q then some u.2 else s_one? r q
noncomputable def s_ruO (rec : sG → sLg → Option (List (sO × sLg))) (U : List (Nat × Nat)) (ch : sH) (k : Nat) (lg : sLg) : List sO → Option (List (sO × sLg))
  | [] => some []
  | o :: r => match (bif s_subI ch o.2.2.2.2.2.2 && U.all (fun u => !(s_hasI o.2.2.2.2.2.2 u.1)) then (bif Nat.beq o.1 2 then (match ins k o.2.2.1, o.2.2.2.2.1 with
      | some (.iastore, nx, _), .inl x :: .inl v :: .inr (.inl (some q)) :: st => (match s_one? U q with
        | none => none
        | some len => bif s_ix o.2.2.2.2.2.1 (s_num len) v then rec (nx, o.2.2.2.1, st, o.2.2.2.2.2.1, o.2.2.2.2.2.2) ((q, v, x) :: lg) else none)
      | _, _ => none) else some [(o, lg)]) else none) with
    | none => none
    | some a => match s_ruO rec U ch k lg r with
      | none => none
      | some b => some (a ++ b)
noncomputable def s_ruL (X : sF → Nat → List sA → sE → sH → Option sZ) (dp : sF) (k : Nat) (pcs : List Nat) (U : List (Nat × Nat)) (ch : sH) : Nat → sG → sLg → Option (List (sO × sLg))
  | 0, _, _ => none
  | n + 1, S, lg => match s_run X dp k (s_stpP pcs) 4000 S with
    | some (c, s, os) => bif Nat.beq c 0 && Nat.beq s 0 then s_ruO (s_ruL X dp k pcs U ch n) U ch k lg os else none
    | none => none
/-- what a row is behind the log -/
noncomputable def q_ap (rv : List Int) (q : Nat) (g0 : Nat → Int32) : sLg → (Nat → Int32) → Prop
  | [], g => g = g0
  | e :: r, g => ∃ g1, q_ap rv q g0 r g1 ∧ ((e.1 = q ∧ ∃ (j : Nat) (y : Int32), s_val rv e.2.1 = some (j : Int) ∧ s_val rv e.2.2 = some y.toInt ∧ g = upd g1 j y) ∨ (e.1 ≠ q ∧ g = g1))
theorem q_ap.mono {rv : List Int} {q : Nat} {g0 : Nat → Int32} (x : List Int) : ∀ {lg : sLg} {g : Nat → Int32}, q_ap rv q g0 lg g → q_ap (rv ++ x) q g0 lg g
  | [], _, h => h
  | e :: r, g, ⟨g1, h1, h2⟩ => ⟨g1, h1.mono x, by
    rcases h2 with ⟨a, j, y, b, c, d⟩ | h2
    · exact Or.inl ⟨a, j, y, s_val_mono x b, s_val_mono x c, d⟩
    · exact Or.inr h2⟩
section Log
variable {p : Program} {l : Launch} {e : Env} {R : Room} {s : State} {m : MethodId} {args : Array Value} {below : List Frame} {meth : Method} {c : Code} {Q : State → Prop}
variable {dC : Nat → ClassId} {dI : Nat → Nat → Nat} {dA : FieldType → ClassId} {ad : Nat → Nat} {Hb H0 : Heap} {k K : Nat} {dp : sF} {X : sF → Nat → List sA → sE → sH → Option sZ} {U : List (Nat × Nat)} {ch : sH}
/-- the rows that aren't named, and what is unchanged -/
noncomputable def q_Un (dA : FieldType → ClassId) (ad : Nat → Nat) (Hb H0 : Heap) (U : List (Nat × Nat)) (ch : sH) (rv : List Int) (G0 : Nat → Nat → Int32) (lg : sLg) (h : sH) (H : Heap) : Prop :=
  (∀ u ∈ U, s_hasI h u.1 = false ∧ (s_hasI ch u.1 = true ∧ Hb.size ≤ ad u.1) ∧ ∃ g, q_ap rv u.1 (G0 u.1) lg g ∧ H[ad u.1]? = some (vp_cell (dA .int) (u.2, .inl g))) ∧ (∀ q : Nat, q < H0.size → (∀ z ∈ ch, ad z.1 ≠ q) → H[q]? = H0[q]?) ∧ H0.size ≤ H.size ∧ (∀ z ∈ h, s_hasI ch z.1 = true) ∧ (∀ a ∈ ch, ∀ b ∈ ch, ad a.1 = ad b.1 → a.1 = b.1)
theorem s_oneUS : ∀ {U : List (Nat × Nat)} {q n : Nat}, s_one? U q = some n → (q, n) ∈ U
  | [], _, _, h => by cases h
  | u :: r, q, n, h => by
    unfold s_one? at h
    cases e : Nat.beq u.1 q with
    | true =>
      rw [e] at h
      cases h
      rw [← Nat.eq_of_beq_eq_true e]
      exact List.mem_cons_self
    | false =>
      rw [e] at h
      exact List.mem_cons_of_mem _ (s_oneUS h)
theorem s_hasF {h : sH} {k : Nat} (hh : s_hasI h k = false) : ∀ z ∈ h, z.1 ≠ k := by
  unfold s_hasI at hh
  split at hh
  · rename_i e
    exact s_hgetN e
  · cases hh
theorem s_hasT {h : sH} {k : Nat} (hh : s_hasI h k = true) : ∃ z ∈ h, z.1 = k := by
  unfold s_hasI at hh
  split at hh
  · cases hh
  · rename_i cc e
    exact ⟨_, s_hgetS e, rfl⟩
theorem s_subH {h o : sH} (hs : s_subI h o = true) : ∀ q ∈ o, s_hasI h q.1 = true := by
  intro q hq
  cases hh : s_hasI h q.1 with
  | true => rfl
  | false =>
    obtain ⟨y, y1, y2⟩ := s_subIS hs q hq
    exact absurd y2 (s_hasF hh y y1)
theorem q_ruL (C : q_Ctx p R s m args meth c dC dI dA Hb k) (hX : q_XOK l dC dI dA Hb ad K dp X) (hD : K + 8 ≤ R.frames) (hD2 : 80 * K + 400 ≤ R.locals) {pcs : List Nat} {G0 : Nat → Nat → Int32} :
    ∀ (n : Nat) (S : sG) (lg : sLg) (res : List (sO × sLg)) (rv : List Int), s_ruL X dp k pcs U ch n S lg = some res → s_val rv dp = some (K : Int) → ∀ (ls : Array Slot) (vs : List Value) (H : Heap) (locs : List Loc), q_Fr dC dI dA rv ad Hb H (mL k) S ls vs H locs → q_Un dA ad Hb H0 U ch rv G0 lg S.2.2.2.2 H →
      (∀ r ∈ res, q_Term k (s_stpP pcs) r.1 → r.1.1 ≠ 2 → ∀ (x : List Int) (ls : Array Slot) (vs : List Value) (H Hs : Heap) (locs : List Loc), q_Fr dC dI dA (rv ++ x) ad Hb Hs (mL k) r.1.2.2 ls vs H locs → q_Un dA ad Hb H0 U ch (rv ++ x) G0 r.2 r.1.2.2.2.2.2.2 H → (r.1.1 = 0 → W p l e R s m args below meth c H locs 0 0 Q (F0 m r.1.2.2.1 ls vs))) →
      (∀ r ∈ res, r.1.1 = 0) →
      W p l e R s m args below meth c H locs 0 0 Q (F0 m S.1 ls vs)
  | 0, S, lg, res, rv, h, _, _, _, _, _, _, _, _, _ => by cases h
  | n + 1, S, lg, res, rv, h, hv, ls, vs, H, locs, F, hU, hend, h0 => by
    unfold s_ruL at h
    split at h
    · rename_i cc ss os hr
      obtain ⟨hc, h⟩ := q_bif h
      rw [Bool.and_eq_true] at hc
      have e1 := Nat.eq_of_beq_eq_true hc.1
      have e2 := Nat.eq_of_beq_eq_true hc.2
      subst e1
      subst e2
      have hpc : S = (S.1, S.2.1, S.2.2.1, S.2.2.2.1, S.2.2.2.2) := rfl
      refine q_run C hX hD hD2 4000 S 0 0 os rv hr hv ls vs H locs 0 0 F (Nat.zero_le _) (Nat.zero_le _) (fun o ho ht x ls1 vs1 H1 locs1 cells1 slots1 F1 z1 z2 => ?_)
      -- which of the results it gives
      have key : ∀ (os : List sO) (res : List (sO × sLg)), s_ruO (s_ruL X dp k pcs U ch n) U ch k lg os = some res → o ∈ os → (s_subI ch o.2.2.2.2.2.2 = true ∧ U.all (fun u => !(s_hasI o.2.2.2.2.2.2 u.1)) = true) ∧ ((o.1 = 2 ∧ ∃ nx a x v q st len r2, ins k o.2.2.1 = some (.iastore, nx, a) ∧ o.2.2.2.2.1 = .inl x :: .inl v :: .inr (.inl (some q)) :: st ∧ s_one? U q = some len ∧ s_ix o.2.2.2.2.2.1 (s_num len) v = true ∧ s_ruL X dp k pcs U ch n (nx, o.2.2.2.1, st, o.2.2.2.2.2.1, o.2.2.2.2.2.2) ((q, v, x) :: lg) = some r2 ∧ ∀ y ∈ r2, y ∈ res) ∨ (o.1 ≠ 2 ∧ (o, lg) ∈ res)) := by
        intro os
        induction os with
        | nil => intro _ _ hm; exact nomatch hm
        | cons o1 os ih =>
          intro res hs hm
          unfold s_ruO at hs
          split at hs
          · cases hs
          · rename_i a ha
            split at hs
            · cases hs
            · rename_i b hb
              cases hs
              rcases List.mem_cons.mp hm with rfl | hm
              · obtain ⟨hcc, ha⟩ := q_bif ha
                rw [Bool.and_eq_true] at hcc
                refine ⟨hcc, ?_⟩
                cases hb2 : Nat.beq o.1 2 with
                | false =>
                  rw [hb2] at ha
                  cases ha
                  exact Or.inr ⟨Nat.ne_of_beq_eq_false hb2, List.mem_append_left _ (List.mem_singleton.mpr rfl)⟩
                | true =>
                  rw [hb2] at ha
                  simp only [cond_true] at ha
                  split at ha
                  · rename_i nx aa x v q st hi hst
                    split at ha
                    · cases ha
                    · rename_i len hlen
                      obtain ⟨hix, ha⟩ := q_bif ha
                      exact Or.inl ⟨Nat.eq_of_beq_eq_true hb2, nx, aa, x, v, q, st, len, a, hi, hst, hlen, hix, ha, fun y hy => List.mem_append_left _ hy⟩
                  · cases ha
              · obtain ⟨k0, k1⟩ := ih b hb hm
                refine ⟨k0, ?_⟩
                rcases k1 with ⟨k1, nx, aa, x, v, q, st, len, r2, k2, k3, k4, k5, k6, k7⟩ | ⟨k1, k2⟩
                · exact Or.inl ⟨k1, nx, aa, x, v, q, st, len, r2, k2, k3, k4, k5, k6, fun y hy => List.mem_append_right _ (k7 y hy)⟩
                · exact Or.inr ⟨k1, List.mem_append_right _ k2⟩
      obtain ⟨⟨hsub, hall⟩, hor⟩ := key os res h ho
      have hno : ∀ u ∈ U, s_hasI o.2.2.2.2.2.2 u.1 = false := fun u hu => by
        have := List.all_eq_true.mp hall u hu
        simpa using this
      -- the rows are as they were
      have hU1 : q_Un dA ad Hb H0 U ch (rv ++ x) G0 lg o.2.2.2.2.2.2 H1 := by
        refine ⟨fun u hu => ?_, fun q hq hn => ?_, Nat.le_trans hU.2.2.1 F1.2.2.2.1.2.2.1.1, s_subH hsub, hU.2.2.2.2⟩
        · obtain ⟨a1, a2, g, a3, a4⟩ := hU.1 u hu
          refine ⟨hno u hu, a2, g, a3.mono x, ?_⟩
          rw [F1.2.2.2.1.2.1 _ (q_hget a4) (fun z hz e => s_hasF (hno u hu) z hz ?_)]
          · exact a4
          · obtain ⟨w, w1, w2⟩ := s_hasT (s_subH hsub z hz)
            obtain ⟨w', w1', w2'⟩ := s_hasT a2.1
            rw [← w2, ← w2']
            exact hU.2.2.2.2 w w1 w' w1' (by rw [w2, w2']; exact e)
        · refine (F1.2.2.2.1.2.1 q (by have := hU.2.2.1; omega) (fun z hz e => ?_)).trans (hU.2.1 q hq hn)
          obtain ⟨w, w1, w2⟩ := s_hasT (s_subH hsub z hz)
          exact hn w w1 (by rw [w2]; exact e)
      rcases hor with ⟨o2, nx, aa, xv, v, q, st, len, r2, hi, hst, hlen, hix, hrec, hin⟩ | ⟨o2, hm⟩
      · obtain ⟨e0, ret0, pc, lo, st0, E1, h1⟩ := o
        dsimp only at o2 hi hst hix hrec F1 hU1 z1 z2 ⊢
        subst o2
        subst hst
        have c1 : cells1 = 0 := by have z1 : cells1 + 0 ≤ 0 + 0 := z1; omega
        have s1 : slots1 = 0 := by have z2 : slots1 + 0 ≤ 0 + 0 := z2; omega
        subst c1
        subst s1
        have hmem := s_oneUS hlen
        obtain ⟨hx, hb, hml, hown, hts, hK, hnm, hRf, hRl⟩ := C
        obtain ⟨hlo, hst1, hE, hG, hlc⟩ := F1
        obtain ⟨en, hd⟩ := q_dec (n := 1) hi rfl
        obtain ⟨w, vs', rfl, ⟨y, rfl, hy⟩, w1, vs2, rfl, ⟨xi, rfl, hxx⟩, w2, vs3, rfl, hw2, hst'⟩ := hst1
        obtain ⟨a1, a2, g, a3, a4⟩ := hU1.1 _ hmem
        dsimp only at a1 a2 a3 a4 en
        obtain ⟨i1, i2, i3⟩ := q_idx (n := len) hE (s_numS _) hxx hix
        have ew : w2 = .ref (ad q) := hw2
        subst ew
        refine q_st (ty := .int) hx hb (hK.1.2 0 _ rfl).1 a4 (x := y) i1 hd (Or.inl ⟨rfl, rfl⟩) (fun H2 b1 b2 b3 => ?_)
        have b3 : H2[ad q]? = some (vp_cell (dA .int) (len, .inl (upd g xi.toNatClampNeg y))) := b3
        have injq : ∀ z : Nat, s_hasI ch z = true → ad z = ad q → z = q := fun z hz e => by
          obtain ⟨w, w1, w2⟩ := s_hasT hz
          obtain ⟨w', w1', w2'⟩ := s_hasT a2.1
          rw [← w2, ← w2']
          exact hU1.2.2.2.2 w w1 w' w1' (by rw [w2, w2']; exact e)
        have hne : ∀ z ∈ h1, ad z.1 ≠ ad q := fun z hz e => s_hasF a1 z hz (injq _ (hU1.2.2.2.1 z hz) e)
        have hG2 : q_G dC dI dA (rv ++ x) ad Hb H2 E1 h1 H2 := by
          obtain ⟨g1, g2, g3, g4, g5, g6, g7⟩ := hG
          refine ⟨fun q2 hq2 => (b2 q2 (by have := a2.2; omega)).trans (g1 q2 hq2), fun _ _ _ => rfl, ⟨Nat.le_refl _, by rw [b1]; exact g3.2⟩, by rw [b1]; exact g4, fun z hz => (g5 z hz).kept (b2 _ (hne z hz)), g6, fun hf => (g7 hf).kept fun i ⟨z, y1, y2, y3⟩ => ⟨⟨z, y1, y2, y3⟩, b2 _ (by rw [← y2]; exact hne z y1)⟩⟩
        rw [← en]
        refine q_ruL (G0 := G0) ⟨hx, hb, hml, hown, hts, hK, hnm, hRf, hRl⟩ hX hD hD2 n (nx, lo, st, E1, h1) ((q, v, xv) :: lg) r2 (rv ++ x) hrec (s_val_mono x hv) ls1 vs3 H2 _ ⟨hlo, hst', hE, hG2, fun z hz => ?_⟩ ⟨fun u hu => ?_, fun q2 hq2 hn2 => ?_, by rw [b1]; exact hU1.2.2.1, hU1.2.2.2⟩ (fun r hr ht hr2 x2 ls2 vs2 H3 Hs3 locs3 F3 hU3 => ?_) (fun r hr => h0 r (hin r hr))
        · rcases List.mem_append.mp hz with hz | hz
          · exact hlc z hz
          · rw [List.mem_singleton.mp hz]
            exact a2.2
        · obtain ⟨d1, d2, g', d3, d4⟩ := hU1.1 u hu
          refine ⟨d1, d2, ?_⟩
          by_cases eq : u.1 = q
          · have eg : u.2 = len ∧ ∀ j, j < u.2 → g' j = g j := by
              rw [eq] at d4
              exact q_cellI (Option.some.inj (d4.symm.trans a4))
            refine ⟨upd g' xi.toNatClampNeg y, ⟨g', d3, Or.inl ⟨eq.symm, xi.toNatClampNeg, y, by rw [← i3]; exact hxx, hy, rfl⟩⟩, ?_⟩
            rw [eq, b3, eg.1, vp_cell_i, vp_cell_i]
            congr 1
            unfold arrV
            congr 1
            apply Array.ext
            · simp
            · intro i z1 z2
              simp only [Array.size_ofFn] at z1
              simp only [Array.getElem_ofFn]
              congr 1
              unfold upd
              split
              · rfl
              · exact (eg.2 i (by rw [eg.1]; exact z1)).symm
          · exact ⟨g', ⟨g', d3, Or.inr ⟨fun e => eq e.symm, rfl⟩⟩, (b2 _ (fun e => eq (injq _ d2.1 e))).trans d4⟩
        · obtain ⟨z, z1, z2⟩ := s_hasT a2.1
          refine (b2 q2 (fun e => hn2 z z1 ?_)).trans (hU1.2.1 q2 hq2 hn2)
          rw [z2, e]
        · refine hend r (hin r hr) ht hr2 (x ++ x2) ls2 vs2 H3 Hs3 locs3 ?_ ?_
          · rw [← List.append_assoc]
            exact F3
          · rw [← List.append_assoc]
            exact hU3
      · have hr0 : o.1 = 0 := h0 _ hm
        have c1 : cells1 = 0 := by rw [hr0] at z1; have z1 : cells1 + 0 ≤ 0 + 0 := z1; omega
        have s1 : slots1 = 0 := by rw [hr0] at z2; have z2 : slots1 + 0 ≤ 0 + 0 := z2; omega
        subst c1
        subst s1
        exact hend _ hm ht o2 x ls1 vs1 H1 H locs1 F1 hU1 hr0
    · cases h
end Log
