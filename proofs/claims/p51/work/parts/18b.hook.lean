/-! What is known beside the steps: of open rows; of a number's bits. -/
theorem q_cellI {cA cB : ClassId} {n m : Nat} {f g : Nat → Int32} (h : vp_cell cA (n, .inl f) = vp_cell cB (m, .inl g)) : n = m ∧ ∀ j, j < n → f j = g j := by
  rw [vp_cell_i, vp_cell_i] at h
  have h2 : (arrV cA n fun j => Value.int (f j)).slots = (arrV cB m fun j => Value.int (g j)).slots := congrArg Cell.slots h
  have hn : n = m := by
    have := congrArg Array.size h2
    simpa [arrV] using this
  subst hn
  refine ⟨rfl, fun j hj => ?_⟩
  have h3 := congrArg (fun a : Array Value => a[j]?) h2
  simpa [arrV, hj] using h3
/-- a row that is open -/
noncomputable def s_orow (h : sH) (q : Nat) : Option sR := match s_hget h q with
  | some (.inl a) => bif s_nil a.2.1.1 then none else some a
  | _ => none
noncomputable def s_nz1 (E : sE) (g : sF) : Bool := match s_bnd E g with
  | none => false
  | some i => s_le 1 i.1 || s_le i.2 (-1) || s_isNe g E.2.2.2
noncomputable def s_hk10 (E : sE) (c1 : List (sF × sF)) : List (sF × sF) → Option sE
  | [] => none
  | q :: r => match s_find q.1 c1 with
    | none => s_hk10 E c1 r
    | some w => bif s_nz1 E (s_sub q.2 (s_num 48)) && !(s_gez E (s_sub (s_num 39) w) 0) then some (s_ge E (s_sub (s_num 39) w)) else s_hk10 E c1 r
noncomputable def s_hk89 (E : sE) (c1 : List (sF × sF)) : List (sF × sF) → Option sE
  | [] => none
  | q :: r => match s_find (s_add q.1 (s_num 2)) c1 with
    | none => s_hk89 E c1 r
    | some w => bif s_divs 3 q.1.1 && s_ie (q.1.2 % 3) 0 && (match s_lit E q.2 with
        | none => false
        | some z => s_ie z 103) && !(s_inI E w (0, 3)) then some (s_ge (s_ge E w) (s_sub (s_num 3) w)) else s_hk89 E c1 r
/-- so many bits from a name on -/
noncomputable def s_bits (N : Nat) : Nat → sT
  | 0 => []
  | n + 1 => s_bits N n ++ [(N + n, s_p2 n)]
noncomputable def s_units (N : Nat) : Nat → sT
  | 0 => []
  | n + 1 => s_units N n ++ [(N + n, 1)]
noncomputable def s_exB (E : sE) (n : Nat) : sE := (E.1, E.2.1 ++ List.replicate n (0, 1), E.2.2.1, E.2.2.2)
noncomputable def s_dec (i : Nat) (f : sG) : Option sG := match f with
  | (pc, lo, st, E, h) => match s_lget lo i with
    | some (.inl u) => (match u.1 with
      | [_] => (match s_bnd E u with
        | some (l, b) => bif s_le 0 l && s_le 2 b && s_le b 65535 then
            some (pc, s_lset lo i (.inl (s_bits E.2.1.length (b.toNat.log2 + 1), 0)), st, s_ge1 (s_le 1 l) (s_ge (s_ge (s_exB E (b.toNat.log2 + 1)) (s_sub u (s_bits E.2.1.length (b.toNat.log2 + 1), 0))) (s_sub (s_bits E.2.1.length (b.toNat.log2 + 1), 0) u)) (s_units E.2.1.length (b.toNat.log2 + 1), -1), h) else none
        | none => none)
      | _ => none)
    | _ => none
noncomputable def s_hook (k : Nat) (f : sG) : Option sG :=
  bif Nat.beq k 58 then (match s_orow f.2.2.2.2 10, s_orow f.2.2.2.2 11 with
    | some r0, some r1 => (match s_hk10 f.2.2.2.1 r1.2.2.2.1 r0.2.2.2.1 with
      | none => none
      | some E => bif f.2.2.2.1.1 then none else some (f.1, f.2.1, f.2.2.1, E, f.2.2.2.2))
    | _, _ => none) else
  bif Nat.beq k 240 then (match s_orow f.2.2.2.2 89 with
    | some r0 => (match s_hk89 f.2.2.2.1 r0.2.2.2.1 r0.2.2.2.1 with
      | none => none
      | some E => bif f.2.2.2.1.1 then none else some (f.1, f.2.1, f.2.2.1, E, f.2.2.2.2))
    | _ => none) else
  bif Nat.beq k 90 && Nat.beq f.1 0 then s_dec 2 f else
  bif Nat.beq k 101 && Nat.beq f.1 0 then s_dec 1 f else
  bif Nat.beq k 282 && Nat.beq f.1 8 then s_dec 3 f else none
section Hook
variable {dC : Nat → ClassId} {dI : Nat → Nat → Nat} {dA : FieldType → ClassId} {ad : Nat → Nat} {Hb H0 H : Heap} {rv : List Int} {E : sE} {h : sH}
theorem s_orowS {q : Nat} {ro : sR} (hq : s_orow h q = some ro) : s_hget h q = some (.inl ro) ∧ s_cls (.inl ro) = false := by
  unfold s_orow at hq
  split at hq
  · rename_i a ha
    cases hn : s_nil a.2.1.1 with
    | true => rw [hn] at hq; cases hq
    | false =>
      rw [hn] at hq
      cases hq
      exact ⟨ha, hn⟩
  · cases hq
theorem q_oIs {q : Nat} {ro : sR} (hq : s_orow h q = some ro) : q_isO h q := by
  obtain ⟨h1, h2⟩ := s_orowS hq
  exact ⟨_, s_hgetS h1, rfl, h2⟩
theorem q_oRow {q : Nat} {ro : sR} (hG : q_G dC dI dA rv ad Hb H0 E h H) (hq : s_orow h q = some ro) (hb : Hb.size ≤ ad q) : ∃ (n : Nat) (g : Nat → Int32), H[ad q]? = some (vp_cell (dA ro.1) (n, .inl g)) ∧ q_Ro rv n g ro := by
  obtain ⟨h1, h2⟩ := s_orowS hq
  have hm := s_hgetS h1
  obtain ⟨n, g, g1, g2, -⟩ := hG.2.2.2.2.1 _ hm
  exact ⟨n, g, g1.cl (Or.inr hb), g2⟩
theorem s_nz1S (hE : q_E rv E) {g : sF} {v : Int} (h : s_nz1 E g = true) (hv : s_val rv g = some v) : v ≠ 0 := by
  unfold s_nz1 at h
  split at h
  · cases h
  · rename_i i hi
    have b := s_bndS hE hi hv
    simp only [Bool.or_eq_true] at h
    rcases h with (h | h) | h
    · have := s_le_iff.mp h; omega
    · have := s_le_iff.mp h; omega
    · exact s_isNeS hv hE.2.2.2 h
theorem s_hk10S {n m : Nat} {g0 g1 : Nat → Int32} (hE : q_E rv E) (hp : ∀ j : Nat, j < 40 → (g0 j).toInt = 48 ∨ (g1 j).toInt ≤ 39) (hn : n = 40) {c1 : List (sF × sF)} (h1 : ∀ p ∈ c1, ∃ j, j < m ∧ s_val rv p.1 = some (j : Int) ∧ s_val rv p.2 = some (g1 j).toInt) : ∀ {c0 : List (sF × sF)} {E2 : sE}, (∀ p ∈ c0, ∃ j, j < n ∧ s_val rv p.1 = some (j : Int) ∧ s_val rv p.2 = some (g0 j).toInt) → s_hk10 E c1 c0 = some E2 → q_E rv E2 ∧ E2.1 = E.1
  | [], _, _, h => by cases h
  | q :: r, E2, h0, h => by
    unfold s_hk10 at h
    have hr := fun p (hp : p ∈ r) => h0 p (List.mem_cons_of_mem _ hp)
    split at h
    · exact s_hk10S hE hp hn h1 hr h
    · rename_i w hw
      cases hc : s_nz1 E (s_sub q.2 (s_num 48)) && !(s_gez E (s_sub (s_num 39) w) 0) with
      | false => rw [hc] at h; exact s_hk10S hE hp hn h1 hr h
      | true =>
        rw [hc] at h
        cases h
        rw [Bool.and_eq_true] at hc
        obtain ⟨j, j1, j2, j3⟩ := h0 q List.mem_cons_self
        obtain ⟨i, i1, i2, i3⟩ := h1 _ (s_findS hw)
        have e : i = j := by
          have := Option.some.inj (i2.symm.trans j2)
          omega
        subst e
        have hz := s_nz1S hE hc.1 (s_subS j3 (s_numS 48))
        rcases hp i (by omega) with z | z
        · omega
        · exact s_geS hE (s_subS (s_numS 39) i3) (by omega)
theorem s_hk89S {n : Nat} {g : Nat → Int32} (hE : q_E rv E) (hp : ∀ j : Nat, j < 80 → (g (3 * j)).toInt = 103 → 0 ≤ (g (3 * j + 2)).toInt ∧ (g (3 * j + 2)).toInt ≤ 3) (hn : n = 240) {c1 : List (sF × sF)} (h1 : ∀ p ∈ c1, ∃ j, j < n ∧ s_val rv p.1 = some (j : Int) ∧ s_val rv p.2 = some (g j).toInt) : ∀ {c0 : List (sF × sF)} {E2 : sE}, (∀ p ∈ c0, ∃ j, j < n ∧ s_val rv p.1 = some (j : Int) ∧ s_val rv p.2 = some (g j).toInt) → s_hk89 E c1 c0 = some E2 → q_E rv E2 ∧ E2.1 = E.1
  | [], _, _, h => by cases h
  | q :: r, E2, h0, h => by
    unfold s_hk89 at h
    have hr := fun p (hp : p ∈ r) => h0 p (List.mem_cons_of_mem _ hp)
    split at h
    · exact s_hk89S hE hp hn h1 hr h
    · rename_i w hw
      cases hc : s_divs 3 q.1.1 && s_ie (q.1.2 % 3) 0 && (match s_lit E q.2 with
        | none => false
        | some z => s_ie z 103) && !(s_inI E w (0, 3)) with
      | false => rw [hc] at h; exact s_hk89S hE hp hn h1 hr h
      | true =>
        rw [hc] at h
        cases h
        rw [Bool.and_eq_true, Bool.and_eq_true, Bool.and_eq_true] at hc
        obtain ⟨⟨⟨c1', c2⟩, c3⟩, -⟩ := hc
        obtain ⟨j, j1, j2, j3⟩ := h0 q List.mem_cons_self
        obtain ⟨i, i1, i2, i3⟩ := h1 _ (s_findS hw)
        have e : (i : Int) = j + 2 := Option.some.inj (i2.symm.trans (s_addS j2 (s_numS 2)))
        obtain ⟨u, u1, u2⟩ := s_val_iff.mp j2
        have d1 : u % ((3 : Nat) : Int) = 0 := s_divsS c1' u1
        have d2 := s_ie_iff.mp c2
        obtain ⟨t, rfl⟩ : ∃ t, j = 3 * t := ⟨j / 3, by have : ((3 : Nat) : Int) = 3 := rfl; rw [this] at d1; omega⟩
        have ei : i = 3 * t + 2 := by omega
        subst ei
        split at c3
        · cases c3
        · rename_i z hz
          have e1 := s_litS hE j3 hz
          have e2 := s_ie_iff.mp c3
          obtain ⟨z1, z2⟩ := hp t (by omega) (by omega)
          obtain ⟨k1, k2⟩ := s_geS hE i3 z1
          obtain ⟨k3, k4⟩ := s_geS k1 (s_subS (s_numS 3) i3) (by omega)
          exact ⟨k3, k4.trans k2⟩
theorem s_ev_app {rs : List Int} : ∀ {t u : sT} {v w : Int}, s_ev rs t = some v → s_ev rs u = some w → s_ev rs (t ++ u) = some (v + w)
  | [], u, v, w, h1, h2 => by cases h1; rw [Int.zero_add]; exact h2
  | (k, c) :: t, u, v, w, h1, h2 => by
    obtain ⟨a, b, g1, g2, rfl⟩ := s_ev_cons.mp h1
    exact s_ev_cons.mpr ⟨a, b + w, g1, s_ev_app g2 h2, by omega⟩
theorem s_emod2 {v P : Int} (hP : 1 ≤ P) : v % (P * 2) = v % P + (P * (v / P % 2) + 0) := by
  have h1 := Int.emod_add_mul_ediv v P
  have h2 := Int.emod_add_mul_ediv (v / P) 2
  have h3 := Int.emod_nonneg v (show P ≠ 0 by omega)
  have h4 := Int.emod_lt_of_pos v (show 0 < P by omega)
  have h5 : v = (v % P + P * (v / P % 2)) + P * 2 * (v / P / 2) := by
    have : P * (v / P) = P * (v / P % 2) + P * 2 * (v / P / 2) := by
      rw [Int.mul_assoc, ← Int.mul_add, h2]
    omega
  have h6 : v / P % 2 = 0 ∨ v / P % 2 = 1 := by omega
  have h7 : v % (P * 2) = (v % P + P * (v / P % 2)) % (P * 2) := by
    have h8 := congrArg (fun z => z % (P * 2)) h5
    simp only [Int.add_mul_emod_self_left] at h8
    exact h8
  rw [h7, Int.add_zero]
  refine Int.emod_eq_of_lt ?_ ?_
  · rcases h6 with h6 | h6 <;> rw [h6] <;> omega
  · rcases h6 with h6 | h6 <;> rw [h6] <;> omega
/-- the bits of a number -/
noncomputable def q_bit (v : Int) (n : Nat) : List Int := (List.range n).map (fun j => v / s_p2 j % 2)
theorem s_bitsS {v : Int} {n : Nat} (hN : rv.length = E.2.1.length) : ∀ {m : Nat}, m ≤ n → s_ev (rv ++ q_bit v n) (s_bits E.2.1.length m) = some (v % s_p2 m)
  | 0, _ => by
    show some (0 : Int) = some (v % s_p2 0)
    rw [show s_p2 0 = 1 from rfl, Int.emod_one]
  | m + 1, hm => by
    unfold s_bits
    have h1 := s_bitsS (v := v) (n := n) hN (m := m) (by omega)
    have h2 : s_ev (rv ++ q_bit v n) [(E.2.1.length + m, s_p2 m)] = some (s_p2 m * (v / s_p2 m % 2) + 0) := s_ev_cons.mpr ⟨v / s_p2 m % 2, 0, by
      rw [List.getElem?_append_right (by omega), hN, Nat.add_sub_cancel_left]
      unfold q_bit
      rw [List.getElem?_map, List.getElem?_range (by omega)]
      rfl, rfl, rfl⟩
    rw [s_ev_app h1 h2]
    congr 1
    have e : s_p2 (m + 1) = s_p2 m * 2 := by
      show ((2 ^ (m + 1) : Nat) : Int) = ((2 ^ m : Nat) : Int) * 2
      rw [Nat.pow_succ]
      omega
    rw [e]
    exact (s_emod2 (s_p2P m)).symm
theorem s_unitsS {v : Int} {n : Nat} (hN : rv.length = E.2.1.length) : ∀ {m : Nat}, m ≤ n → ∃ t, s_ev (rv ++ q_bit v n) (s_units E.2.1.length m) = some t ∧ 0 ≤ t ∧ v % s_p2 m ≤ s_p2 m * t
  | 0, _ => ⟨0, rfl, Int.le_refl _, by rw [show s_p2 0 = 1 from rfl, Int.emod_one]; omega⟩
  | m + 1, hm => by
    unfold s_units
    obtain ⟨t, h1, h2, h3⟩ := s_unitsS (v := v) (n := n) hN (m := m) (by omega)
    have h4 : s_ev (rv ++ q_bit v n) [(E.2.1.length + m, 1)] = some (1 * (v / s_p2 m % 2) + 0) := s_ev_cons.mpr ⟨v / s_p2 m % 2, 0, by
      rw [List.getElem?_append_right (by omega), hN, Nat.add_sub_cancel_left]
      unfold q_bit
      rw [List.getElem?_map, List.getElem?_range (by omega)]
      rfl, rfl, rfl⟩
    refine ⟨_, s_ev_app h1 h4, by omega, ?_⟩
    have e : s_p2 (m + 1) = s_p2 m * 2 := by
      show ((2 ^ (m + 1) : Nat) : Int) = ((2 ^ m : Nat) : Int) * 2
      rw [Nat.pow_succ]
      omega
    have hP := s_p2P m
    have hw : v / s_p2 m % 2 = 0 ∨ v / s_p2 m % 2 = 1 := by omega
    have hPt : 0 ≤ s_p2 m * t := Int.mul_nonneg (by omega) h2
    rw [e, s_emod2 hP, show s_p2 m * 2 * (t + (1 * (v / s_p2 m % 2) + 0)) = s_p2 m * t + s_p2 m * t + 2 * (s_p2 m * (v / s_p2 m % 2)) by rw [Int.one_mul, Int.add_zero, Int.mul_assoc, Int.mul_left_comm, Int.mul_add]; omega]
    rcases hw with hw | hw <;> rw [hw] <;> omega
theorem s_decS {i : Nat} {f f2 : sG} {nL : Nat} {ls : Array Slot} {vs : List Value} {locs : List Loc} (hs : s_dec i f = some f2) (F : q_Fr dC dI dA rv ad Hb H0 nL f ls vs H locs) : ∃ x, q_Fr dC dI dA (rv ++ x) ad Hb H0 nL f2 ls vs H locs ∧ f2.1 = f.1 := by
  obtain ⟨pc, lo, st, E, h⟩ := f
  obtain ⟨f1, f2', f3, f4, f5⟩ := F
  dsimp only at f1 f2' f3 f4
  unfold s_dec at hs
  dsimp only at hs
  split at hs
  · rename_i u hu
    split at hs
    · split at hs
      · rename_i l b hb
        generalize hn : b.toNat.log2 + 1 = n at hs
        cases hc : s_le 0 l && s_le 2 b && s_le b 65535 with
        | false => rw [hc] at hs; cases hs
        | true =>
          rw [hc] at hs
          simp only [cond_true] at hs
          cases hs
          simp only [Bool.and_eq_true] at hc
          obtain ⟨w, w1, y, rfl, w2⟩ := f1.get hu
          have hy := s_bndS f3 hb w2
          have hy1 : l ≤ y.toInt := hy.1
          have hy2 : y.toInt ≤ b := hy.2
          have l0 := s_le_iff.mp hc.1.1
          have hbig : y.toInt < s_p2 n := by
            have h1 : b.toNat < 2 ^ n := by rw [← hn]; exact Nat.lt_log2_self
            show y.toInt < ((2 ^ n : Nat) : Int)
            generalize 2 ^ n = P at h1 ⊢
            omega
          have hbits : s_val (rv ++ q_bit y.toInt n) (s_bits E.2.1.length n, 0) = some y.toInt := by
            refine s_val_iff.mpr ⟨_, s_bitsS f3.1 (Nat.le_refl n), ?_⟩
            show y.toInt = y.toInt % s_p2 n + 0
            rw [Int.emod_eq_of_lt (by omega) hbig]
            omega
          have hlen : (q_bit y.toInt n).length = n := by unfold q_bit; rw [List.length_map, List.length_range]
          have hEx : q_E (rv ++ q_bit y.toInt n) (s_exB E n) := by
            refine ⟨by show (rv ++ _).length = (E.2.1 ++ List.replicate n ((0 : Int), (1 : Int))).length; rw [List.length_append, List.length_append, f3.1, hlen, List.length_replicate], fun k i hk => ?_, fun q hq => ?_, fun g hg => ?_⟩
            · have hk : (E.2.1 ++ List.replicate n ((0 : Int), (1 : Int)))[k]? = some i := hk
              by_cases hlt : k < E.2.1.length
              · rw [List.getElem?_append_left hlt] at hk
                obtain ⟨v, v1, v2⟩ := f3.2.1 k i hk
                exact ⟨v, by rw [List.getElem?_append_left (by rw [f3.1]; exact hlt)]; exact v1, v2⟩
              · rw [List.getElem?_append_right (by omega)] at hk
                have hj := (List.getElem?_eq_some_iff.mp hk).1
                rw [List.length_replicate] at hj
                rw [List.getElem?_replicate, if_pos hj] at hk
                cases hk
                refine ⟨y.toInt / s_p2 (k - E.2.1.length) % 2, ?_, ?_, ?_⟩
                · rw [List.getElem?_append_right (by rw [f3.1]; omega), f3.1]
                  unfold q_bit
                  rw [List.getElem?_map, List.getElem?_range hj]
                  rfl
                · show (0 : Int) ≤ _
                  omega
                · show _ ≤ (1 : Int)
                  omega
            · obtain ⟨v, v1, v2⟩ := f3.2.2.1 q hq
              exact ⟨v, s_ev_mono _ v1, v2⟩
            · obtain ⟨v, v1, v2⟩ := f3.2.2.2 g hg
              exact ⟨v, s_val_mono _ v1, v2⟩
          have w3 := s_val_mono (q_bit y.toInt n) w2
          obtain ⟨z1, z2⟩ := s_geS hEx (s_subS w3 hbits) (by omega)
          obtain ⟨z3, z4⟩ := s_geS z1 (s_subS hbits w3) (by omega)
          obtain ⟨tt, t1, t2, t3⟩ := s_unitsS (v := y.toInt) f3.1 (Nat.le_refl n)
          obtain ⟨z5, z6⟩ := s_ge1R (c := s_le 1 l) (d := (s_units E.2.1.length n, -1)) (v := tt + -1) z3 (s_val_iff.mpr ⟨tt, t1, rfl⟩) (fun hl => by
            have hl := s_le_iff.mp hl
            rw [Int.emod_eq_of_lt (by omega) hbig] at t3
            by_cases h0 : tt = 0
            · rw [h0, Int.mul_zero] at t3
              omega
            · omega)
          refine ⟨q_bit y.toInt n, ⟨⟨f1.1, f1.2.1, fun q hq => ?_⟩, f2'.mono _, z5, (f4.mono _).env (z6.trans (z4.trans z2)), f5⟩, rfl⟩
          rcases List.mem_cons.mp hq with rfl | hq
          · exact ⟨.int y, w1, y, rfl, hbits⟩
          · obtain ⟨v, v1, v2⟩ := f1.2.2 q (List.mem_filter.mp hq).1
            exact ⟨v, v1, v2.mono _⟩
      · cases hs
    · cases hs
  · cases hs
theorem q_hook {k : Nat} {f f2 : sG} {nL : Nat} {ls : Array Slot} {vs : List Value} {locs : List Loc} (hs : s_hook k f = some f2) (F : q_Fr dC dI dA rv ad Hb H0 nL f ls vs H locs) : ∃ x, q_Fr dC dI dA (rv ++ x) ad Hb H0 nL f2 ls vs H locs ∧ f2.1 = f.1 := by
  have fin : ∀ {E2 : sE}, f.2.2.2.1.1 = false → (q_E rv E2 ∧ E2.1 = f.2.2.2.1.1) → (f.1, f.2.1, f.2.2.1, E2, f.2.2.2.2) = f2 → ∃ x, q_Fr dC dI dA (rv ++ x) ad Hb H0 nL f2 ls vs H locs ∧ f2.1 = f.1 := by
    intro E2 hf hE e
    subst e
    exact ⟨[], by rw [List.append_nil]; exact ⟨⟨F.1, F.2.1, hE.1, F.2.2.2.1.env hE.2, F.2.2.2.2⟩, rfl⟩⟩
  unfold s_hook at hs
  cases h1 : Nat.beq k 58 with
  | true =>
    rw [h1] at hs
    simp only [cond_true] at hs
    split at hs
    · rename_i r0 r1 hr0 hr1
      split at hs
      · cases hs
      · rename_i E2 hE2
        cases hfl : f.2.2.2.1.1 with
        | true => rw [hfl] at hs; cases hs
        | false =>
          rw [hfl] at hs
          simp only [cond_false] at hs
          obtain ⟨hb9, p0, p1, d0, d1, hp⟩ := (F.2.2.2.1.2.2.2.2.2.2 hfl).1 (q_oIs hr0) (q_oIs hr1)
          obtain ⟨n0, g0, c0, R0⟩ := q_oRow F.2.2.2.1 hr0 hb9.1
          obtain ⟨n1, g1, c1, R1⟩ := q_oRow F.2.2.2.1 hr1 hb9.2
          obtain ⟨e0, w0⟩ := q_cellI (Option.some.inj (c0.symm.trans d0))
          obtain ⟨e1, w1⟩ := q_cellI (Option.some.inj (c1.symm.trans d1))
          subst e0
          subst e1
          exact fin hfl (s_hk10S F.2.2.1 (fun j hj => by rw [w0 j hj, w1 j hj]; exact hp j hj) rfl R1.2.2.2.1 R0.2.2.2.1 hE2) (Option.some.inj hs)
    · cases hs
  | false =>
    rw [h1] at hs
    simp only [cond_false] at hs
    cases h2 : Nat.beq k 240 with
    | true =>
      rw [h2] at hs
      simp only [cond_true] at hs
      split at hs
      · rename_i r0 hr0
        split at hs
        · cases hs
        · rename_i E2 hE2
          cases hfl : f.2.2.2.1.1 with
          | true => rw [hfl] at hs; cases hs
          | false =>
            rw [hfl] at hs
            simp only [cond_false] at hs
            obtain ⟨hb9, p0, d0, hp⟩ := (F.2.2.2.1.2.2.2.2.2.2 hfl).2.2 (q_oIs hr0)
            obtain ⟨n0, g0, c0, R0⟩ := q_oRow F.2.2.2.1 hr0 hb9
            obtain ⟨e0, w0⟩ := q_cellI (Option.some.inj (c0.symm.trans d0))
            subst e0
            exact fin hfl (s_hk89S F.2.2.1 (fun j hj => by rw [w0 _ (by omega), w0 _ (by omega)]; exact hp j hj) rfl R0.2.2.2.1 R0.2.2.2.1 hE2) (Option.some.inj hs)
      · cases hs
    | false =>
      rw [h2] at hs
      simp only [cond_false] at hs
      cases h3 : Nat.beq k 90 && Nat.beq f.1 0 with
      | true => rw [h3] at hs; exact s_decS hs F
      | false =>
        rw [h3] at hs
        simp only [cond_false] at hs
        cases h4 : Nat.beq k 101 && Nat.beq f.1 0 with
        | true => rw [h4] at hs; exact s_decS hs F
        | false =>
          rw [h4] at hs
          simp only [cond_false] at hs
          cases h5 : Nat.beq k 282 && Nat.beq f.1 8 with
          | true => rw [h5] at hs; exact s_decS hs F
          | false => rw [h5] at hs; cases hs
end Hook
