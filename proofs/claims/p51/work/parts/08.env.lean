/-! What is assumed behind a test; new names. -/
noncomputable def s_nar (U c : Int) (i0 i : pI) : pI := bif s_le 1 c then (s_max i.1 (i0.2 - U / c), i.2) else bif s_le c (-1) then (i.1, s_min i.2 (i0.1 + U / (-c))) else i
noncomputable def s_as (B0 : List pI) (U : Int) : sT → List pI → List pI
  | [], B => B
  | (k, c) :: t, B => match B0[k]?, B[k]? with
    | some i0, some i => s_as B0 U t (B.set k (s_nar U c i0 i))
    | _, _ => s_as B0 U t B
noncomputable def s_many (t : sT) : Bool := match t with
  | [] => false
  | [_] => false
  | _ => true
/-- d is at least 0 -/
noncomputable def s_ge (E : sE) (d : sF) : sE := bif s_gez E d 0 then E else match s_bL E.2.1 d.1 with
  | none => E
  | some (_, U) => (E.1, s_as E.2.1 (U + d.2) d.1 E.2.1, (bif s_many d.1 then (d.1, -d.2) :: E.2.2.1 else E.2.2.1), E.2.2.2)
theorem s_slack {rs : List Int} {B : List pI} (hB : ∀ (k : Nat) (i : pI), B[k]? = some i → ∃ v, rs[k]? = some v ∧ i.1 ≤ v ∧ v ≤ i.2) : ∀ {t : sT} {i : pI} {a : Int}, s_bL B t = some i → s_ev rs t = some a → ∀ q ∈ t, ∀ (j : pI) (v : Int), B[q.1]? = some j → rs[q.1]? = some v → (0 ≤ q.2 → q.2 * (j.2 - v) ≤ i.2 - a) ∧ (q.2 ≤ 0 → (-q.2) * (v - j.1) ≤ i.2 - a)
  | [], i, a, h1, h2, q, hq, _, _, _, _ => nomatch hq
  | (k, c) :: t, i, a, h1, h2, q, hq, j, v, hj, hv => by
    have hu := s_bLS hB h1 h2
    obtain ⟨b, u, g1, g2, rfl⟩ := s_ev_cons.mp h2
    unfold s_bL at h1
    split at h1
    · cases h1
    · rename_i l h hk
      split at h1
      · cases h1
      · rename_i x y hxy
        have g3 := s_bLS hB hxy g2
        have g32 : u ≤ y := g3.2
        obtain ⟨b', e1, e2, e3⟩ := hB k _ hk
        have eb : b' = b := by rw [g1] at e1; exact (Option.some.inj e1).symm
        subst eb
        have e2 : l ≤ b' := e2
        have e3 : b' ≤ h := e3
        have hi : i.2 = (bif s_le 0 c then c * h + y else c * l + y) := by
          cases hc : s_le 0 c with
          | true => rw [hc] at h1; cases h1; rfl
          | false => rw [hc] at h1; cases h1; rfl
        have hm1 : 0 ≤ c → c * b' ≤ c * h := fun hc => Int.mul_le_mul_of_nonneg_left e3 hc
        have hm2 : c ≤ 0 → c * b' ≤ c * l := fun hc => Int.mul_le_mul_of_nonpos_left hc e2
        rcases List.mem_cons.mp hq with rfl | hq
        · have ej : j = (l, h) := by
            have hj : B[k]? = some j := hj
            rw [hk] at hj
            exact (Option.some.inj hj).symm
          have ev : v = b' := by
            have hv : rs[k]? = some v := hv
            rw [g1] at hv
            exact (Option.some.inj hv).symm
          subst ej
          subst ev
          constructor
          · intro hc
            have hc : 0 ≤ c := hc
            rw [s_le_iff.mpr hc] at hi
            simp only [cond_true] at hi
            show c * (h - v) ≤ _
            rw [Int.mul_sub]
            omega
          · intro hc
            have hc : c ≤ 0 := hc
            show -c * (v - l) ≤ _
            rw [Int.neg_mul, Int.mul_sub]
            cases h0 : s_le 0 c with
            | true =>
              have := s_le_iff.mp h0
              have e0 : c = 0 := by omega
              subst e0
              rw [h0] at hi
              simp only [cond_true] at hi
              simp only [Int.zero_mul] at hi ⊢
              omega
            | false =>
              rw [h0] at hi
              simp only [cond_false] at hi
              omega
        · obtain ⟨k1, k2⟩ := s_slack hB hxy g2 q hq j v hj hv
          have hy : y - u ≤ i.2 - (c * b' + u) := by
            cases h0 : s_le 0 c with
            | true =>
              rw [h0] at hi
              simp only [cond_true] at hi
              have := hm1 (s_le_iff.mp h0)
              omega
            | false =>
              rw [h0] at hi
              simp only [cond_false] at hi
              have := hm2 (by have := s_le_not.mp h0; omega)
              omega
          exact ⟨fun hc => Int.le_trans (k1 hc) hy, fun hc => Int.le_trans (k2 hc) hy⟩
theorem s_narS {U c v : Int} {i0 i : pI} (h1 : i.1 ≤ v) (h2 : v ≤ i.2) (k1 : 0 ≤ c → c * (i0.2 - v) ≤ U) (k2 : c ≤ 0 → (-c) * (v - i0.1) ≤ U) : (s_nar U c i0 i).1 ≤ v ∧ v ≤ (s_nar U c i0 i).2 := by
  unfold s_nar
  cases hc : s_le 1 c with
  | true =>
    have hc := s_le_iff.mp hc
    refine ⟨s_max_le h1 ?_, h2⟩
    have := Int.le_ediv_of_mul_le (a := i0.2 - v) (b := U) (c := c) (by omega) (by rw [Int.mul_comm]; exact k1 (by omega))
    omega
  | false =>
    cases hd : s_le c (-1) with
    | true =>
      have hd := s_le_iff.mp hd
      refine ⟨h1, s_le_min h2 ?_⟩
      have := Int.le_ediv_of_mul_le (a := v - i0.1) (b := U) (c := -c) (by omega) (by rw [Int.mul_comm]; exact k2 (by omega))
      omega
    | false => exact ⟨h1, h2⟩
theorem s_asS {rs : List Int} {B0 : List pI} {U : Int} : ∀ {t : sT} {B : List pI}, (∀ q ∈ t, ∀ (j : pI) (v : Int), B0[q.1]? = some j → rs[q.1]? = some v → (0 ≤ q.2 → q.2 * (j.2 - v) ≤ U) ∧ (q.2 ≤ 0 → (-q.2) * (v - j.1) ≤ U)) → rs.length = B.length → (∀ (k : Nat) (i : pI), B[k]? = some i → ∃ v, rs[k]? = some v ∧ i.1 ≤ v ∧ v ≤ i.2) → rs.length = (s_as B0 U t B).length ∧ ∀ (k : Nat) (i : pI), (s_as B0 U t B)[k]? = some i → ∃ v, rs[k]? = some v ∧ i.1 ≤ v ∧ v ≤ i.2
  | [], B, _, h2, h3 => ⟨h2, h3⟩
  | (k, c) :: t, B, h1, h2, h3 => by
    unfold s_as
    split
    · rename_i i0 i hi0 hi
      refine s_asS (fun q hq => h1 q (List.mem_cons_of_mem _ hq)) (by rw [List.length_set]; exact h2) (fun k2 i2 hk2 => ?_)
      by_cases e : k = k2
      · subst e
        rw [List.getElem?_set_self (List.getElem?_eq_some_iff.mp hi).1] at hk2
        cases hk2
        obtain ⟨v, g1, g2, g3⟩ := h3 k i hi
        obtain ⟨m1, m2⟩ := h1 (k, c) List.mem_cons_self i0 v hi0 g1
        exact ⟨v, g1, s_narS g2 g3 m1 m2⟩
      · rw [List.getElem?_set_ne e] at hk2
        exact h3 k2 i2 hk2
    · exact s_asS (fun q hq => h1 q (List.mem_cons_of_mem _ hq)) h2 h3
section Env
variable {rs : List Int} {E : sE}
theorem s_geS {d : sF} {v : Int} (hE : q_E rs E) (hd : s_val rs d = some v) (h0 : 0 ≤ v) : q_E rs (s_ge E d) ∧ (s_ge E d).1 = E.1 := by
  unfold s_ge
  cases s_gez E d 0 with
  | true => exact ⟨hE, rfl⟩
  | false =>
  simp only [cond_false]
  split
  · exact ⟨hE, rfl⟩
  · rename_i l U hb
    obtain ⟨a, g1, g2⟩ := s_val_iff.mp hd
    have hs := s_slack hE.2.1 hb g1
    obtain ⟨z1, z2⟩ := s_asS (rs := rs) (U := U + d.2) (t := d.1) (B0 := E.2.1) (B := E.2.1) (fun q hq j w hj hw => by
      obtain ⟨m1, m2⟩ := hs q hq j w hj hw
      refine ⟨fun hc => Int.le_trans (m1 hc) ?_, fun hc => Int.le_trans (m2 hc) ?_⟩
      · show U - a ≤ U + d.2; omega
      · show U - a ≤ U + d.2; omega) hE.1 hE.2.1
    refine ⟨⟨z1, z2, ?_, hE.2.2.2⟩, rfl⟩
    intro q hq
    cases hm : s_many d.1 with
    | true =>
      have hq : q ∈ (bif s_many d.1 then (d.1, -d.2) :: E.2.2.1 else E.2.2.1) := hq
      rw [hm] at hq
      rcases List.mem_cons.mp hq with rfl | hq
      · exact ⟨a, g1, by show -d.2 ≤ a; omega⟩
      · exact hE.2.2.1 q hq
    | false =>
      have hq : q ∈ (bif s_many d.1 then (d.1, -d.2) :: E.2.2.1 else E.2.2.1) := hq
      rw [hm] at hq
      exact hE.2.2.1 q hq
noncomputable def s_ne (E : sE) (d : sF) : sE := (E.1, E.2.1, E.2.2.1, d :: E.2.2.2)
theorem s_neS {d : sF} {v : Int} (hE : q_E rs E) (hd : s_val rs d = some v) (h0 : v ≠ 0) : q_E rs (s_ne E d) := ⟨hE.1, hE.2.1, hE.2.2.1, fun f hf => by
  rcases List.mem_cons.mp hf with rfl | hf
  · exact ⟨v, hd, h0⟩
  · exact hE.2.2.2 f hf⟩
noncomputable def s_isNe (d : sF) : List sF → Bool
  | [] => false
  | f :: r => s_eqF f d || s_eqF f (s_mul (-1) d) || s_isNe d r
theorem s_isNeS {d : sF} {v : Int} (hd : s_val rs d = some v) : ∀ {l : List sF}, (∀ f ∈ l, ∃ v, s_val rs f = some v ∧ v ≠ 0) → s_isNe d l = true → v ≠ 0
  | [], _, h => by cases h
  | f :: r, hl, h => by
    simp only [s_isNe, Bool.or_eq_true] at h
    obtain ⟨w, h1, h2⟩ := hl f List.mem_cons_self
    rcases h with (h | h) | h
    · rw [s_eqF_eq h, hd] at h1
      cases h1
      exact h2
    · rw [s_eqF_eq h, s_mulS (c := -1) hd] at h1
      cases h1
      omega
    · exact s_isNeS hd (fun x hx => hl x (List.mem_cons_of_mem _ hx)) h
/-- no name of t has lost all its room -/
noncomputable def s_ok (E : sE) : sT → Bool
  | [] => true
  | q :: r => (match E.2.1[q.1]? with
    | none => true
    | some i => s_le i.1 i.2) && s_ok E r
theorem s_okS (hE : q_E rs E) : ∀ t : sT, s_ok E t = true
  | [] => rfl
  | q :: r => by
    unfold s_ok
    rw [s_okS hE r, Bool.and_true]
    cases h : E.2.1[q.1]? with
    | none => rfl
    | some i =>
      obtain ⟨v, h1, h2, h3⟩ := hE.2.1 _ _ h
      exact s_le_iff.mpr (by omega)
noncomputable def s_two (t : sT) (a b : sE) : List (Bool × sE) := bif s_ok a t then (bif s_ok b t then [(true, a), (false, b)] else [(true, a)]) else bif s_ok b t then [(false, b)] else []
theorem s_twoT {t : sT} {a b : sE} (h : q_E rs a) : (true, a) ∈ s_two t a b := by
  unfold s_two
  rw [s_okS h t]
  cases s_ok b t <;> exact List.mem_cons_self
theorem s_twoF {t : sT} {a b : sE} (h : q_E rs b) : (false, b) ∈ s_two t a b := by
  unfold s_two
  rw [s_okS h t]
  cases s_ok a t
  · exact List.mem_cons_self
  · exact List.mem_cons_of_mem _ List.mem_cons_self
/-- less: the ways that it may come out, with what is known then -/
noncomputable def s_lt (E : sE) (a b : sF) : Option (List (Bool × sE)) := match s_bnd E (s_sub a b) with
  | none => none
  | some (l, h) => bif s_le h (-1) then some [(true, E)] else bif s_le 0 l then some [(false, E)] else
    some (s_two (s_sub a b).1 (s_ge E (s_sub (s_sub b a) (s_num 1))) (s_ge E (s_sub a b)))
noncomputable def s_eq (E : sE) (a b : sF) : Option (List (Bool × sE)) := match s_bnd E (s_sub a b) with
  | none => none
  | some (l, h) => bif s_le h (-1) || s_le 1 l || s_isNe (s_sub a b) E.2.2.2 then some [(false, E)] else bif s_le 0 l && s_le h 0 then some [(true, E)] else
    some (s_two (s_sub a b).1 (s_ge (s_ge E (s_sub a b)) (s_sub b a)) (bif s_le 0 l then s_ge E (s_sub (s_sub a b) (s_num 1)) else bif s_le h 0 then s_ge E (s_sub (s_sub b a) (s_num 1)) else s_ne E (s_sub a b)))
theorem s_ltS {a b : sF} {x y : Int} {l : List (Bool × sE)} (hE : q_E rs E) (ha : s_val rs a = some x) (hb : s_val rs b = some y) (h : s_lt E a b = some l) : ∃ q ∈ l, (q.1 = true ↔ x < y) ∧ q_E rs q.2 ∧ q.2.1 = E.1 := by
  have hd := s_subS ha hb
  have hd2 := s_subS (s_subS hb ha) (s_numS 1)
  unfold s_lt at h
  split at h
  · cases h
  · rename_i lo hi hbn
    have g := s_bndS hE hbn hd
    have g1 : lo ≤ x - y := g.1
    have g2 : x - y ≤ hi := g.2
    cases h1 : s_le hi (-1) with
    | true =>
      rw [h1] at h
      cases h
      have := s_le_iff.mp h1
      exact ⟨_, List.mem_singleton.mpr rfl, ⟨fun _ => by omega, fun _ => rfl⟩, hE, rfl⟩
    | false =>
      rw [h1] at h
      cases h2 : s_le 0 lo with
      | true =>
        rw [h2] at h
        cases h
        have := s_le_iff.mp h2
        exact ⟨_, List.mem_singleton.mpr rfl, ⟨fun h => (by cases h), fun h => by omega⟩, hE, rfl⟩
      | false =>
        rw [h2] at h
        cases h
        by_cases hxy : x < y
        · obtain ⟨z1, z2⟩ := s_geS hE hd2 (by omega)
          exact ⟨_, s_twoT z1, ⟨fun _ => hxy, fun _ => rfl⟩, z1, z2⟩
        · obtain ⟨z1, z2⟩ := s_geS hE hd (by omega)
          exact ⟨_, s_twoF z1, ⟨fun h => (by cases h), fun h => absurd h hxy⟩, z1, z2⟩
theorem s_eqS {a b : sF} {x y : Int} {l : List (Bool × sE)} (hE : q_E rs E) (ha : s_val rs a = some x) (hb : s_val rs b = some y) (h : s_eq E a b = some l) : ∃ q ∈ l, (q.1 = true ↔ x = y) ∧ q_E rs q.2 ∧ q.2.1 = E.1 := by
  have hd := s_subS ha hb
  have hd' := s_subS hb ha
  unfold s_eq at h
  split at h
  · cases h
  · rename_i lo hi hbn
    have g := s_bndS hE hbn hd
    have g1 : lo ≤ x - y := g.1
    have g2 : x - y ≤ hi := g.2
    cases h1 : s_le hi (-1) || s_le 1 lo || s_isNe (s_sub a b) E.2.2.2 with
    | true =>
      rw [h1] at h
      cases h
      have hne : x ≠ y := by
        simp only [Bool.or_eq_true] at h1
        rcases h1 with (h1 | h1) | h1
        · have := s_le_iff.mp h1; omega
        · have := s_le_iff.mp h1; omega
        · have := s_isNeS hd hE.2.2.2 h1; omega
      exact ⟨_, List.mem_singleton.mpr rfl, ⟨fun h => (by cases h), fun h => absurd h hne⟩, hE, rfl⟩
    | false =>
      rw [h1] at h
      cases h2 : s_le 0 lo && s_le hi 0 with
      | true =>
        rw [h2] at h
        cases h
        simp only [Bool.and_eq_true] at h2
        have i1 := s_le_iff.mp h2.1
        have i2 := s_le_iff.mp h2.2
        exact ⟨_, List.mem_singleton.mpr rfl, ⟨fun _ => by omega, fun _ => rfl⟩, hE, rfl⟩
      | false =>
        rw [h2] at h
        cases h
        by_cases hxy : x = y
        · obtain ⟨z1, z2⟩ := s_geS hE hd (by omega)
          obtain ⟨z3, z4⟩ := s_geS z1 hd' (by omega)
          exact ⟨_, s_twoT z3, ⟨fun _ => hxy, fun _ => rfl⟩, z3, by rw [z4, z2]⟩
        · have key : q_E rs (bif s_le 0 lo then s_ge E (s_sub (s_sub a b) (s_num 1)) else bif s_le hi 0 then s_ge E (s_sub (s_sub b a) (s_num 1)) else s_ne E (s_sub a b)) ∧ (bif s_le 0 lo then s_ge E (s_sub (s_sub a b) (s_num 1)) else bif s_le hi 0 then s_ge E (s_sub (s_sub b a) (s_num 1)) else s_ne E (s_sub a b)).1 = E.1 := by
            cases h3 : s_le 0 lo with
            | true =>
              have := s_le_iff.mp h3
              exact s_geS hE (s_subS hd (s_numS 1)) (by omega)
            | false =>
              cases h4 : s_le hi 0 with
              | true =>
                have := s_le_iff.mp h4
                exact s_geS hE (s_subS hd' (s_numS 1)) (by omega)
              | false => exact ⟨s_neS hE hd (by omega), rfl⟩
          exact ⟨_, s_twoF key.1, ⟨fun h => (by cases h), fun h => absurd h hxy⟩, key.1, key.2⟩
/-- a new name between bounds -/
noncomputable def s_new (E : sE) (i : pI) : sE × sF := ((E.1, E.2.1 ++ [i], E.2.2.1, E.2.2.2), s_nm E.2.1.length)
theorem s_newS {i : pI} {v : Int} (hE : q_E rs E) (h1 : i.1 ≤ v) (h2 : v ≤ i.2) : q_E (rs ++ [v]) (s_new E i).1 ∧ s_val (rs ++ [v]) (s_new E i).2 = some v ∧ (s_new E i).1.1 = E.1 := by
  have hl : rs.length = E.2.1.length := hE.1
  refine ⟨⟨?_, fun k j hk => ?_, fun q hq => ?_, fun f hf => ?_⟩, ?_, rfl⟩
  · show (rs ++ [v]).length = (E.2.1 ++ [i]).length
    rw [List.length_append, List.length_append, hl]
    rfl
  · have hk : (E.2.1 ++ [i])[k]? = some j := hk
    by_cases hlt : k < E.2.1.length
    · rw [List.getElem?_append_left hlt] at hk
      obtain ⟨w, g1, g2⟩ := hE.2.1 k j hk
      exact ⟨w, by rw [List.getElem?_append_left (by omega)]; exact g1, g2⟩
    · have hlt2 := (List.getElem?_eq_some_iff.mp hk).1
      rw [List.length_append, List.length_singleton] at hlt2
      have e : k = E.2.1.length := by omega
      subst e
      rw [List.getElem?_append_right (Nat.le_refl _), Nat.sub_self] at hk
      cases hk
      exact ⟨v, by rw [List.getElem?_append_right (by omega), ← hl, Nat.sub_self]; rfl, h1, h2⟩
  · obtain ⟨w, g1, g2⟩ := hE.2.2.1 q hq
    exact ⟨w, s_ev_mono _ g1, g2⟩
  · obtain ⟨w, g1, g2⟩ := hE.2.2.2 f hf
    exact ⟨w, s_val_mono _ g1, g2⟩
  · refine s_nmS ?_
    rw [List.getElem?_append_right (by omega), ← hl, Nat.sub_self]
    rfl
end Env
