/-! Bodies that write into open rows keep their contracts. -/
noncomputable def s_isU (U : List (Nat × Nat)) (q : Nat) : Bool := match s_one? U q with
  | none => false
  | some _ => true
noncomputable def s_rmU (U : List (Nat × Nat)) (h : sH) : sH := h.filter (fun q => !(s_isU U q.1))
noncomputable def s_kpU (h : sH) : List (Nat × Nat) → sH
  | [] => []
  | u :: r => match s_orow h u.1 with
    | none => s_kpU h r
    | some ro => (u.1, .inl ro) :: s_kpU h r
theorem s_kpUS {h : sH} : ∀ {U : List (Nat × Nat)} {z : Nat × sC}, z ∈ s_kpU h U → ∃ u ∈ U, ∃ ro, s_orow h u.1 = some ro ∧ z = (u.1, .inl ro)
  | [], _, hz => nomatch hz
  | u :: r, z, hz => by
    unfold s_kpU at hz
    split at hz
    · obtain ⟨v, h1, h2⟩ := s_kpUS hz
      exact ⟨v, List.mem_cons_of_mem _ h1, h2⟩
    · rename_i ro hro
      rcases List.mem_cons.mp hz with rfl | hz
      · exact ⟨u, List.mem_cons_self, ro, hro, rfl⟩
      · obtain ⟨v, h1, h2⟩ := s_kpUS hz
        exact ⟨v, List.mem_cons_of_mem _ h1, h2⟩
theorem s_kpUI {h : sH} {ro : sR} : ∀ {U : List (Nat × Nat)} {u : Nat × Nat}, u ∈ U → s_orow h u.1 = some ro → (u.1, .inl ro) ∈ s_kpU h U
  | [], _, hu, _ => nomatch hu
  | v :: r, u, hu, hro => by
    unfold s_kpU
    rcases List.mem_cons.mp hu with rfl | hu
    · rw [hro]
      exact List.mem_cons_self
    · split
      · exact s_kpUI hu hro
      · exact List.mem_cons_of_mem _ (s_kpUI hu hro)
/-- an open row of ints of so many, its fields bounds alone -/
noncomputable def s_uOK (E : sE) (h : sH) (u : Nat × Nat) : Bool := match s_orow h u.1 with
  | none => false
  | some ro => p_is ro.1 0 && (match s_lit E ro.2.1 with
    | none => false
    | some z => s_ie z (u.2 : Int)) && s_nil ro.2.2.2.1 && s_nil ro.2.2.2.2
noncomputable def s_bwr (E : sE) (ro : sR) (v x : sF) : Bool := match s_bnd E v with
  | none => false
  | some i => (s_res ro.2.2.1.length v i).all (fun j => match ro.2.2.1[j]? with
    | some (.inr (b, none)) => s_inI E x b
    | _ => false)
noncomputable def s_lgB (E : sE) (h : sH) : sLg → Bool
  | [] => true
  | e :: r => (match s_orow h e.1 with
    | none => false
    | some ro => s_bwr E ro e.2.1 e.2.2) && s_lgB E h r
noncomputable def s_d3 (f : sF) : Bool := s_divs 3 f.1 && s_ie (f.2 % 3) 0
noncomputable def s_lgA (E : sE) (lg : sLg) : Bool := match lg with
  | [] => true
  | [(q1, v1, _), (q, f, w)] => Nat.beq q 89 && Nat.beq q1 89 && s_d3 f && s_eqF v1 (s_add f (s_num 1)) && s_nz1 E (s_sub w (s_num 103))
  | [(q2, v2, x2), (q1, v1, _), (q, f, w)] => Nat.beq q 89 && Nat.beq q1 89 && Nat.beq q2 89 && s_d3 f && s_eqF v1 (s_add f (s_num 1)) && s_eqF v2 (s_add f (s_num 2)) && (s_nz1 E (s_sub w (s_num 103)) || s_inI E x2 (0, 3))
  | _ => false
noncomputable def s_lgP (E : sE) (lg : sLg) : Bool := match lg with
  | [] => true
  | [(q1, v1, x1), (q, v, x)] => Nat.beq q 14 && Nat.beq q1 15 && s_eqF v v1 && ((match s_lit E x with
      | none => false
      | some z => s_ie z 48) || s_gez E (s_sub (s_num 39) x1) 0)
  | _ => false
/-- which rows: 89 alone, or 14 and 15 -/
noncomputable def s_kind (U : List (Nat × Nat)) : Nat := match U with
  | [(89, 240)] => 1
  | [(14, 40), (15, 40)] => 2
  | _ => 0
noncomputable def s_lgJ (U : List (Nat × Nat)) (E : sE) (lg : sLg) : Bool := match s_kind U with
  | 1 => s_lgA E lg
  | 2 => s_lgP E lg
  | _ => false
noncomputable def s_chkU (tab : Nat → List sK) (k : Nat) (C : sK) (U : List (Nat × Nat)) (pcs : List Nat) (n : Nat) : Bool := match C with
  | (dp, as, E, h, ends) => !E.1 && Nat.blt k 302 && c_plain k && Nat.ble (s_cats as) (mL k) && Nat.blt 0 (s_kind U) && U.all (s_uOK E h) && (match s_ruL (s_X tab 8) dp k pcs U h n (0, s_args 0 as, [], E, s_rmU U h) [] with
    | none => false
    | some res => res.all (fun r => Nat.beq r.1.1 0 && !(r.1.2.2.2.2.2.1.1) && s_lgB r.1.2.2.2.2.2.1 h r.2 && s_lgJ U r.1.2.2.2.2.2.1 r.2 && ends.any (s_okN E.2.1.length r.1.2.1 r.1.2.2.2.2.2.1 (r.1.2.2.2.2.2.2 ++ s_kpU h U)) && s_subI r.1.2.2.2.2.2.2 (s_rmU U h)))
section BodyU
variable {l : Launch} {dC : Nat → ClassId} {dI : Nat → Nat → Nat} {dA : FieldType → ClassId} {Hb : Heap}
theorem s_isUS {U : List (Nat × Nat)} {q : Nat} (h : s_isU U q = true) : ∃ n, (q, n) ∈ U := by
  unfold s_isU at h
  split at h
  · cases h
  · rename_i n hn
    exact ⟨n, s_oneUS hn⟩
theorem s_isUI : ∀ {U : List (Nat × Nat)} {u : Nat × Nat}, u ∈ U → s_isU U u.1 = true
  | [], _, h => nomatch h
  | v :: r, u, h => by
    unfold s_isU s_one?
    cases e : Nat.beq v.1 u.1 with
    | true => rfl
    | false =>
      rcases List.mem_cons.mp h with rfl | h
      · rw [Nat.beq_refl] at e
        cases e
      · exact s_isUI h
/-- what is written keeps the bounds -/
theorem q_apRo {rv : List Int} {E : sE} {h : sH} {q n : Nat} {g0 : Nat → Int32} {ro : sR} (hE : q_E rv E) (hq : s_orow h q = some ro) (hR : q_Ro rv n g0 ro) (c1 : s_nil ro.2.2.2.1 = true) (c2 : s_nil ro.2.2.2.2 = true) : ∀ {lg : sLg} {g : Nat → Int32}, s_lgB E h lg = true → q_ap rv q g0 lg g → q_Ro rv n g ro
  | [], g, _, ha => by
    have e : g = g0 := ha
    subst e
    exact hR
  | e :: r, g, hb, ⟨g1, h1, h2⟩ => by
    simp only [s_lgB, Bool.and_eq_true] at hb
    have ih := q_apRo hE hq hR c1 c2 hb.2 h1
    rcases h2 with ⟨a, j, y, b, c, rfl⟩ | ⟨-, rfl⟩
    · have hb1 := hb.1
      rw [a, hq] at hb1
      simp only at hb1
      unfold s_bwr at hb1
      split at hb1
      · cases hb1
      · rename_i i hi
        have bb := s_bndS hE hi b
        refine ⟨ih.1, ih.2.1, fun j2 hj2 => ?_, ?_, ?_⟩
        · by_cases ej : j2 = j
          · subst ej
            have hm := s_resS ih.2.1 b bb.1 bb.2
            have hx := List.all_eq_true.mp hb1 _ hm
            split at hx
            · rename_i b0 hf
              refine ⟨_, hf, ?_⟩
              have hin := s_inIS hE c hx
              have eu : upd g1 j2 y j2 = y := by unfold upd; simp
              rw [eu]
              exact ⟨hin.1, hin.2, fun f hf => by cases hf⟩
            · cases hx
          · obtain ⟨w, w1, w2⟩ := ih.2.2.1 j2 hj2
            have eu : upd g1 j y j2 = g1 j2 := by unfold upd; simp [ej]
            exact ⟨w, w1, by rw [eu]; exact w2⟩
        · rw [s_nilS c1]
          exact fun p hp => nomatch hp
        · rw [s_nilS c2]
          exact fun p hp => nomatch hp
    · exact ih
theorem q_eqv {rv : List Int} {f g : sF} {v w : Int} (h : s_eqF f g = true) (hf : s_val rv f = some v) (hg : s_val rv g = some w) : v = w := by
  rw [s_eqF_eq h, hg] at hf
  exact (Option.some.inj hf).symm
theorem q_lgA {rv : List Int} {E : sE} {g0 g : Nat → Int32} {lg : sLg} (hE : q_E rv E) (hA : s_lgA E lg = true) (ha : q_ap rv 89 g0 lg g) (hp : ∀ j : Nat, j < 80 → (g0 (3 * j)).toInt = 103 → 0 ≤ (g0 (3 * j + 2)).toInt ∧ (g0 (3 * j + 2)).toInt ≤ 3) : ∀ j : Nat, j < 80 → (g (3 * j)).toInt = 103 → 0 ≤ (g (3 * j + 2)).toInt ∧ (g (3 * j + 2)).toInt ≤ 3 := by
  have d3 : ∀ {f : sF} {j : Nat}, s_d3 f = true → s_val rv f = some (j : Int) → ∃ t, j = 3 * t := by
    intro f j hd hj
    unfold s_d3 at hd
    rw [Bool.and_eq_true] at hd
    obtain ⟨u, u1, u2⟩ := s_val_iff.mp hj
    have d1 : u % ((3 : Nat) : Int) = 0 := s_divsS hd.1 u1
    have d2 := s_ie_iff.mp hd.2
    exact ⟨j / 3, by have : ((3 : Nat) : Int) = 3 := rfl; rw [this] at d1; omega⟩
  unfold s_lgA at hA
  split at hA
  · have e : g = g0 := ha
    subst e
    exact hp
  · rename_i q1 v1 x1 q f w
    rw [Bool.and_eq_true, Bool.and_eq_true, Bool.and_eq_true, Bool.and_eq_true] at hA
    obtain ⟨⟨⟨⟨c1, c2⟩, c3⟩, c4⟩, c5⟩ := hA
    have e1 := Nat.eq_of_beq_eq_true c1
    have e2 := Nat.eq_of_beq_eq_true c2
    obtain ⟨ga, ⟨gb, hb, hw⟩, hw1⟩ := ha
    have hb : gb = g0 := hb
    subst hb
    rcases hw with ⟨-, j, y, b1, b2, rfl⟩ | ⟨b1, -⟩
    · rcases hw1 with ⟨-, j1, y1, b3, b4, rfl⟩ | ⟨b3, -⟩
      · obtain ⟨t, rfl⟩ := d3 c3 b1
        have ej := q_eqv c4 b3 (s_addS b1 (s_numS 1))
        have ej : j1 = 3 * t + 1 := by omega
        subst ej
        have hne := s_nz1S hE c5 (s_subS b2 (s_numS 103))
        intro i hi h103
        unfold upd at h103 ⊢
        rw [if_neg (by omega)] at h103
        rw [if_neg (by omega), if_neg (by omega)]
        by_cases eit : i = t
        · subst eit
          rw [if_pos rfl] at h103
          omega
        · rw [if_neg (by omega)] at h103
          exact hp i hi h103
      · exact absurd e2 b3
    · exact absurd e1 b1
  · rename_i q2 v2 x2 q1 v1 x1 q f w
    rw [Bool.and_eq_true, Bool.and_eq_true, Bool.and_eq_true, Bool.and_eq_true, Bool.and_eq_true, Bool.and_eq_true] at hA
    obtain ⟨⟨⟨⟨⟨⟨c1, c2⟩, c3⟩, c4⟩, c5⟩, c6⟩, c7⟩ := hA
    have e1 := Nat.eq_of_beq_eq_true c1
    have e2 := Nat.eq_of_beq_eq_true c2
    have e3 := Nat.eq_of_beq_eq_true c3
    obtain ⟨gc, ⟨ga, ⟨gb, hb, hw⟩, hw1⟩, hw2⟩ := ha
    have hb : gb = g0 := hb
    subst hb
    rcases hw with ⟨-, j, y, b1, b2, rfl⟩ | ⟨b1, -⟩
    · rcases hw1 with ⟨-, j1, y1, b3, b4, rfl⟩ | ⟨b3, -⟩
      · rcases hw2 with ⟨-, j2, y2, b5, b6, rfl⟩ | ⟨b5, -⟩
        · obtain ⟨t, rfl⟩ := d3 c4 b1
          have ej := q_eqv c5 b3 (s_addS b1 (s_numS 1))
          have ej : j1 = 3 * t + 1 := by omega
          subst ej
          have ej2 := q_eqv c6 b5 (s_addS b1 (s_numS 2))
          have ej2 : j2 = 3 * t + 2 := by omega
          subst ej2
          intro i hi h103
          unfold upd at h103 ⊢
          rw [if_neg (by omega), if_neg (by omega)] at h103
          by_cases eit : i = t
          · subst eit
            rw [if_pos rfl] at h103
            rw [if_pos rfl]
            rw [Bool.or_eq_true] at c7
            rcases c7 with c7 | c7
            · have hne := s_nz1S hE c7 (s_subS b2 (s_numS 103))
              omega
            · exact s_inIS hE b6 c7
          · rw [if_neg (by omega)] at h103
            rw [if_neg (by omega), if_neg (by omega), if_neg (by omega)]
            exact hp i hi h103
        · exact absurd e3 b5
      · exact absurd e2 b3
    · exact absurd e1 b1
  · cases hA
theorem q_lgP {rv : List Int} {E : sE} {g0 g h0 h1 : Nat → Int32} {lg : sLg} (hE : q_E rv E) (hA : s_lgP E lg = true) (ha : q_ap rv 14 g0 lg g) (hb : q_ap rv 15 h0 lg h1) (hp : ∀ j : Nat, j < 40 → (g0 j).toInt = 48 ∨ (h0 j).toInt ≤ 39) : ∀ j : Nat, j < 40 → (g j).toInt = 48 ∨ (h1 j).toInt ≤ 39 := by
  unfold s_lgP at hA
  split at hA
  · have e : g = g0 := ha
    have e' : h1 = h0 := hb
    subst e
    subst e'
    exact hp
  · rename_i q1 v1 x1 q v x
    rw [Bool.and_eq_true, Bool.and_eq_true, Bool.and_eq_true] at hA
    obtain ⟨⟨⟨c1, c2⟩, c3⟩, c4⟩ := hA
    have e1 := Nat.eq_of_beq_eq_true c1
    have e2 := Nat.eq_of_beq_eq_true c2
    obtain ⟨ga, ⟨gb, a1, a2⟩, a3⟩ := ha
    have a1 : gb = g0 := a1
    subst a1
    obtain ⟨ha', ⟨hb', a4, a5⟩, a6⟩ := hb
    have a4 : hb' = h0 := a4
    subst a4
    rcases a2 with ⟨-, j, y, b1, b2, rfl⟩ | ⟨b1, -⟩
    · rcases a3 with ⟨b3, -⟩ | ⟨-, rfl⟩
      · have b3 : q1 = 14 := b3
        omega
      · rcases a5 with ⟨b4, -⟩ | ⟨-, rfl⟩
        · have b4 : q = 15 := b4
          omega
        · rcases a6 with ⟨-, j1, y1, b5, b6, rfl⟩ | ⟨b5, -⟩
          · have ej := q_eqv c3 b1 b5
            have ej : j1 = j := by omega
            subst ej
            intro i hi
            unfold upd
            by_cases ei : i = j1
            · rw [if_pos ei, if_pos ei]
              rw [Bool.or_eq_true] at c4
              rcases c4 with c4 | c4
              · split at c4
                · cases c4
                · rename_i z hz
                  have e3 := s_litS hE b2 hz
                  have e4 := s_ie_iff.mp c4
                  exact Or.inl (by omega)
              · have := s_gezS hE c4 (s_subS (s_numS 39) b6)
                exact Or.inr (by omega)
            · rw [if_neg ei, if_neg ei]
              exact hp i hi
          · exact absurd e2 b5
    · exact absurd e1 b1
  · cases hA
end BodyU
