/-! The arithmetic: a form where nothing wraps, else a new name between bounds. -/
noncomputable abbrev sX : Type := sE × sF
noncomputable def s_any : pI := (-2147483648, 2147483647)
noncomputable def s_in32 (i : pI) : Bool := s_le (-2147483648) i.1 && s_le i.2 2147483647
/-- the form if nothing wraps, else some int -/
noncomputable def s_fit (E : sE) (f : sF) : sX := match s_bnd E f with
  | none => s_new E s_any
  | some i => bif s_in32 i then (E, f) else s_new E s_any
noncomputable def q_R (rs : List Int) (E : sE) (X : sX) (x : Int32) : Prop := ∃ e, q_E (rs ++ e) X.1 ∧ s_val (rs ++ e) X.2 = some x.toInt ∧ X.1.1 = E.1
theorem q_low (x : Int32) : -2147483648 ≤ x.toInt := x.le_toInt
theorem q_high (x : Int32) : x.toInt ≤ 2147483647 := by have := x.toInt_lt; omega
theorem s_wrap {z : Int} (h1 : -2147483648 ≤ z) (h2 : z ≤ 2147483647) : Int.bmod z 4294967296 = z := by
  rw [Int.bmod_def]
  split <;> omega
noncomputable def s_lit (E : sE) (f : sF) : Option Int := match s_bnd E f with
  | none => none
  | some (l, h) => bif s_ie l h then some l else none
noncomputable def s_nn (i : pI) : Bool := s_le 0 i.1
noncomputable def s_sadd (E : sE) (a b : sF) : sX := s_fit E (s_add a b)
noncomputable def s_ssub (E : sE) (a b : sF) : sX := s_fit E (s_sub a b)
noncomputable def s_sneg (E : sE) (a : sF) : sX := s_fit E (s_mul (-1) a)
noncomputable def s_smul (E : sE) (a b : sF) : sX := match s_lit E a with
  | some c => s_fit E (s_mul c b)
  | none => match s_lit E b with
    | some c => s_fit E (s_mul c a)
    | none => match s_bnd E a, s_bnd E b with
      | some i, some j => bif s_nn i && s_nn j && s_le (i.2 * j.2) 2147483647 then s_new E (i.1 * j.1, i.2 * j.2) else s_new E s_any
      | _, _ => s_new E s_any
noncomputable def s_sdiv (E : sE) (a b : sF) : Option sX := match s_bnd E a, s_bnd E b with
  | some i, some j => bif s_le 1 j.1 then (bif s_nn i then some (s_new E (0, i.2 / j.1)) else some (s_new E (s_min i.1 0, s_max i.2 0)))
    else bif s_le j.2 (-1) || s_isNe b E.2.2.2 then some (s_new E s_any) else none
  | _, _ => none
noncomputable def s_srem (E : sE) (a b : sF) : Option sX := match s_bnd E a, s_bnd E b with
  | some i, some j => bif s_le 1 j.1 then (bif s_nn i then some (s_new E (0, s_min i.2 (j.2 - 1))) else some (s_new E (1 - j.2, j.2 - 1)))
    else bif s_le j.2 (-1) || s_isNe b E.2.2.2 then some (s_new E s_any) else none
  | _, _ => none
/-- both known -/
noncomputable def s_lit2 (op : Int32 → Int32 → Int32) (E : sE) (a b : sF) (d : sX) : sX := match s_lit E a with
  | none => d
  | some x => match s_lit E b with
    | none => d
    | some y => (E, s_num (op (Int32.ofInt x) (Int32.ofInt y)).toInt)
noncomputable def s_andK (E : sE) (a b : sF) (i j : pI) : pI := bif s_le 1 i.1 && s_eqF b (s_mul (-1) a) then (1, i.2) else bif s_nn i then (bif s_nn j then (0, s_min i.2 j.2) else (0, i.2)) else bif s_nn j then (0, j.2) else s_any
/-- what is known of a form beside its name -/
noncomputable def s_ge1 (c : Bool) (E : sE) (d : sF) : sE := bif c then s_ge E d else E
noncomputable def s_sand (E : sE) (a b : sF) : sX := s_lit2 (fun x y => x &&& y) E a b (match s_bnd E a, s_bnd E b with
  | some i, some j => match s_new E (s_andK E a b i j) with
    | (E1, r) => bif s_ie i.1 i.2 || s_ie j.1 j.2 then (E1, r) else (s_ge1 (s_nn j) (s_ge1 (s_nn i) E1 (s_sub a r)) (s_sub b r), r)
  | _, _ => s_new E s_any)
noncomputable def s_ones (z : Int) : Int := 2 ^ (z.toNat.log2 + 1) - 1
noncomputable def s_sor (E : sE) (a b : sF) : sX := s_lit2 (fun x y => x ||| y) E a b (match s_bnd E a, s_bnd E b with
  | some i, some j => bif s_nn i && s_nn j then (match s_new E (s_max i.1 j.1, s_ones (s_max i.2 j.2)) with
    | (E1, r) => bif s_ie i.1 i.2 || s_ie j.1 j.2 then (E1, r) else (s_ge (s_ge E1 (s_sub r a)) (s_sub r b), r)) else s_new E s_any
  | _, _ => s_new E s_any)
noncomputable def s_sxor (E : sE) (a b : sF) : sX := s_lit2 (fun x y => x ^^^ y) E a b (match s_bnd E a, s_bnd E b with
  | some i, some j => bif s_nn i && s_nn j then s_new E (0, s_ones (s_max i.2 j.2)) else s_new E s_any
  | _, _ => s_new E s_any)
noncomputable def s_sh (j : pI) : Bool := s_le 0 j.1 && s_le j.2 31
noncomputable def s_sshl (E : sE) (a b : sF) : sX := s_lit2 (fun x y => x <<< (y &&& 31)) E a b (match s_bnd E a, s_bnd E b with
  | some i, some j => bif s_nn i && s_sh j && s_le (i.2 * 2 ^ j.2.toNat) 2147483647 then s_new E (i.1 * 2 ^ j.1.toNat, i.2 * 2 ^ j.2.toNat) else s_new E s_any
  | _, _ => s_new E s_any)
noncomputable def s_sshr (E : sE) (a b : sF) : sX := s_lit2 (fun x y => x >>> (y &&& 31)) E a b (match s_bnd E a, s_bnd E b with
  | some i, some j => bif s_sh j then (bif s_nn i then s_new E (i.1 / 2 ^ j.2.toNat, i.2 / 2 ^ j.1.toNat) else s_new E (i.1, s_max i.2 0)) else s_new E s_any
  | _, _ => s_new E s_any)
noncomputable def s_ushr (E : sE) (a b : sF) : sX := s_lit2 (fun x y => (x.toUInt32 >>> (y.toUInt32 &&& Int32.toUInt32 31)).toInt32) E a b (match s_bnd E a, s_lit E b with
  | some i, some z => bif s_le 1 z && s_le z 31 then (bif s_nn i then s_new E (i.1 / 2 ^ z.toNat, i.2 / 2 ^ z.toNat) else s_new E (0, 2 ^ (32 - z.toNat) - 1)) else s_new E s_any
  | _, _ => s_new E s_any)
noncomputable def s_conv (l h : Int) (E : sE) (a : sF) : sX := match s_bnd E a with
  | some i => bif s_le l i.1 && s_le i.2 h then (E, a) else s_new E (l, h)
  | none => s_new E (l, h)
section Arith
variable {rs : List Int} {E : sE} {a b : sF} {x y : Int32}
theorem s_newR {i : pI} (hE : q_E rs E) (h1 : i.1 ≤ x.toInt) (h2 : x.toInt ≤ i.2) : q_R rs E (s_new E i) x := by
  obtain ⟨g1, g2, g3⟩ := s_newS hE h1 h2
  exact ⟨[x.toInt], g1, g2, g3⟩
theorem s_anyR (hE : q_E rs E) : q_R rs E (s_new E s_any) x := s_newR hE (q_low x) (q_high x)
theorem s_same (hE : q_E rs E) (h : s_val rs a = some x.toInt) : q_R rs E (E, a) x := ⟨[], by rw [List.append_nil]; exact hE, by rw [List.append_nil]; exact h, rfl⟩
theorem s_fitR {f : sF} {z : Int} (hE : q_E rs E) (hf : s_val rs f = some z) (hx : x.toInt = Int.bmod z 4294967296) : q_R rs E (s_fit E f) x := by
  unfold s_fit
  split
  · exact s_anyR hE
  · rename_i i hb
    obtain ⟨g1, g2⟩ := s_bndS hE hb hf
    cases h : s_in32 i with
    | true =>
      simp only [s_in32, Bool.and_eq_true] at h
      have k1 := s_le_iff.mp h.1
      have k2 := s_le_iff.mp h.2
      rw [s_wrap (by omega) (by omega)] at hx
      exact s_same hE (by rw [hx]; exact hf)
    | false => exact s_anyR hE
theorem s_litS {f : sF} {v z : Int} (hE : q_E rs E) (hf : s_val rs f = some v) (h : s_lit E f = some z) : v = z := by
  unfold s_lit at h
  split at h
  · cases h
  · rename_i l u hb
    obtain ⟨g1, g2⟩ := s_bndS hE hb hf
    have g1 : l ≤ v := g1
    have g2 : v ≤ u := g2
    cases h2 : s_ie l u with
    | true =>
      rw [h2] at h
      have e := s_ie_iff.mp h2
      cases h
      omega
    | false => rw [h2] at h; cases h
theorem s_saddR (hE : q_E rs E) (ha : s_val rs a = some x.toInt) (hb : s_val rs b = some y.toInt) : q_R rs E (s_sadd E a b) (x + y) := s_fitR hE (s_addS ha hb) (Int32.toInt_add x y)
theorem s_ssubR (hE : q_E rs E) (ha : s_val rs a = some x.toInt) (hb : s_val rs b = some y.toInt) : q_R rs E (s_ssub E a b) (x - y) := s_fitR hE (s_subS ha hb) (Int32.toInt_sub x y)
theorem s_snegR (hE : q_E rs E) (ha : s_val rs a = some x.toInt) : q_R rs E (s_sneg E a) (-x) := s_fitR hE (s_mulS ha) (by rw [Int32.toInt_neg, show -1 * x.toInt = -x.toInt by omega])
theorem s_smulR (hE : q_E rs E) (ha : s_val rs a = some x.toInt) (hb : s_val rs b = some y.toInt) : q_R rs E (s_smul E a b) (x * y) := by
  unfold s_smul
  split
  · rename_i c hc
    have e := s_litS hE ha hc
    subst e
    exact s_fitR hE (s_mulS hb) (Int32.toInt_mul x y)
  · split
    · rename_i c hc
      have e := s_litS hE hb hc
      subst e
      exact s_fitR hE (s_mulS ha) (by rw [Int.mul_comm]; exact Int32.toInt_mul x y)
    · split
      · rename_i i j hi hj
        obtain ⟨g1, g2⟩ := s_bndS hE hi ha
        obtain ⟨g3, g4⟩ := s_bndS hE hj hb
        cases h : s_nn i && s_nn j && s_le (i.2 * j.2) 2147483647 with
        | true =>
          simp only [s_nn, Bool.and_eq_true] at h
          have k1 := s_le_iff.mp h.1.1
          have k2 := s_le_iff.mp h.1.2
          have k3 := s_le_iff.mp h.2
          have m1 : i.1 * j.1 ≤ x.toInt * y.toInt := Int.mul_le_mul g1 g3 k2 (by omega)
          have m2 : x.toInt * y.toInt ≤ i.2 * j.2 := Int.mul_le_mul g2 g4 (by omega) (by omega)
          have m3 : 0 ≤ i.1 * j.1 := Int.mul_nonneg k1 k2
          have e : (x * y).toInt = x.toInt * y.toInt := by rw [Int32.toInt_mul]; exact s_wrap (by omega) (by omega)
          exact s_newR hE (by rw [e]; exact m1) (by rw [e]; exact m2)
        | false => exact s_anyR hE
      · exact s_anyR hE
theorem s_tdivB {p q : Int} (hq : 1 ≤ q) : (0 ≤ p → p.tdiv q = p / q) ∧ (s_min p 0 ≤ p.tdiv q ∧ p.tdiv q ≤ s_max p 0) := by
  have hnn : ∀ z : Int, 0 ≤ z → z / q ≤ z := fun z hz => Int.ediv_le_self _ hz
  refine ⟨fun h => Int.tdiv_eq_ediv_of_nonneg h, ?_⟩
  rcases Int.le_total 0 p with h | h
  · rw [Int.tdiv_eq_ediv_of_nonneg h]
    exact ⟨Int.le_trans (s_min_r _ _) (Int.ediv_nonneg h (by omega)), Int.le_trans (hnn p h) (s_max_l _ _)⟩
  · have e : p.tdiv q = -((-p) / q) := by
      rw [← Int.tdiv_eq_ediv_of_nonneg (show 0 ≤ -p by omega), Int.neg_tdiv, Int.neg_neg]
    have h1 := hnn (-p) (by omega)
    have h2 : 0 ≤ (-p) / q := Int.ediv_nonneg (by omega) (by omega)
    rw [e]
    exact ⟨Int.le_trans (s_min_l _ _) (by omega), Int.le_trans (by omega) (s_max_r _ _)⟩
theorem s_nz {j : pI} (hE : q_E rs E) (hb : s_val rs b = some y.toInt) (g3 : j.1 ≤ y.toInt) (g4 : y.toInt ≤ j.2) (h : (s_le 1 j.1 || (s_le j.2 (-1) || s_isNe b E.2.2.2)) = true) : y ≠ 0 := by
  have e0 : (0 : Int32).toInt = 0 := rfl
  have hz : y.toInt ≠ 0 := by
    simp only [Bool.or_eq_true] at h
    rcases h with h | h | h
    · have := s_le_iff.mp h; omega
    · have := s_le_iff.mp h; omega
    · exact s_isNeS hb hE.2.2.2 h
  intro hy
  rw [hy] at hz
  exact hz e0
theorem s_sdivR {X : sX} (hE : q_E rs E) (ha : s_val rs a = some x.toInt) (hb : s_val rs b = some y.toInt) (h : s_sdiv E a b = some X) : y ≠ 0 ∧ q_R rs E X (x / y) := by
  unfold s_sdiv at h
  split at h
  · rename_i i j hi hj
    obtain ⟨g1, g2⟩ := s_bndS hE hi ha
    obtain ⟨g3, g4⟩ := s_bndS hE hj hb
    cases h1 : s_le 1 j.1 with
    | true =>
      have k1 := s_le_iff.mp h1
      refine ⟨s_nz hE hb g3 g4 (by rw [h1]; rfl), ?_⟩
      rw [h1] at h
      have hx1 := q_low x
      have hx2 := q_high x
      obtain ⟨d1, d2, d3⟩ := s_tdivB (p := x.toInt) (q := y.toInt) (by omega)
      have r1 : -2147483648 ≤ x.toInt.tdiv y.toInt := Int.le_trans (s_le_min hx1 (by omega)) d2
      have r2 : x.toInt.tdiv y.toInt ≤ 2147483647 := Int.le_trans d3 (s_max_le hx2 (by omega))
      have e : (x / y).toInt = x.toInt.tdiv y.toInt := by rw [Int32.toInt_div]; exact s_wrap r1 r2
      cases h2 : s_nn i with
      | true =>
        rw [h2] at h
        cases h
        have k2 : 0 ≤ i.1 := s_le_iff.mp h2
        have hx0 : 0 ≤ x.toInt := by omega
        refine s_newR hE (by rw [e, d1 hx0]; exact Int.ediv_nonneg hx0 (by omega)) ?_
        rw [e, d1 hx0]
        show x.toInt / y.toInt ≤ i.2 / j.1
        refine Int.le_ediv_of_mul_le (by omega) ?_
        have m1 : x.toInt / y.toInt * j.1 ≤ x.toInt / y.toInt * y.toInt := Int.mul_le_mul_of_nonneg_left g3 (Int.ediv_nonneg hx0 (by omega))
        have m2 := Int.ediv_mul_le x.toInt (show y.toInt ≠ 0 by omega)
        omega
      | false =>
        rw [h2] at h
        cases h
        refine s_newR hE ?_ ?_
        · rw [e]
          refine Int.le_trans ?_ d2
          exact s_le_min (Int.le_trans (s_min_l _ _) g1) (s_min_r _ _)
        · rw [e]
          refine Int.le_trans d3 ?_
          exact s_max_le (Int.le_trans g2 (s_max_l _ _)) (s_max_r _ _)
    | false =>
      rw [h1] at h
      cases h2 : (s_le j.2 (-1) || s_isNe b E.2.2.2) with
      | true =>
        refine ⟨s_nz hE hb g3 g4 (by rw [h1, h2]; rfl), ?_⟩
        rw [h2] at h
        cases h
        exact s_anyR hE
      | false => rw [h2] at h; cases h
  · cases h
theorem s_sremR {X : sX} (hE : q_E rs E) (ha : s_val rs a = some x.toInt) (hb : s_val rs b = some y.toInt) (h : s_srem E a b = some X) : y ≠ 0 ∧ q_R rs E X (x - x / y * y) := by
  unfold s_srem at h
  split at h
  · rename_i i j hi hj
    obtain ⟨g1, g2⟩ := s_bndS hE hi ha
    obtain ⟨g3, g4⟩ := s_bndS hE hj hb
    cases h1 : s_le 1 j.1 with
    | true =>
      have k1 := s_le_iff.mp h1
      refine ⟨s_nz hE hb g3 g4 (by rw [h1]; rfl), ?_⟩
      rw [h1] at h
      have hx1 := q_low x
      have hx2 := q_high x
      obtain ⟨d1, d2, d3⟩ := s_tdivB (p := x.toInt) (q := y.toInt) (by omega)
      have r1 : -2147483648 ≤ x.toInt.tdiv y.toInt := Int.le_trans (s_le_min hx1 (by omega)) d2
      have r2 : x.toInt.tdiv y.toInt ≤ 2147483647 := Int.le_trans d3 (s_max_le hx2 (by omega))
      have e : (x / y).toInt = x.toInt.tdiv y.toInt := by rw [Int32.toInt_div]; exact s_wrap r1 r2
      have tm : x.toInt.tmod y.toInt = x.toInt - y.toInt * x.toInt.tdiv y.toInt := Int.tmod_def _ _
      have t1 : x.toInt.tmod y.toInt < y.toInt := Int.tmod_lt_of_pos _ (by omega)
      have t2 : -y.toInt < x.toInt.tmod y.toInt := by
        have := Int.tmod_lt_of_pos (-x.toInt) (show 0 < y.toInt by omega)
        rw [Int.neg_tmod] at this
        omega
      have hy2 := q_high y
      have e2 : (x / y * y).toInt = y.toInt * x.toInt.tdiv y.toInt := by
        rw [Int32.toInt_mul, e, Int.mul_comm]
        rcases Int.le_total 0 x.toInt with hp | hp
        · have := Int.tmod_nonneg y.toInt hp
          exact s_wrap (by omega) (by omega)
        · have : x.toInt.tmod y.toInt ≤ 0 := by
            have := Int.tmod_nonneg y.toInt (show 0 ≤ -x.toInt by omega)
            rw [Int.neg_tmod] at this
            omega
          exact s_wrap (by omega) (by omega)
      have e3 : (x - x / y * y).toInt = x.toInt.tmod y.toInt := by
        rw [Int32.toInt_sub, e2, ← tm]
        exact s_wrap (by omega) (by omega)
      cases h2 : s_nn i with
      | true =>
        rw [h2] at h
        cases h
        have k2 : 0 ≤ i.1 := s_le_iff.mp h2
        have hx0 : 0 ≤ x.toInt := by omega
        refine s_newR hE (by rw [e3]; exact Int.tmod_nonneg _ hx0) ?_
        rw [e3]
        refine s_le_min ?_ (by omega)
        have : 0 ≤ y.toInt * x.toInt.tdiv y.toInt := Int.mul_nonneg (by omega) (by rw [d1 hx0]; exact Int.ediv_nonneg hx0 (by omega))
        omega
      | false =>
        rw [h2] at h
        cases h
        exact s_newR hE (by rw [e3]; show 1 - j.2 ≤ _; omega) (by rw [e3]; show _ ≤ j.2 - 1; omega)
    | false =>
      rw [h1] at h
      cases h2 : (s_le j.2 (-1) || s_isNe b E.2.2.2) with
      | true =>
        refine ⟨s_nz hE hb g3 g4 (by rw [h1, h2]; rfl), ?_⟩
        rw [h2] at h
        cases h
        exact s_anyR hE
      | false => rw [h2] at h; cases h
  · cases h
theorem s_lit2R {op : Int32 → Int32 → Int32} {d : sX} (hE : q_E rs E) (ha : s_val rs a = some x.toInt) (hb : s_val rs b = some y.toInt) (hd : q_R rs E d (op x y)) : q_R rs E (s_lit2 op E a b d) (op x y) := by
  unfold s_lit2
  split
  · exact hd
  · rename_i u hu
    split
    · exact hd
    · rename_i w hw
      rw [← s_litS hE ha hu, ← s_litS hE hb hw, Int32.ofInt_toInt, Int32.ofInt_toInt]
      exact s_same hE (s_numS _)
theorem s_nat {z : Int32} (h : 0 ≤ z.toInt) : z.toInt = (z.toBitVec.toNat : Int) ∧ z.toBitVec.toNat < 2147483648 := by
  have e : z.toInt = z.toBitVec.toInt := rfl
  have h2 := q_high z
  rw [e] at h h2 ⊢
  rw [BitVec.toInt_eq_toNat_cond] at h h2 ⊢
  have hl := z.toBitVec.isLt
  split at h
  · rename_i hc
    rw [if_pos hc] at h2 ⊢
    exact ⟨rfl, by omega⟩
  · omega
theorem s_ofnat {z : Int32} (h : z.toBitVec.toNat < 2147483648) : z.toInt = (z.toBitVec.toNat : Int) := by
  have e : z.toInt = z.toBitVec.toInt := rfl
  rw [e, BitVec.toInt_eq_toNat_cond, if_pos (by omega)]
theorem s_andB (h : 0 ≤ y.toInt) : 0 ≤ (x &&& y).toInt ∧ (x &&& y).toInt ≤ y.toInt := by
  obtain ⟨e1, e2⟩ := s_nat h
  have e3 : (x &&& y).toBitVec.toNat ≤ y.toBitVec.toNat := by
    rw [Int32.toBitVec_and, BitVec.toNat_and]
    exact Nat.and_le_right
  rw [s_ofnat (z := x &&& y) (by omega), e1]
  exact ⟨by omega, by omega⟩
theorem s_bitN : ∀ (w n : Nat), 0 < n → n < 2 ^ w → ∃ k, n.testBit k = true ∧ (2 ^ w - n).testBit k = true
  | 0, n, h1, h2 => by simp at h2; omega
  | w + 1, n, h1, h2 => by
    have e : 2 ^ (w + 1) = 2 * 2 ^ w := by rw [Nat.pow_succ, Nat.mul_comm]
    by_cases ho : n % 2 = 1
    · refine ⟨0, ?_, ?_⟩
      · rw [Nat.testBit_zero]; exact decide_eq_true ho
      · rw [Nat.testBit_zero]; exact decide_eq_true (by omega)
    · obtain ⟨k, g1, g2⟩ := s_bitN w (n / 2) (by omega) (by omega)
      refine ⟨k + 1, ?_, ?_⟩
      · rw [Nat.testBit_succ]; exact g1
      · rw [Nat.testBit_succ, show (2 ^ (w + 1) - n) / 2 = 2 ^ w - n / 2 by omega]; exact g2
theorem s_lowbit (h : 1 ≤ x.toInt) (hy : y.toInt = -x.toInt) : 1 ≤ (x &&& y).toInt := by
  obtain ⟨x1, x2⟩ := s_nat (z := x) (by omega)
  have hb := s_andB (x := y) (y := x) (by omega)
  rw [Int32.and_comm] at hb
  have hyN : y.toBitVec.toNat = 2 ^ 32 - x.toBitVec.toNat := by
    have e : y.toInt = y.toBitVec.toInt := rfl
    rw [e, BitVec.toInt_eq_toNat_cond] at hy
    have hl := y.toBitVec.isLt
    split at hy <;> omega
  obtain ⟨k, g1, g2⟩ := s_bitN 32 x.toBitVec.toNat (by omega) x.toBitVec.isLt
  have g3 : ((x &&& y).toBitVec.toNat).testBit k = true := by
    rw [Int32.toBitVec_and, BitVec.toNat_and, Nat.testBit_and, g1, hyN, g2]
    rfl
  have g4 : (x &&& y).toBitVec.toNat ≠ 0 := by
    intro h0
    rw [h0, Nat.zero_testBit] at g3
    cases g3
  have e2 := s_nat (z := x &&& y) hb.1
  omega
theorem s_ge1R {c : Bool} {d : sF} {v : Int} (hE : q_E rs E) (hd : s_val rs d = some v) (h : c = true → 0 ≤ v) : q_E rs (s_ge1 c E d) ∧ (s_ge1 c E d).1 = E.1 := by
  cases c with
  | true => exact s_geS hE hd (h rfl)
  | false => exact ⟨hE, rfl⟩
theorem s_sandR (hE : q_E rs E) (ha : s_val rs a = some x.toInt) (hb : s_val rs b = some y.toInt) : q_R rs E (s_sand E a b) (x &&& y) := by
  refine s_lit2R (op := fun x y => x &&& y) hE ha hb ?_
  split
  · rename_i i j hi hj
    obtain ⟨g1, g2⟩ := s_bndS hE hi ha
    obtain ⟨g3, g4⟩ := s_bndS hE hj hb
    have c1 : s_nn i = true → 0 ≤ (x &&& y).toInt ∧ (x &&& y).toInt ≤ x.toInt := fun h => by
      have h : 0 ≤ i.1 := s_le_iff.mp h
      rw [Int32.and_comm]
      exact s_andB (by omega)
    have c2 : s_nn j = true → 0 ≤ (x &&& y).toInt ∧ (x &&& y).toInt ≤ y.toInt := fun h => by
      have h : 0 ≤ j.1 := s_le_iff.mp h
      exact s_andB (by omega)
    have hk : (s_andK E a b i j).1 ≤ (x &&& y).toInt ∧ (x &&& y).toInt ≤ (s_andK E a b i j).2 := by
      unfold s_andK
      cases h0 : s_le 1 i.1 && s_eqF b (s_mul (-1) a) with
      | true =>
        simp only [Bool.and_eq_true] at h0
        have k1 := s_le_iff.mp h0.1
        have e := s_eqF_eq h0.2
        subst e
        have e2 := Option.some.inj (hb.symm.trans (s_mulS (c := -1) ha))
        obtain ⟨p1, p2⟩ := c1 (s_le_iff.mpr (by omega))
        exact ⟨s_lowbit (by omega) (by omega), by show _ ≤ i.2; omega⟩
      | false =>
        simp only [cond_false]
        cases h1 : s_nn i with
        | true =>
          obtain ⟨p1, p2⟩ := c1 h1
          cases h2 : s_nn j with
          | true =>
            obtain ⟨p3, p4⟩ := c2 h2
            exact ⟨p1, s_le_min (by omega) (by omega)⟩
          | false => exact ⟨p1, by show _ ≤ i.2; omega⟩
        | false =>
          cases h2 : s_nn j with
          | true =>
            obtain ⟨p3, p4⟩ := c2 h2
            exact ⟨p3, by show _ ≤ j.2; omega⟩
          | false => exact ⟨q_low _, q_high _⟩
    obtain ⟨n1, n2, n3⟩ := s_newS hE hk.1 hk.2
    generalize s_new E (s_andK E a b i j) = X at n1 n2 n3
    obtain ⟨E1, f⟩ := X
    simp only
    cases h4 : s_ie i.1 i.2 || s_ie j.1 j.2 with
    | true => exact ⟨_, n1, n2, n3⟩
    | false =>
      obtain ⟨m1, m2⟩ := s_ge1R (c := s_nn i) n1 (s_subS (s_val_mono _ ha) n2) (fun h => by have := (c1 h).2; omega)
      obtain ⟨m3, m4⟩ := s_ge1R (c := s_nn j) m1 (s_subS (s_val_mono _ hb) n2) (fun h => by have := (c2 h).2; omega)
      exact ⟨_, m3, n2, m4.trans (m2.trans n3)⟩
  · exact s_anyR hE
theorem s_onesS {z : Int} {n : Nat} (h : (n : Int) ≤ z) : n < 2 ^ (z.toNat.log2 + 1) := Nat.lt_of_le_of_lt (show n ≤ z.toNat by omega) Nat.lt_log2_self
theorem s_onesC (z : Int) : s_ones z = ((2 ^ (z.toNat.log2 + 1) : Nat) : Int) - 1 := by
  unfold s_ones
  push_cast
  rfl
theorem s_sorR (hE : q_E rs E) (ha : s_val rs a = some x.toInt) (hb : s_val rs b = some y.toInt) : q_R rs E (s_sor E a b) (x ||| y) := by
  refine s_lit2R (op := fun x y => x ||| y) hE ha hb ?_
  split
  · rename_i i j hi hj
    obtain ⟨g1, g2⟩ := s_bndS hE hi ha
    obtain ⟨g3, g4⟩ := s_bndS hE hj hb
    cases h1 : s_nn i && s_nn j with
    | true =>
      simp only [s_nn, Bool.and_eq_true] at h1
      have k1 := s_le_iff.mp h1.1
      have k2 := s_le_iff.mp h1.2
      obtain ⟨x1, x2⟩ := s_nat (z := x) (by omega)
      obtain ⟨y1, y2⟩ := s_nat (z := y) (by omega)
      have e : (x ||| y).toBitVec.toNat = x.toBitVec.toNat ||| y.toBitVec.toNat := by rw [Int32.toBitVec_or, BitVec.toNat_or]
      have l1 : (x ||| y).toBitVec.toNat < 2147483648 := by
        rw [e]
        exact Nat.or_lt_two_pow (n := 31) x2 y2
      have e2 := s_ofnat l1
      have v1 : x.toInt ≤ (x ||| y).toInt := by
        rw [e2, e]
        have := Nat.left_le_or (n := x.toBitVec.toNat) (m := y.toBitVec.toNat)
        omega
      have v2 : y.toInt ≤ (x ||| y).toInt := by
        rw [e2, e]
        have := Nat.right_le_or (n := x.toBitVec.toNat) (m := y.toBitVec.toNat)
        omega
      have k3 : (x ||| y).toInt ≤ s_ones (s_max i.2 j.2) := by
        rw [e2, e, s_onesC]
        have m1 := s_onesS (z := s_max i.2 j.2) (n := x.toBitVec.toNat) (by have := s_max_l i.2 j.2; omega)
        have m2 := s_onesS (z := s_max i.2 j.2) (n := y.toBitVec.toNat) (by have := s_max_r i.2 j.2; omega)
        have m3 := Nat.or_lt_two_pow m1 m2
        omega
      obtain ⟨n1, n2, n3⟩ := s_newS (i := (s_max i.1 j.1, s_ones (s_max i.2 j.2))) hE (s_max_le (by omega) (by omega)) k3
      generalize s_new E (s_max i.1 j.1, s_ones (s_max i.2 j.2)) = X at n1 n2 n3
      obtain ⟨E1, f⟩ := X
      simp only [cond_true]
      cases h4 : s_ie i.1 i.2 || s_ie j.1 j.2 with
      | true => exact ⟨_, n1, n2, n3⟩
      | false =>
        obtain ⟨m1, m2⟩ := s_geS n1 (s_subS n2 (s_val_mono _ ha)) (by omega)
        obtain ⟨m3, m4⟩ := s_geS m1 (s_subS n2 (s_val_mono _ hb)) (by omega)
        exact ⟨_, m3, n2, m4.trans (m2.trans n3)⟩
    | false => exact s_anyR hE
  · exact s_anyR hE
theorem s_sxorR (hE : q_E rs E) (ha : s_val rs a = some x.toInt) (hb : s_val rs b = some y.toInt) : q_R rs E (s_sxor E a b) (x ^^^ y) := by
  refine s_lit2R (op := fun x y => x ^^^ y) hE ha hb ?_
  split
  · rename_i i j hi hj
    obtain ⟨g1, g2⟩ := s_bndS hE hi ha
    obtain ⟨g3, g4⟩ := s_bndS hE hj hb
    cases h1 : s_nn i && s_nn j with
    | true =>
      simp only [s_nn, Bool.and_eq_true] at h1
      have k1 := s_le_iff.mp h1.1
      have k2 := s_le_iff.mp h1.2
      obtain ⟨x1, x2⟩ := s_nat (z := x) (by omega)
      obtain ⟨y1, y2⟩ := s_nat (z := y) (by omega)
      have e : (x ^^^ y).toBitVec.toNat = x.toBitVec.toNat ^^^ y.toBitVec.toNat := by rw [Int32.toBitVec_xor, BitVec.toNat_xor]
      have l1 : (x ^^^ y).toBitVec.toNat < 2147483648 := by
        rw [e]
        exact Nat.xor_lt_two_pow (n := 31) x2 y2
      have e2 := s_ofnat l1
      refine s_newR hE ?_ ?_
      · rw [e2]
        show (0 : Int) ≤ _
        omega
      · rw [e2, e]
        show _ ≤ s_ones (s_max i.2 j.2)
        rw [s_onesC]
        have m1 := s_onesS (z := s_max i.2 j.2) (n := x.toBitVec.toNat) (by have := s_max_l i.2 j.2; omega)
        have m2 := s_onesS (z := s_max i.2 j.2) (n := y.toBitVec.toNat) (by have := s_max_r i.2 j.2; omega)
        have m3 := Nat.xor_lt_two_pow m1 m2
        omega
    | false => exact s_anyR hE
  · exact s_anyR hE
theorem s_shK : ∀ n : Nat, n < 32 → (Int32.ofNat n &&& 31).toBitVec.smod 32 = BitVec.ofNat 32 n := by decide
theorem s_shN (h0 : 0 ≤ y.toInt) (h1 : y.toInt ≤ 31) : (y &&& 31).toBitVec.smod 32 = BitVec.ofNat 32 y.toBitVec.toNat ∧ y.toBitVec.toNat < 32 ∧ y.toInt = (y.toBitVec.toNat : Int) := by
  obtain ⟨e1, e2⟩ := s_nat h0
  have e3 : y = Int32.ofNat y.toBitVec.toNat := by
    apply Int32.toBitVec_inj.mp
    show y.toBitVec = BitVec.ofNat 32 y.toBitVec.toNat
    simp
  have := s_shK y.toBitVec.toNat (by omega)
  rw [← e3] at this
  exact ⟨this, by omega, e1⟩
theorem s_shrI (h0 : 0 ≤ y.toInt) (h1 : y.toInt ≤ 31) : (x >>> (y &&& 31)).toInt = x.toInt / 2 ^ y.toInt.toNat := by
  obtain ⟨e1, e2, e3⟩ := s_shN h0 h1
  have : (x >>> (y &&& 31)).toInt = (x >>> (y &&& 31)).toBitVec.toInt := rfl
  rw [this, Int32.toBitVec_shiftRight, e1]
  show (x.toBitVec.sshiftRight (BitVec.ofNat 32 y.toBitVec.toNat).toNat).toInt = _
  rw [BitVec.toInt_sshiftRight, BitVec.toNat_ofNat, Nat.mod_eq_of_lt (by omega), Int.shiftRight_eq_div_pow, e3, Int.toNat_natCast]
  rfl
theorem s_pow2 {m n : Nat} (h : m ≤ n) : (2 : Int) ^ m ≤ 2 ^ n ∧ (1 : Int) ≤ 2 ^ m := by
  have h1 : (2 : Nat) ^ m ≤ 2 ^ n := Nat.pow_le_pow_right (by omega) h
  have h2 : 1 ≤ (2 : Nat) ^ m := Nat.one_le_two_pow
  have e1 : ((2 ^ m : Nat) : Int) = 2 ^ m := by push_cast; rfl
  have e2 : ((2 ^ n : Nat) : Int) = 2 ^ n := by push_cast; rfl
  omega
theorem s_sshrR (hE : q_E rs E) (ha : s_val rs a = some x.toInt) (hb : s_val rs b = some y.toInt) : q_R rs E (s_sshr E a b) (x >>> (y &&& 31)) := by
  refine s_lit2R (op := fun x y => x >>> (y &&& 31)) hE ha hb ?_
  split
  · rename_i i j hi hj
    obtain ⟨g1, g2⟩ := s_bndS hE hi ha
    obtain ⟨g3, g4⟩ := s_bndS hE hj hb
    cases h1 : s_sh j with
    | true =>
      simp only [s_sh, Bool.and_eq_true] at h1
      have k1 := s_le_iff.mp h1.1
      have k2 := s_le_iff.mp h1.2
      have e := s_shrI (x := x) (y := y) (by omega) (by omega)
      obtain ⟨p1, p2⟩ := s_pow2 (m := j.1.toNat) (n := y.toInt.toNat) (by omega)
      obtain ⟨p3, p4⟩ := s_pow2 (m := y.toInt.toNat) (n := j.2.toNat) (by omega)
      show q_R rs E _ (x >>> (y &&& 31))
      generalize y.toInt.toNat = n at e p1 p2 p3 p4
      cases h2 : s_nn i with
      | true =>
        have k3 : 0 ≤ i.1 := s_le_iff.mp h2
        refine s_newR hE ?_ ?_
        · rw [e]
          show i.1 / 2 ^ j.2.toNat ≤ x.toInt / 2 ^ n
          refine Int.le_ediv_of_mul_le (by omega) ?_
          have m0 : 0 ≤ i.1 / 2 ^ j.2.toNat := Int.ediv_nonneg k3 (by omega)
          have m1 := Int.mul_le_mul_of_nonneg_left p3 m0
          have m2 := Int.ediv_mul_le i.1 (show (2 : Int) ^ j.2.toNat ≠ 0 by omega)
          omega
        · rw [e]
          show x.toInt / 2 ^ n ≤ i.2 / 2 ^ j.1.toNat
          refine Int.le_ediv_of_mul_le (by omega) ?_
          have m0 : 0 ≤ x.toInt / 2 ^ n := Int.ediv_nonneg (by omega) (by omega)
          have m1 := Int.mul_le_mul_of_nonneg_left p1 m0
          have m2 := Int.ediv_mul_le x.toInt (show (2 : Int) ^ n ≠ 0 by omega)
          omega
      | false =>
        refine s_newR hE ?_ ?_
        · rw [e]
          show i.1 ≤ _
          rcases Int.le_total 0 x.toInt with hp | hp
          · have : 0 ≤ x.toInt / 2 ^ n := Int.ediv_nonneg hp (by omega)
            have k3 : i.1 < 0 := s_le_not.mp h2
            omega
          · refine Int.le_trans g1 (Int.le_ediv_of_mul_le (by omega) ?_)
            have := Int.mul_le_mul_of_nonpos_left hp p4
            omega
        · rw [e]
          show _ ≤ s_max i.2 0
          rcases Int.le_total 0 x.toInt with hp | hp
          · exact Int.le_trans (Int.ediv_le_self _ hp) (Int.le_trans g2 (s_max_l _ _))
          · refine Int.le_trans ?_ (s_max_r _ _)
            have := Int.ediv_le_ediv (c := 2 ^ n) (by omega) hp
            rw [Int.zero_ediv] at this
            exact this
    | false => exact s_anyR hE
  · exact s_anyR hE
theorem s_sshlR (hE : q_E rs E) (ha : s_val rs a = some x.toInt) (hb : s_val rs b = some y.toInt) : q_R rs E (s_sshl E a b) (x <<< (y &&& 31)) := by
  refine s_lit2R (op := fun x y => x <<< (y &&& 31)) hE ha hb ?_
  split
  · rename_i i j hi hj
    obtain ⟨g1, g2⟩ := s_bndS hE hi ha
    obtain ⟨g3, g4⟩ := s_bndS hE hj hb
    cases h1 : s_nn i && s_sh j && s_le (i.2 * 2 ^ j.2.toNat) 2147483647 with
    | true =>
      simp only [s_nn, s_sh, Bool.and_eq_true] at h1
      have k0 := s_le_iff.mp h1.1.1
      have k1 := s_le_iff.mp h1.1.2.1
      have k2 := s_le_iff.mp h1.1.2.2
      have k3 := s_le_iff.mp h1.2
      obtain ⟨x1, x2⟩ := s_nat (z := x) (by omega)
      obtain ⟨e1, e2, e3⟩ := s_shN (y := y) (by omega) (by omega)
      obtain ⟨p1, p2⟩ := s_pow2 (m := j.1.toNat) (n := y.toBitVec.toNat) (by omega)
      obtain ⟨p3, p4⟩ := s_pow2 (m := y.toBitVec.toNat) (n := j.2.toNat) (by omega)
      have eN : (x <<< (y &&& 31)).toBitVec.toNat = x.toBitVec.toNat * 2 ^ y.toBitVec.toNat % 4294967296 := by
        rw [Int32.toBitVec_shiftLeft, e1]
        show (x.toBitVec <<< (BitVec.ofNat 32 y.toBitVec.toNat).toNat).toNat = _
        rw [BitVec.toNat_shiftLeft, BitVec.toNat_ofNat, Nat.mod_eq_of_lt (show y.toBitVec.toNat < 2 ^ 32 by omega), Nat.shiftLeft_eq]
      show q_R rs E _ (x <<< (y &&& 31))
      have eI : ((x.toBitVec.toNat * 2 ^ y.toBitVec.toNat : Nat) : Int) = x.toInt * 2 ^ y.toBitVec.toNat := by
        rw [x1]
        push_cast
        rfl
      generalize y.toBitVec.toNat = n at *
      have m1 : x.toInt * 2 ^ n ≤ i.2 * 2 ^ j.2.toNat := Int.mul_le_mul g2 p3 (by omega) (by omega)
      have m2 : i.1 * 2 ^ j.1.toNat ≤ x.toInt * 2 ^ n := Int.mul_le_mul g1 p1 (by omega) (by omega)
      have hlt : x.toBitVec.toNat * 2 ^ n < 2147483648 := by omega
      rw [Nat.mod_eq_of_lt (by omega)] at eN
      have e4 := s_ofnat (z := x <<< (y &&& 31)) (by omega)
      rw [eN, eI] at e4
      exact s_newR hE (by rw [e4]; exact m2) (by rw [e4]; exact m1)
    | false => exact s_anyR hE
  · exact s_anyR hE
theorem s_ushK : ∀ n : Nat, n < 32 → ((Int32.ofNat n).toUInt32 &&& Int32.toUInt32 31).toBitVec % 32 = BitVec.ofNat 32 n := by decide
theorem s_ushrR (hE : q_E rs E) (ha : s_val rs a = some x.toInt) (hb : s_val rs b = some y.toInt) : q_R rs E (s_ushr E a b) ((x.toUInt32 >>> (y.toUInt32 &&& Int32.toUInt32 31)).toInt32) := by
  refine s_lit2R (op := fun x y => (x.toUInt32 >>> (y.toUInt32 &&& Int32.toUInt32 31)).toInt32) hE ha hb ?_
  split
  · rename_i i z hi hz
    obtain ⟨g1, g2⟩ := s_bndS hE hi ha
    have ez := s_litS hE hb hz
    cases h1 : s_le 1 z && s_le z 31 with
    | true =>
      simp only [Bool.and_eq_true] at h1
      have k1 := s_le_iff.mp h1.1
      have k2 := s_le_iff.mp h1.2
      obtain ⟨e1, e2, e3⟩ := s_shN (y := y) (by omega) (by omega)
      have ey : y = Int32.ofNat y.toBitVec.toNat := by
        apply Int32.toBitVec_inj.mp
        show y.toBitVec = BitVec.ofNat 32 y.toBitVec.toNat
        simp
      have eK := s_ushK y.toBitVec.toNat e2
      rw [← ey] at eK
      have eN : ((x.toUInt32 >>> (y.toUInt32 &&& Int32.toUInt32 31)).toInt32).toBitVec.toNat = x.toBitVec.toNat / 2 ^ y.toBitVec.toNat := by
        show (x.toUInt32 >>> (y.toUInt32 &&& Int32.toUInt32 31)).toBitVec.toNat = _
        rw [UInt32.toBitVec_shiftRight, eK]
        show (x.toBitVec >>> (BitVec.ofNat 32 y.toBitVec.toNat).toNat).toNat = _
        rw [BitVec.toNat_ushiftRight, BitVec.toNat_ofNat, Nat.mod_eq_of_lt (show y.toBitVec.toNat < 2 ^ 32 by omega), Nat.shiftRight_eq_div_pow]
      have hzn : z.toNat = y.toBitVec.toNat := by omega
      have hn1 : 1 ≤ y.toBitVec.toNat := by omega
      have hlt := x.toBitVec.isLt
      show q_R rs E _ ((x.toUInt32 >>> (y.toUInt32 &&& Int32.toUInt32 31)).toInt32)
      generalize (x.toUInt32 >>> (y.toUInt32 &&& Int32.toUInt32 31)).toInt32 = w at eN ⊢
      generalize y.toBitVec.toNat = n at *
      have hw : w.toBitVec.toNat < 2147483648 := by
        rw [eN, Nat.div_lt_iff_lt_mul (Nat.two_pow_pos n)]
        have : 2 ^ 1 ≤ 2 ^ n := Nat.pow_le_pow_right (by omega) hn1
        omega
      have e4 := s_ofnat hw
      rw [eN] at e4
      cases h2 : s_nn i with
      | true =>
        have k3 : 0 ≤ i.1 := s_le_iff.mp h2
        obtain ⟨x1, x2⟩ := s_nat (z := x) (by omega)
        have e5 : w.toInt = x.toInt / 2 ^ n := by
          rw [e4, x1]
          push_cast
          rfl
        obtain ⟨-, p2⟩ := s_pow2 (m := n) (n := n) (Nat.le_refl _)
        refine s_newR hE ?_ ?_
        · rw [e5, hzn]
          exact Int.ediv_le_ediv (by omega) g1
        · rw [e5, hzn]
          exact Int.ediv_le_ediv (by omega) g2
      | false =>
        refine s_newR hE (by rw [e4]; show (0 : Int) ≤ _; omega) ?_
        rw [e4, hzn]
        show ((x.toBitVec.toNat / 2 ^ n : Nat) : Int) ≤ 2 ^ (32 - n) - 1
        have hlt2 : x.toBitVec.toNat / 2 ^ n < 2 ^ (32 - n) := by
          rw [Nat.div_lt_iff_lt_mul (Nat.two_pow_pos n), ← Nat.pow_add, show 32 - n + n = 32 by omega]
          exact hlt
        have e6 : ((2 ^ (32 - n) : Nat) : Int) = 2 ^ (32 - n) := by push_cast; rfl
        omega
    | false => exact s_anyR hE
  · exact s_anyR hE
theorem s_convR {l h : Int} {f : Int32 → Int32} (hE : q_E rs E) (ha : s_val rs a = some x.toInt) (h1 : l ≤ (f x).toInt) (h2 : (f x).toInt ≤ h) (h3 : l ≤ x.toInt → x.toInt ≤ h → f x = x) : q_R rs E (s_conv l h E a) (f x) := by
  unfold s_conv
  split
  · rename_i i hi
    obtain ⟨g1, g2⟩ := s_bndS hE hi ha
    cases hc : s_le l i.1 && s_le i.2 h with
    | true =>
      simp only [Bool.and_eq_true] at hc
      have k1 := s_le_iff.mp hc.1
      have k2 := s_le_iff.mp hc.2
      rw [h3 (by omega) (by omega)]
      exact s_same hE ha
    | false => exact s_newR hE h1 h2
  · exact s_newR hE h1 h2
end Arith
