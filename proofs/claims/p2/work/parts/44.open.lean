/-! The loop's head, first: rows are made open. -/
/-- a row of ints that are all 0, of so many -/
def s_zrow (h : sH) (q n : Nat) : Bool := match s_hget h q with
  | some (.inl (ty, (t, z), fs, _, _)) => p_is ty 0 && s_nil t && s_ie z (n : Int) && (match fs with
    | [.inl (t2, z2)] => s_nil t2 && s_ie z2 0
    | _ => false)
  | _ => false
def s_opn1 (N : Nat) (q : Nat × sC) (k : Nat) : Nat × sC := bif Nat.beq q.1 k then (match q.2 with
  | .inl (ty, _, fs, _, _) => (q.1, .inl (ty, s_nm N, fs, [], []))
  | c => (q.1, c)) else q
def s_opnH (N : Nat) : List Nat → sH → sH
  | [], h => h
  | k :: r, h => s_opnH (N + 1) r (h.map (fun q => s_opn1 N q k))
def s_opn (S : sG) : sG := match S with
  | (pc, lo, st, E, h) => (pc, lo, st, (false, E.2.1 ++ [(40, 40), (40, 40), (40, 40), (40, 40), (240, 240)], E.2.2.1, E.2.2.2), s_opnH E.2.1.length [10, 11, 14, 15, 89] h)
def s_opnOK (S : sG) : Bool := s_zrow S.2.2.2.2 10 40 && s_zrow S.2.2.2.2 11 40 && s_zrow S.2.2.2.2 14 40 && s_zrow S.2.2.2.2 15 40 && s_zrow S.2.2.2.2 89 240
section Opn
variable {dC : Nat → ClassId} {dI : Nat → Nat → Nat} {dA : FieldType → ClassId} {ad : Nat → Nat} {Hb H0 H : Heap} {rv : List Int} {E : sE} {h : sH}
theorem s_zrowS {q n : Nat} (hG : q_G dC dI dA rv ad Hb H0 E h H) (hz : s_zrow h q n = true) : Hb.size ≤ ad q ∧ ∃ g : Nat → Int32, H[ad q]? = some (vp_cell (dA .int) (n, .inl g)) ∧ ∀ j : Nat, j < n → (g j).toInt = 0 := by
  unfold s_zrow at hz
  split at hz
  · rename_i ty t z fs ch fa hg
    rw [Bool.and_eq_true, Bool.and_eq_true, Bool.and_eq_true] at hz
    obtain ⟨⟨⟨z1, z2⟩, z3⟩, z4⟩ := hz
    obtain ⟨n0, g, g1, g2, g3, g4⟩ := hG.2.2.2.2.1 _ (s_hgetS hg)
    have et : t = [] := s_nilS z2
    subst et
    have t1 : ty = .int := by rcases q_isT z1 with ⟨-, e⟩ | ⟨e, -⟩ | ⟨e, -⟩ | ⟨e, -⟩ <;> first | exact e | cases e
    have e1 : z = (n0 : Int) := Option.some.inj ((s_numS (rs := rv) z).symm.trans g2.1)
    have e2 := s_ie_iff.mp z3
    have en : n0 = n := by omega
    subst en
    have g5 := g1.cl (Or.inl rfl)
    rw [show ((ty, (([] : sT), z), fs, ch, fa) : sR).1 = FieldType.int from t1] at g5
    refine ⟨g4 rfl, g, g5, fun j hj => ?_⟩
    split at z4
    · rename_i t2 z5
      rw [Bool.and_eq_true] at z4
      obtain ⟨w, w1, w2⟩ := g2.2.2.1 j hj
      have e3 : w = .inl (t2, z5) := by
        have w1 : ([(.inl (t2, z5) : sW)])[j % 1]? = some w := w1
        rw [Nat.mod_one] at w1
        exact (Option.some.inj w1).symm
      subst e3
      have et2 : t2 = [] := s_nilS z4.1
      subst et2
      have e4 := s_ie_iff.mp z4.2
      subst e4
      have w2 : s_val rv ([], 0) = some (g j).toInt := w2
      exact (Option.some.inj ((s_numS (rs := rv) 0).symm.trans w2)).symm
    · cases z4
  · cases hz
theorem q_opnC {N k n : Nat} (hN : rv.length = N) (hf : Hb.size ≤ ad k ∧ ∃ g : Nat → Int32, H[ad k]? = some (vp_cell (dA .int) (n, .inl g))) (hcs : ∀ x ∈ h, q_C dC dI dA rv ad Hb.size (ad x.1) H x.2) : ∀ x ∈ h.map (fun q => s_opn1 N q k), q_C dC dI dA (rv ++ [(n : Int)]) ad Hb.size (ad x.1) H x.2 := by
  intro x hx
  obtain ⟨y, hy, rfl⟩ := List.mem_map.mp hx
  have hc := hcs y hy
  unfold s_opn1
  cases hb : Nat.beq y.1 k with
  | false => exact hc.mono _
  | true =>
    have ek := Nat.eq_of_beq_eq_true hb
    simp only [cond_true]
    obtain ⟨id, cc⟩ := y
    dsimp only at ek hc ⊢
    subst ek
    rcases cc with ⟨ty, len, fs, ch, fa⟩ | c2
    · obtain ⟨n0, g0, g1, g2, g3, g4⟩ := hc
      obtain ⟨hb0, g, hg⟩ := hf
      have g5 := g1.cl (Or.inr hb0)
      have en : n0 = n := (q_cellI (Option.some.inj (g5.symm.trans hg))).1
      subst en
      refine ⟨n0, g0, Or.inl g5, ⟨s_nmS ?_, g2.2.1, fun j hj => ?_, (fun p hp => by cases hp), (fun p hp => by cases hp)⟩, g3, fun hn => by cases hn⟩
      · rw [List.getElem?_append_right (by omega), hN, Nat.sub_self]
        rfl
      · obtain ⟨w, w1, w2⟩ := g2.2.2.1 j hj
        exact ⟨w, w1, w2.mono _⟩
    · exact hc.mono _
theorem s_opn1I (N : Nat) (q : Nat × sC) (k : Nat) : (s_opn1 N q k).1 = q.1 := by
  unfold s_opn1
  cases Nat.beq q.1 k with
  | false => rfl
  | true =>
    simp only [cond_true]
    split <;> rfl
theorem q_opnS {S : sG} {nL : Nat} {ls : Array Slot} {vs : List Value} {locs : List Loc} (hz : s_opnOK S = true) (F : q_Fr dC dI dA rv ad Hb H0 nL S ls vs H locs) : q_Fr dC dI dA (rv ++ [40, 40, 40, 40, 240]) ad Hb H0 nL (s_opn S) ls vs H locs := by
  obtain ⟨pc, lo, st, E, h⟩ := S
  obtain ⟨f1, f2, f3, f4, f5⟩ := F
  dsimp only at f1 f2 f3 f4
  unfold s_opnOK at hz
  dsimp only at hz
  rw [Bool.and_eq_true, Bool.and_eq_true, Bool.and_eq_true, Bool.and_eq_true] at hz
  obtain ⟨⟨⟨⟨z1, z2⟩, z3⟩, z4⟩, z5⟩ := hz
  obtain ⟨b1, g1, c1, d1⟩ := s_zrowS f4 z1
  obtain ⟨b2, g2, c2, d2⟩ := s_zrowS f4 z2
  obtain ⟨b3, g3, c3, d3⟩ := s_zrowS f4 z3
  obtain ⟨b4, g4, c4, d4⟩ := s_zrowS f4 z4
  obtain ⟨b5, g5, c5, d5⟩ := s_zrowS f4 z5
  have hlen := f3.1
  have k1 := q_opnC (N := E.2.1.length) (k := 10) (n := 40) hlen ⟨b1, g1, c1⟩ f4.2.2.2.2.1
  have k2 := q_opnC (N := E.2.1.length + 1) (k := 11) (n := 40) (by simp [hlen]) ⟨b2, g2, c2⟩ k1
  have k3 := q_opnC (N := E.2.1.length + 1 + 1) (k := 14) (n := 40) (by simp [hlen]) ⟨b3, g3, c3⟩ k2
  have k4 := q_opnC (N := E.2.1.length + 1 + 1 + 1) (k := 15) (n := 40) (by simp [hlen]) ⟨b4, g4, c4⟩ k3
  have k5 := q_opnC (N := E.2.1.length + 1 + 1 + 1 + 1) (k := 89) (n := 240) (by simp [hlen]) ⟨b5, g5, c5⟩ k4
  have erv : rv ++ [((40 : Nat) : Int)] ++ [((40 : Nat) : Int)] ++ [((40 : Nat) : Int)] ++ [((40 : Nat) : Int)] ++ [((240 : Nat) : Int)] = rv ++ [40, 40, 40, 40, 240] := by simp
  rw [erv] at k5
  have ids : ∀ x ∈ s_opnH E.2.1.length [10, 11, 14, 15, 89] h, ∃ y ∈ h, y.1 = x.1 := by
    intro x hx
    simp only [s_opnH, List.map_map, List.mem_map, Function.comp] at hx
    obtain ⟨y, hy, rfl⟩ := hx
    exact ⟨y, hy, by rw [s_opn1I, s_opn1I, s_opn1I, s_opn1I, s_opn1I]⟩
  have ids2 : ∀ y ∈ h, ∃ x ∈ s_opnH E.2.1.length [10, 11, 14, 15, 89] h, x.1 = y.1 := by
    intro y hy
    refine ⟨s_opn1 (E.2.1.length + 1 + 1 + 1 + 1) (s_opn1 (E.2.1.length + 1 + 1 + 1) (s_opn1 (E.2.1.length + 1 + 1) (s_opn1 (E.2.1.length + 1) (s_opn1 E.2.1.length y 10) 11) 14) 15) 89, ?_, ?_⟩
    · simp only [s_opnH, List.map_map, List.mem_map, Function.comp]
      exact ⟨y, hy, rfl⟩
    · rw [s_opn1I, s_opn1I, s_opn1I, s_opn1I, s_opn1I]
  refine ⟨f1.mono _, f2.mono _, ?_, ⟨f4.1, fun q hq hn => f4.2.1 q hq (fun x hx e => ?_), f4.2.2.1, (fun e => by cases e), k5, fun a ha c hc e => ?_, fun _ => ⟨fun _ _ => ?_, fun _ _ => ?_, fun _ => ?_⟩⟩, f5⟩
  · refine s_exS (E := (false, E.2)) (l := [(40, 40), (40, 40), (40, 40), (40, 40), (240, 240)]) f3 rfl (fun k i hk => ?_)
    rcases k with _ | _ | _ | _ | _ | k
    · cases hk; exact ⟨40, rfl, Int.le_refl _, Int.le_refl _⟩
    · cases hk; exact ⟨40, rfl, Int.le_refl _, Int.le_refl _⟩
    · cases hk; exact ⟨40, rfl, Int.le_refl _, Int.le_refl _⟩
    · cases hk; exact ⟨40, rfl, Int.le_refl _, Int.le_refl _⟩
    · cases hk; exact ⟨240, rfl, Int.le_refl _, Int.le_refl _⟩
    · cases hk
  · obtain ⟨w, w1, w2⟩ := ids2 x hx
    exact hn w w1 (by rw [w2]; exact e)
  · obtain ⟨a', a1, a2⟩ := ids a ha
    obtain ⟨c', c1', c2'⟩ := ids c hc
    rw [← a2, ← c2']
    exact f4.2.2.2.2.2.1 a' a1 c' c1' (by rw [a2, c2']; exact e)
  · exact ⟨⟨b1, b2⟩, g1, g2, c1, c2, fun j hj => Or.inr (by rw [d2 j hj]; decide)⟩
  · exact ⟨⟨b3, b4⟩, g3, g4, c3, c4, fun j hj => Or.inr (by rw [d4 j hj]; decide)⟩
  · exact ⟨b5, g5, c5, fun j hj h103 => by rw [d5 _ (by omega)] at h103; exact absurd h103 (by decide)⟩
end Opn
