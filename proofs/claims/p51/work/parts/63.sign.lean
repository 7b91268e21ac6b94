/-! Four signs come behind THE TEXT. -/
theorem z_shrE (a : Int) {n : Nat} (hn : n ≤ 31) : z_shr a (n : Int) = wr a / 2 ^ n := by
  have e : (Int32.ofInt (n : Int)).toInt = (n : Int) := by rw [wrE]; exact wr_id (by omega) (by omega)
  have := s_shrI (x := Int32.ofInt a) (y := Int32.ofInt (n : Int)) (by omega) (by omega)
  rw [e, Int.toNat_natCast, wrE] at this
  exact this
theorem z_ushN (a : Int) {n : Nat} (hn : n ≤ 31) : z_ush a (n : Int) % 4294967296 = (a % 4294967296) / ((2 ^ n : Nat) : Int) := by
  have e : (Int32.ofInt (n : Int)).toInt = (n : Int) := by rw [wrE]; exact wr_id (by omega) (by omega)
  obtain ⟨e1, e2, e3⟩ := s_shN (y := Int32.ofInt (n : Int)) (by omega) (by omega)
  have eN0 : (Int32.ofInt (n : Int)).toBitVec.toNat = n := by omega
  have ey : Int32.ofInt (n : Int) = Int32.ofNat (Int32.ofInt (n : Int)).toBitVec.toNat := by
    apply Int32.toBitVec_inj.mp
    show (Int32.ofInt (n : Int)).toBitVec = BitVec.ofNat 32 (Int32.ofInt (n : Int)).toBitVec.toNat
    exact BitVec.eq_of_toNat_eq (by rw [BitVec.toNat_ofNat]; exact (Nat.mod_eq_of_lt (by omega)).symm)
  have eK := s_ushK (Int32.ofInt (n : Int)).toBitVec.toNat e2
  rw [← ey] at eK
  have eN : (((Int32.ofInt a).toUInt32 >>> ((Int32.ofInt (n : Int)).toUInt32 &&& Int32.toUInt32 31)).toInt32).toBitVec.toNat = (Int32.ofInt a).toBitVec.toNat / 2 ^ (Int32.ofInt (n : Int)).toBitVec.toNat := by
    show ((Int32.ofInt a).toUInt32 >>> ((Int32.ofInt (n : Int)).toUInt32 &&& Int32.toUInt32 31)).toBitVec.toNat = _
    rw [UInt32.toBitVec_shiftRight, eK]
    show ((Int32.ofInt a).toBitVec >>> (BitVec.ofNat 32 (Int32.ofInt (n : Int)).toBitVec.toNat).toNat).toNat = _
    rw [BitVec.toNat_ushiftRight, BitVec.toNat_ofNat, Nat.mod_eq_of_lt (show (Int32.ofInt (n : Int)).toBitVec.toNat < 2 ^ 32 by omega), Nat.shiftRight_eq_div_pow]
  rw [eN0] at eN
  have h1 := z_natS (z_ush a (n : Int))
  have h2 := z_natS a
  have h3 : (Int32.ofInt (z_ush a (n : Int))).toBitVec.toNat = (Int32.ofInt a).toBitVec.toNat / 2 ^ n := by
    have : Int32.ofInt (z_ush a (n : Int)) = ((Int32.ofInt a).toUInt32 >>> ((Int32.ofInt (n : Int)).toUInt32 &&& Int32.toUInt32 31)).toInt32 := z_ofN
    rw [this]
    exact eN
  rw [← h1, h3, ← h2]
  exact Int.natCast_ediv _ _
/-- the sign at t of the four -/
noncomputable def sg4 (v : Int) (t : Nat) : Int := (wr v / 2 ^ (24 - 8 * t)) % 256
theorem sg4C (v : Int) {t : Nat} (ht : t < 4) : z_and (z_ush v ((24 - 8 * t : Nat) : Int)) 255 % 65536 = sg4 v t := by
  rw [z_and255]
  have h := z_ushN v (n := 24 - 8 * t) (by omega)
  unfold sg4
  rw [wr_def]
  match t, ht with
  | 0, _ =>
    have h : z_ush v ((24 : Nat) : Int) % 4294967296 = (v % 4294967296) / 16777216 := h
    show z_ush v ((24 : Nat) : Int) % 256 % 65536 = ((v + 2147483648) % 4294967296 - 2147483648) / 16777216 % 256
    omega
  | 1, _ =>
    have h : z_ush v ((16 : Nat) : Int) % 4294967296 = (v % 4294967296) / 65536 := h
    show z_ush v ((16 : Nat) : Int) % 256 % 65536 = ((v + 2147483648) % 4294967296 - 2147483648) / 65536 % 256
    omega
  | 2, _ =>
    have h : z_ush v ((8 : Nat) : Int) % 4294967296 = (v % 4294967296) / 256 := h
    show z_ush v ((8 : Nat) : Int) % 256 % 65536 = ((v + 2147483648) % 4294967296 - 2147483648) / 256 % 256
    omega
  | 3, _ =>
    have h : z_ush v ((0 : Nat) : Int) % 4294967296 = (v % 4294967296) / 1 := h
    show z_ush v ((0 : Nat) : Int) % 256 % 65536 = ((v + 2147483648) % 4294967296 - 2147483648) / 1 % 256
    omega
theorem sg4R (v : Int) {t : Nat} (ht : t < 4) : z_b8 (z_shr v ((24 - 8 * t : Nat) : Int)) % 256 = sg4 v t := by
  rw [z_shrE v (by omega)]
  unfold sg4 z_b8
  omega
section ZSign
variable {T : Nat → Nat → zG → (Option zA → zM → Prop) → Prop} {B : Int}
theorem z_append (hT : zRules T) {D : Nat} {κ : Option zA → zM → Prop} {m : zM} {v : Int} {L : Nat} (hB : zB m) (hv : isI v) (hL : m 2 1 = (L : Int))
    (h1 : L ≤ 76 → ∀ M, zB M → zFr (inL [(2, some 1), (3, none)]) m M → M 2 1 = (L : Int) + 4 → (∀ j, j < L → M 3 j = m 3 j) → (∀ t, t < 4 → M 3 (L + t) = sg4 v t) → κ (some (zi ((L : Int) + 4))) M) (h2 : ¬ L ≤ 76 → κ (some (zi (-1))) m) : T (D + 1) 63 (0, [(0, zr 2), (1, zi v)], [], m) κ := by
  refine zb63_0 hT hB hv (fun q => ?_) (fun q => h2 (by omega))
  have h1 := h1 (by omega)
  have key : ∀ (j i : Nat) (sh : Int) (M : zM), i + j = 4 → sh = 24 - 8 * (i : Int) → zB M → zFr (inL [(2, some 1), (3, none)]) m M → M 2 1 = (L : Int) + i → (∀ t, t < L → M 3 t = m 3 t) → (∀ t, t < i → M 3 (L + t) = sg4 v t) → T (D + 1) 63 (14, [(0, zr 2), (1, zi v), (2, zi sh)], [], M) κ := by
    intro j
    induction j with
    | zero =>
      intro i sh M hi hsh hBM hF h21 hl hs
      refine zb63_14 hT rfl hBM hv (by omega) (by omega) (fun _ => ?_) (fun x => by omega) (fun x => by omega)
      have ei : i = 4 := by omega
      subst ei
      rw [h21]
      exact h1 M hBM hF h21 hl hs
    | succ j ih =>
      intro i sh M hi hsh hBM hF h21 hl hs
      refine zb63_14 hT rfl hBM hv (by omega) (by omega) (fun x => by omega) (fun _ => by omega) (fun _ => ?_)
      have es : sh = ((24 - 8 * i : Nat) : Int) := by omega
      have e1 : z_and (z_ush v sh) 255 % 65536 = sg4 v i := by rw [es]; exact sg4C v (by omega)
      have e2 : (M 2 1).toNat = L + i := by omega
      have b4 : 0 ≤ sg4 v i ∧ sg4 v i ≤ 255 := by unfold sg4; omega
      rw [e1, e2]
      refine ih (i + 1) _ _ (by omega) (by omega) (zB_u (zB_u hBM (show 0 ≤ sg4 v i ∧ sg4 v i ≤ 65535 by omega)) (show 0 ≤ M 2 1 + 1 ∧ M 2 1 + 1 ≤ 80 by omega)) ((hF.set rfl).set rfl) ?_ (fun t ht => ?_) (fun t ht => ?_)
      · rw [zu_sm rfl]
        omega
      · rw [zu_dn (by omega), zu_off (by omega)]
        exact hl t ht
      · rw [zu_dn (by omega)]
        by_cases e : t = i
        · subst e
          rw [zu_sm rfl]
        · rw [zu_off (by omega)]
          exact hs t (by omega)
  exact key 4 0 24 m (by omega) (by omega) hB zFr.refl (by omega) (fun _ _ => rfl) (fun t ht => by omega)
theorem z_signR (hT : zRules T) {D : Nat} {κ : Option zA → zM → Prop} {m : zM} {v : Int} {L : Nat} (hB : zB m) (hv : isI v) (hL : m 74 9 = (L : Int))
    (h1 : L ≤ 76 → ∀ M, zB M → zFr (inL [(74, some 9), (74, some 12), (80, none)]) m M → M 74 9 = (L : Int) + 4 → (∀ j, j < L → M 80 j = m 80 j) → (∀ t, t < 4 → M 80 (L + t) % 256 = sg4 v t) → κ (some (zi ((L : Int) + 4))) M) (h2 : ¬ L ≤ 76 → zB (zu m 74 12 0) → κ (some (zi (-1))) (zu m 74 12 0)) : T (D + 2) 195 (0, [(0, zr 74), (1, zi v)], [], m) κ := by
  refine zb195_0 hT hB hv (fun q hz => ?_) (fun q hz => h2 (by omega) hz)
  have h1 := h1 (by omega)
  have key : ∀ (j i : Nat) (k : Int) (M : zM), i + j = 4 → k = 3 - (i : Int) → zB M → zFr (inL [(74, some 9), (74, some 12), (80, none)]) m M → M 74 9 = (L : Int) + i → (∀ t, t < L → M 80 t = m 80 t) → (∀ t, t < i → M 80 (L + t) % 256 = sg4 v t) → T (D + 2) 195 (20, [(0, zr 74), (1, zi v), (2, zi k)], [], M) κ := by
    intro j
    induction j with
    | zero =>
      intro i k M hi hk hBM hF h21 hl hs
      refine zb195_20 hT rfl hBM hv (by omega) (fun _ => ?_) (fun x => by omega) (fun x => by omega)
      have ei : i = 4 := by omega
      subst ei
      rw [h21]
      exact h1 M hBM hF h21 hl hs
    | succ j ih =>
      intro i k M hi hk hBM hF h21 hl hs
      refine zb195_20 hT rfl hBM hv (by omega) (fun x => by omega) (fun _ => by omega) (fun _ => ?_)
      have es : 8 * k = ((24 - 8 * i : Nat) : Int) := by omega
      have e2 : (M 74 9).toNat = L + i := by omega
      have b4 := z_b8B (z_shr v (8 * k))
      rw [e2]
      refine ih (i + 1) _ _ (by omega) (by omega) (zB_u (zB_u hBM (show 0 ≤ M 74 9 + 1 ∧ M 74 9 + 1 ≤ 80 by omega)) (show -128 ≤ z_b8 (z_shr v (8 * k)) ∧ z_b8 (z_shr v (8 * k)) ≤ 127 from b4)) ((hF.set rfl).set rfl) ?_ (fun t ht => ?_) (fun t ht => ?_)
      · rw [zu_dn (by omega), zu_sm rfl]
        omega
      · rw [zu_off (by omega), zu_dn (by omega)]
        exact hl t ht
      · by_cases e : t = i
        · subst e
          rw [zu_sm rfl, es]
          exact sg4R v (by omega)
        · rw [zu_off (by omega), zu_dn (by omega)]
          exact hs t (by omega)
  exact key 4 0 3 _ (by omega) (by omega) hz (zFr.refl.set rfl) (by rw [zu_off (by omega)]; omega) (fun _ _ => rfl) (fun t ht => by omega)
theorem w_sign (hT : zRules T) {v : Int} (hv : isI v) : Way T 112 195 [(0, zr 1), (1, zi v)] [(0, zr 74), (1, zi v)] 2 2 B B True := by
  rintro D m sc ⟨n, k, hI⟩ κ hκ
  have hI0 := hI
  obtain ⟨i1, i2, i3, i4, i5, i6, i7, i8, i9, i10, i11⟩ := hI
  have b21 : 0 ≤ m 2 1 ∧ m 2 1 ≤ 80 := i1 2 1
  obtain ⟨L, hL⟩ : ∃ L : Nat, m 2 1 = (L : Int) := ⟨(m 2 1).toNat, by omega⟩
  refine zb112_0 hT i1 hv ?_
  refine z_append hT i1 hv hL (fun hl M hBM hF h21 g1 g2 => ?_) (fun hl => ?_)
  · refine zb112_8 hT rfl (by omega) (hκ _ _ (fun D2 κ2 h2 => ?_))
    have e9 : M 74 9 = (L : Int) := by rw [hF 74 9 rfl, i2.1, hL]
    refine z_signR hT hBM hv e9 (fun _ M2 hB2 hF2 h9 g3 g4 => ?_) (fun x => absurd hl x)
    refine h2 _ _ (fun _ => rfl) ⟨n, k, ?_⟩
    have hF1 : zFr (inL [(2, some 1), (3, none), (74, some 9), (74, some 12), (80, none)]) m M2 := (hF.sub (fun c j q => by
      simp only [inL, List.any_cons, Bool.or_eq_true] at q ⊢
      rcases q with q | q | q
      · exact Or.inl q
      · exact Or.inr (Or.inl q)
      · cases q)).trans (hF2.sub (fun c j q => by
      simp only [inL, List.any_cons, Bool.or_eq_true] at q ⊢
      exact Or.inr (Or.inr q)))
    refine ⟨hB2, ⟨?_, fun j hj => ?_⟩, (Agree.of hF1 rfl).law.1 i3, House_fr (.of hF1 rfl) i4, Term_fr (.of hF1 rfl) i5, Undo_fr (.of hF1 rfl) i6, Kept_fr (.of hF1 rfl) i7, Seen_fr (.of hF1 rfl) i8, Job_fr (.of hF1 rfl) i9, Now_fr (.of hF1 rfl) i10, Scr_fr (.of hF1 rfl) i11⟩
    · rw [h9, hF2 2 1 rfl, h21]
    · rw [hF2 2 1 rfl, h21] at hj
      rw [hF2 3 j rfl]
      by_cases q : j < L
      · rw [g1 j q, g3 j q, hF 80 j rfl]
        exact i2.2 j (by omega)
      · obtain ⟨t, ht⟩ : ∃ t, j = L + t := ⟨j - L, by omega⟩
        subst ht
        rw [g2 t (by omega), g4 t (by omega)]
  · refine zb112_8 hT rfl (by omega) (hκ _ _ (fun D2 κ2 h2 => ?_))
    refine z_signR hT i1 hv (i2.1.trans hL) (fun x => absurd x hl) (fun _ hz => ?_)
    exact h2 _ _ (fun _ => rfl) ⟨n, k, Inv_fr (.of (L := [(74, some 12)]) (zFr.refl.set rfl) rfl) hz hI0⟩
end ZSign
