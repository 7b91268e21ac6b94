/-! hired(): it ends, and leaves what matters. -/
section ZHired
variable {T : Nat → Nat → zG → (Option zA → zM → Prop) → Prop} {B : Int}
theorem z_endOf0 (hT : zRules T) {D : Nat} {κ : Option zA → zM → Prop} {m : zM} {w q : Nat} (hB : zB m) (hw : 1 ≤ w ∧ w ≤ 3) (hq : q ≤ 6561) (hk : ∀ v M, isI v → zB M → zFr (inL [(68, none), (69, none)]) m M → κ (some (zi v)) M) : T (D + 3) 105 (0, [(0, zr 64), (1, zi (q : Int)), (2, zi (w : Int))], [], m) κ := by
  have b64 : 0 ≤ m 64 2 ∧ m 64 2 ≤ 7 := hB 64 2
  have key : ∀ (j q : Nat) (b : Int) (M : zM), j ≤ 7 → q ≤ 6561 → isI b → zB M → zFr (inL [(68, none), (69, none)]) m M → T (D + 3) 105 (34, [(0, zr 64), (2, zi (w : Int)), (3, zi (q : Int)), (4, zi b), (5, zi ((j : Int) - 1))], [], M) κ := by
    intro j
    induction j with
    | zero =>
      intro q b M hj hq hb hBM hF
      exact zb105_34 hT rfl hBM (by omega) hq hb (by omega) (fun _ => hk b M hb hBM hF) (fun q => by omega) (fun q => by omega) (fun q => by omega) (fun q => by omega) (fun q => by omega) (fun q => by omega) (fun q => by omega)
    | succ j ih =>
      intro q b M hj hq hb hBM hF
      have em : Int.tmod (q : Int) (w : Int) = ((q % w : Nat) : Int) := rfl
      have ed : Int.tdiv (q : Int) (w : Int) = ((q / w : Nat) : Int) := rfl
      have hm : q % w < w := Nat.mod_lt _ (by omega)
      have hd : q / w ≤ q := Nat.div_le_self q w
      have ix : 0 ≤ wr (Int.tmod (q : Int) (w : Int)) ∧ wr (Int.tmod (q : Int) (w : Int)) < 3 := by
        rw [em, wr_id (by omega) (by omega)]
        omega
      rw [show ((j + 1 : Nat) : Int) - 1 = (j : Int) by omega]
      refine zb105_34 hT rfl hBM (by omega) hq hb (by omega) (fun q => by omega) (fun _ _ => ix) (fun _ _ => ix) (fun _ _ => ix) (fun _ _ _ hz => ?_) (fun _ _ _ hz => ?_) (fun _ q => by omega) (fun _ q => by omega)
      · rw [ed]
        exact ih (q / w) _ _ (by omega) (by omega) (wrB _) hz ((hF.set rfl).set rfl)
      · rw [ed]
        exact ih (q / w) b _ (by omega) (by omega) hb hz ((hF.set rfl).set rfl)
  refine zb105_0 hT hB (by omega) hq (fun hz => ?_)
  obtain ⟨N, hN⟩ : ∃ N : Nat, m 64 2 = (N : Int) := ⟨(m 64 2).toNat, by omega⟩
  rw [hN]
  exact key N q 0 _ (by omega) hq (by unfold isI; omega) hz (((zFr.refl.set rfl).set rfl).set rfl)
theorem z_share0 (hT : zRules T) {D : Nat} {κ : Option zA → zM → Prop} {m : zM} {w : Nat} (hB : zB m) (hw : 1 ≤ w ∧ w ≤ 3) (hk : ∀ v M, isI v → zB M → zFr (inL [(67, none), (68, none), (69, none)]) m M → κ (some (zi v)) M) : T (D + 4) 104 (0, [(0, zr 64), (1, zi (w : Int))], [], m) κ := by
  have b64 : 0 ≤ m 64 2 ∧ m 64 2 ≤ 7 := hB 64 2
  obtain ⟨N, hN⟩ : ∃ N : Nat, m 64 2 = (N : Int) := ⟨(m 64 2).toNat, by omega⟩
  have all : ∀ (j q a : Nat) (b : Int) (M : zM), q + j = a → a ≤ 6561 → isI b → zB M → zFr (inL [(67, none), (68, none), (69, none)]) m M → T (D + 4) 104 (27, [(0, zr 64), (1, zi (w : Int)), (2, zi (a : Int)), (3, zi b), (4, zi (q : Int))], [], M) κ := by
    intro j
    induction j with
    | zero =>
      intro q a b M hq ha hb hBM hF
      exact zb104_27 hT rfl hBM (by omega) ha hb (by omega) (fun _ => hk b M hb hBM hF) (fun x => by omega)
    | succ j ih =>
      intro q a b M hq ha hb hBM hF
      refine zb104_27 hT rfl hBM (by omega) ha hb (by omega) (fun x => by omega) (fun _ => ?_)
      refine z_endOf0 hT hBM hw (by omega) (fun v M1 hv hB1 hF1 => ?_)
      have hFa : zFr (inL [(67, none), (68, none), (69, none)]) m M1 := hF.trans (hF1.sub (inL_sub (by decide)))
      refine zb104_40 hT rfl hB1 (by omega) ha hb (by omega) hv (fun _ hz => ?_) (fun _ _ => ?_) (fun _ _ hz => ?_)
      · exact ih (q + 1) a v _ (by omega) ha hv hz (hFa.cp (fun _ => rfl))
      · exact ih (q + 1) a b M1 (by omega) ha hb hB1 hFa
      · exact ih (q + 1) a v _ (by omega) ha hv hz (hFa.cp (fun _ => rfl))
  have pw : ∀ (j t a : Nat), t + j = 7 → 1 ≤ t → a ≤ 3 ^ (t - 1) → T (D + 4) 104 (4, [(0, zr 64), (1, zi (w : Int)), (2, zi (a : Int)), (3, zi (t : Int))], [], m) κ := by
    intro j
    induction j with
    | zero =>
      intro t a ht h1 ha
      have et : t = 7 := by omega
      subst et
      have ha2 : a ≤ 729 := Nat.le_trans ha (by decide)
      exact zb104_4 hT rfl hB (by omega) (by omega) (by omega) (fun _ => all a 0 a (-1) m (by omega) (by omega) (by unfold isI; omega) hB zFr.refl) (fun q => by omega)
    | succ j ih => 
      intro t a ht h1 ha
      have p6 : 3 ^ (t - 1) ≤ 729 := Nat.le_trans (Nat.pow_le_pow_right (by omega) (show t - 1 ≤ 6 by omega)) (by decide)
      have ha2 : a ≤ 729 := Nat.le_trans ha p6
      clear p6
      refine zb104_4 hT rfl hB (by omega) (by omega) (by omega) (fun _ => all a 0 a (-1) m (by omega) (by omega) (by unfold isI; omega) hB zFr.refl) (fun q => ?_)
      have e1 : a * w ≤ 3 ^ (t - 1) * 3 := Nat.mul_le_mul ha hw.2
      rw [show (a : Int) * (w : Int) = ((a * w : Nat) : Int) from (Int.natCast_mul a w).symm]
      refine ih (t + 1) (a * w) (by omega) (by omega) ?_
      rw [show t + 1 - 1 = (t - 1) + 1 by omega, Nat.pow_succ]
      exact e1
  exact zb104_0 hT hB (by omega) (pw 6 1 1 (by omega) (by omega) (by decide))
noncomputable def ghL : zLs := [(74, some 61), (103, none), (104, none), (105, none)]
theorem z_goHired0 (hT : zRules T) {N w : Nat} (hN7 : N ≤ 7) (hw : 1 ≤ w ∧ w ≤ 3) : ∀ (j : Nat) (D : Nat) (κ : Option zA → zM → Prop) (m : zM) (k : Nat) (t : Int), zB m → m 74 54 = (N : Int) → k + j = N → isI t → (∀ M, zB M → zFr (inL ghL) m M → κ none M) →
    T (D + j + 1) 284 (0, [(0, zr 74), (1, zi (k : Int)), (2, zi (w : Int)), (3, zi t)], [], m) κ := by
  intro j
  induction j with
  | zero =>
    intro D κ m k t hB hN hkj ht hk
    refine zb284_0 (D := D) hT hB (by omega) (by omega) ht (fun _ q => by omega) (fun _ _ hz => ?_) (fun _ => hk m hB zFr.refl)
    have key : ∀ (i c : Nat) (M : zM), c + i = N → zB M → zFr (inL ghL) m M → T (D + 1) 284 (25, [(0, zr 74), (4, zi (c : Int))], [], M) κ := by
      intro i
      induction i with
      | zero =>
        intro c M hc hBM hF
        have e54 : M 74 54 = (N : Int) := (hF 74 54 rfl).trans hN
        exact zb284_25 (D := D) hT rfl hBM (by omega) (fun _ => hk M hBM hF) (fun q => by omega)
      | succ i ih =>
        intro c M hc hBM hF
        have e54 : M 74 54 = (N : Int) := (hF 74 54 rfl).trans hN
        exact zb284_25 (D := D) hT rfl hBM (by omega) (fun q => by omega) (fun _ hz2 => ih (c + 1) _ (by omega) hz2 (hF.set rfl))
    exact key N 0 _ (by omega) hz (zFr.refl.set rfl)
  | succ j ih =>
    intro D κ m k t hB hN hkj ht hk
    have loop : ∀ (i c : Nat) (M : zM), c + i = w → zB M → zFr (inL ghL) m M → T (D + (j + 1) + 1) 284 (58, [(0, zr 74), (1, zi (k : Int)), (2, zi (w : Int)), (3, zi t), (4, zi (c : Int))], [], M) κ := by
      intro i
      induction i with
      | zero =>
        intro c M hc hBM hF
        exact zb284_58 (D := D + j + 1) hT rfl hBM (by omega) (by omega) ht (by omega) (fun _ => hk M hBM hF) (fun q => by omega) (fun q => by omega)
      | succ i ih2 =>
        intro c M hc hBM hF
        have e54 : M 74 54 = (N : Int) := (hF 74 54 rfl).trans hN
        have go : ∀ t2 : Int, isI t2 → zB (zu (zu M 104 k (c : Int)) 103 c ((M 103 c) + (M 100 (2 * k)))) → T (D + j + 1) 284 (0, [(0, zr 74), (1, zi ((k : Int) + 1)), (2, zi (w : Int)), (3, zi t2)], [], (zu (zu M 104 k (c : Int)) 103 c ((M 103 c) + (M 100 (2 * k))))) (fun r m1 => T (D + (j + 1) + 1) 284 (109, [(0, zr 74), (1, zi (k : Int)), (2, zi (w : Int)), (3, zi t), (4, zi (c : Int))], r.toList ++ [], m1) κ) := by
          intro t2 ht2 hz
          refine ih D _ _ (k + 1) t2 hz (by rw [zu_dn (by omega), zu_dn (by omega), e54]) (by omega) ht2 (fun M2 hB2 hF2 => ?_)
          exact zb284_109 (D := D + j + 1) hT rfl hB2 (by omega) (by omega) ht (by omega) (fun hz2 => ih2 (c + 1) _ (by omega) hz2 ((((hF.set rfl).set rfl).trans hF2).set rfl))
        exact zb284_58 (D := D + j + 1) hT rfl hBM (by omega) (by omega) ht (by omega) (fun q => by omega) (fun _ _ hz => go _ (wrB _) hz) (fun _ _ hz => go t ht hz)
    exact zb284_0 (D := D + j + 1) hT hB (by omega) (by omega) ht (fun _ _ => loop w 0 m (by omega) hB zFr.refl) (fun _ q => by omega) (fun _ => hk m hB zFr.refl)
theorem w_hired0 (hT : zRules T) {v : Int} (hv : isI v) : Way T 157 285 [(0, zr 1), (1, zi v)] [(0, zr 74), (1, zi v)] 5 9 B B False := by
  rintro D m sc ⟨n, k, hI⟩ κ hκ
  have hI0 := hI
  obtain ⟨i1, i2, i3, i4, i5, i6, i7, i8, i9, i10, i11⟩ := hI
  have b64 : 0 ≤ m 64 2 ∧ m 64 2 ≤ 7 := i1 64 2
  obtain ⟨N, hN⟩ : ∃ N : Nat, m 64 2 = (N : Int) := ⟨(m 64 2).toNat, by omega⟩
  have ref : ∀ (r : Option zA) (M0 : zM), zB M0 → Agree coreK m M0 → κ r M0 := by
    intro r M0 hB0 hA0
    refine hκ _ _ (fun D2 κ2 h2 => ?_)
    have t12 : Agree coreK m (zu M0 74 12 0) := hA0.trans (.of (L := [(74, some 12)]) (zFr.refl.set rfl) rfl)
    have fin : ∀ r2 M1, zB M1 → Agree coreK m M1 → κ2 r2 M1 := fun r2 M1 hB1 hA1 => h2 _ _ (fun x => x.elim) ⟨n, k, Inv_fr hA1 hB1 hI0⟩
    refine zb285_0 (D := D2 + 7) hT hB0 hv (fun _ hz => fin _ _ hz t12) (fun _ _ hz => fin _ _ hz t12) (fun q1 q2 hz => ?_)
    obtain ⟨w, rfl⟩ : ∃ w : Nat, v = (w : Int) := ⟨v.toNat, by omega⟩
    have hA1 : Agree coreK m (zu (zu M0 74 12 0) 74 61 100000000) := t12.trans (.of (L := [(74, some 61)]) (zFr.refl.set rfl) rfl)
    have e54 : (zu (zu M0 74 12 0) 74 61 100000000) 74 54 = (N : Int) := by rw [hA1 74 54 rfl, i9.1, hN]
    have hgo := z_goHired0 (N := N) (w := w) hT (by omega) (by omega) N (D2 + (7 - N)) (fun r m1 => T (D2 + 7 + 2) 285 (30, [(0, zr 74), (1, zi (w : Int))], r.toList ++ [], m1) κ2) _ 0 0 hz e54 (by omega) (by unfold isI; omega)
    rw [show D2 + (7 - N) + N + 1 = D2 + 7 + 1 by omega] at hgo
    refine hgo (fun M hBM hF => ?_)
    have hA2 : Agree coreK m M := hA1.trans (.of hF rfl)
    refine zb285_30 (D := D2 + 7) hT rfl hBM (fun hz2 => ?_)
    have loop : ∀ (i c : Nat) (M2 : zM), c + i = N → zB M2 → M2 74 11 = (c : Int) → Agree coreK m M2 → T (D2 + 7 + 2) 285 (37, [(0, zr 74), (2, zi (c : Int))], [], M2) κ2 := by
      intro i
      induction i with
      | zero =>
        intro c M2 hc hB2 h11 hA3
        have e54 : M2 74 54 = (N : Int) := by rw [hA3 74 54 rfl, i9.1, hN]
        exact zb285_37 (D := D2 + 7) hT rfl hB2 (by omega) (fun _ => fin _ _ hB2 hA3) (fun q => by omega) (fun q => by omega)
      | succ i ih =>
        intro c M2 hc hB2 h11 hA3
        have e54 : M2 74 54 = (N : Int) := by rw [hA3 74 54 rfl, i9.1, hN]
        refine zb285_37 (D := D2 + 7) hT rfl hB2 (by omega) (fun q => by omega) (fun _ => by omega) (fun _ => ?_)
        refine ih (c + 1) _ (by omega) (zB_u (zB_u hB2 trivial) ?_) (by rw [zu_sm rfl, h11]; omega) (hA3.trans (.of (L := [(74, some 11), (81, none)]) ((zFr.refl.set rfl).set rfl) rfl))
        show 0 ≤ M2 74 11 + 1 ∧ M2 74 11 + 1 ≤ 32
        omega
    exact loop N 0 _ (by omega) hz2 (by rw [zu_sm rfl]; rfl) (hA2.trans (.of (L := [(74, some 11)]) (zFr.refl.set rfl) rfl))
  refine zb157_0 hT i1 hv (fun _ => ref _ _ i1 (fun _ _ _ => rfl)) (fun q1 q2 => ?_) (fun _ _ => ref _ _ i1 (fun _ _ _ => rfl))
  obtain ⟨w, rfl⟩ : ∃ w : Nat, v = (w : Int) := ⟨v.toNat, by omega⟩
  refine z_share0 hT i1 (by omega) (fun r M hr hBM hF => ?_)
  refine zb157_20 hT rfl hBM hr ?_
  rw [hF 64 2 rfl, hN]
  have hA : Agree coreK m M := .of hF rfl
  refine zb48_0_67 (D := D + 2) hT hBM (by omega) (fun _ hz => ?_) (fun _ hz => ?_)
  · exact zb157_42 hT rfl hr (ref _ _ hz (hA.trans (.of (L := [(72, some 1), (73, none)]) ((zFr.refl.set rfl).cp (fun _ => rfl)) rfl)))
  · exact zb157_42 hT rfl hr (ref _ _ hz (hA.trans (.of (L := [(72, some 1), (73, none)]) ((zFr.refl.set rfl).cp (fun _ => rfl)) rfl)))
end ZHired
