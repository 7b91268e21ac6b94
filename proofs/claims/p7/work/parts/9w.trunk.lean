/-! trunk(): it ends, and leaves what matters. -/
section ZTrunk
variable {T : Nat → Nat → zG → (Option zA → zM → Prop) → Prop} {B : Int}
theorem z_changes0 (hT : zRules T) {D : Nat} {κ : Option zA → zM → Prop} {m : zM} {c : Nat} {h : Int} (hB : zB m) (hc : c ≤ 26) (hh : 0 ≤ h ∧ h ≤ 9) (hk : ∀ v : Int, isI v → κ (some (zi v)) m) : T (D + 2) 94 (0, [(0, zr 52), (1, zi (c : Int)), (2, zi h)], [], m) κ := by
  have b52 : 0 ≤ m 52 1 ∧ m 52 1 ≤ 60 := hB 52 1
  have sf : ∀ (κ2 : Option zA → zM → Prop) (v : Int), (0 ≤ v ∧ v ≤ 99) → (∀ r : Int, isI r → κ2 (some (zi r)) m) → T (D + 1) 95 (0, [(0, zr 52), (1, zi v), (2, zi (c : Int))], [], m) κ2 := by
    intro κ2 v hv hk2
    have loop : ∀ (j i : Nat), i + j = c → T (D + 1) 95 (2, [(0, zr 52), (1, zi v), (2, zi (c : Int)), (3, zi (i : Int))], [], m) κ2 := by
      intro j
      induction j with
      | zero =>
        intro i hi
        exact zb95_2 hT rfl hB hv hc (by omega) (fun _ => hk2 (-1) (by unfold isI; omega)) (fun q => by omega) (fun q => by omega)
      | succ j ih =>
        intro i hi
        exact zb95_2 hT rfl hB hv hc (by omega) (fun q => by omega) (fun _ _ => ih (i + 1) (by omega)) (fun _ _ => hk2 _ (wrB _))
    exact zb95_0 hT hB hv hc (loop c 0 (by omega))
  have loop : ∀ (j i n : Nat) (a : Int), i + j = 60 → n ≤ i → isI a → T (D + 2) 94 (8, [(0, zr 52), (1, zi (c : Int)), (2, zi h), (3, zi (n : Int)), (4, zi a), (5, zi (i : Int))], [], m) κ := by
    intro j
    induction j with
    | zero =>
      intro i n a hi hn ha
      have rn : isI (n : Int) := by unfold isI; omega
      exact zb94_8 hT rfl hB hc hh (by omega) ha (by omega) (fun _ => hk n rn) (fun q => by omega) (fun q => by omega) (fun q => by omega) (fun q => by omega)
    | succ j ih =>
      intro i n a hi hn ha
      have rn : isI (n : Int) := by unfold isI; omega
      have b53 : 0 ≤ m 53 i ∧ m 53 i ≤ 99 := hB 53 i
      have go : T (D + 1) 95 (0, [(0, zr 52), (1, zi (m 53 i)), (2, zi (c : Int))], [], m) (fun r m1 => T (D + 2) 94 (50, [(0, zr 52), (1, zi (c : Int)), (2, zi h), (3, zi (n : Int)), (4, zi a), (5, zi (i : Int))], r.toList ++ [], m1) κ) := by
        refine sf _ _ b53 (fun r hr => ?_)
        refine zb94_50 hT rfl hB hc hh (by omega) (by omega) hr (fun _ => ?_) (fun _ => ?_)
        · exact ih (i + 1) (n + 1) r (by omega) (by omega) hr
        · rw [Int.add_zero]
          exact ih (i + 1) n r (by omega) (by omega) hr
      exact zb94_8 hT rfl hB hc hh (by omega) ha (by omega) (fun _ => hk n rn) (fun _ _ => go) (fun _ _ _ => go) (fun _ _ _ _ => go) (fun _ _ _ _ => ih (i + 1) n a (by omega) (by omega) ha)
  exact zb94_0 hT hB hc hh (loop 60 0 0 (-1) (by omega) (by omega) (by unfold isI; omega))
theorem w_trunk0 (hT : zRules T) {v : Int} (hv : isI v) : Way T 147 272 [(0, zr 1), (1, zi v)] [(0, zr 74), (1, zi v)] 7 172 B B False := by
  rintro D m sc ⟨n, k, hI⟩ κ hκ
  have hI0 := hI
  have i1 := hI.1
  have b17 : 0 ≤ m 17 0 ∧ m 17 0 ≤ 6 := i1 17 0
  obtain ⟨n1, n2⟩ := hI.2.2.2.1.1
  have ref : ∀ (r : Option zA) (M0 : zM), zB M0 → Agree noT m M0 → M0 2 1 = 0 → κ r M0 := by
    intro r M0 hB0 hA0 e21
    refine hκ _ _ (fun D2 κ2 h2 => ?_)
    have fin : ∀ r2 M1, zB M1 → Agree noT m M1 → M1 2 1 = 0 → M1 74 9 = 0 → κ2 r2 M1 := fun r2 M1 hB1 hA1 f1 f2 => h2 _ _ (fun x => x.elim) ⟨n, k, Inv_nt hI0 hB1 hA1 f1 f2⟩
    refine zb272_0 (D := D2 + 166) hT hB0 hv (fun hz => ?_)
    have hA1 : Agree noT m (zu M0 74 12 0) := hA0.trans (.of (L := [(74, some 12)]) (zFr.refl.set rfl) rfl)
    have e21b : (zu M0 74 12 0) 2 1 = 0 := by rw [zu_dn (by omega), e21]
    generalize zu M0 74 12 0 = M at hz hA1 e21b ⊢
    have hAL : Agree KL m M := hA1.sub (fun q hq => List.mem_append.mpr (Or.inl hq))
    refine z_readWayR0 (n := n) hT hz (hAL.law.1 hI.2.2.1) ((hA1 74 4 rfl).trans n2) (by omega) hv (fun s M1 hs hB1 hF1 h9 => ?_)
    have hA2 : Agree noT m M1 := hA1.trans (.of hF1 rfl)
    have f21 : M1 2 1 = 0 := by rw [hF1 2 1 rfl, e21b]
    refine zb272_10 (D := D2 + 166) hT rfl hB1 hs (fun _ => ?_) (fun _ => fin _ _ hB1 hA2 f21 h9)
    have b49 : 0 ≤ M1 74 49 ∧ M1 74 49 ≤ 26 := hB1 74 49
    obtain ⟨N, hN⟩ : ∃ N : Nat, M1 74 49 = (N : Int) := ⟨(M1 74 49).toNat, by omega⟩
    refine z_findTaken0 (D := D2 + 166) (N := N) hT hB1 hN (by omega) (fun c M3 hc hB3 hF3 hdone => ?_)
    have b79 : 0 ≤ M1 79 0 ∧ M1 79 0 ≤ 9 := hB1 79 0
    have hA3 : Agree noT m M3 := hA2.trans (.of hF3 rfl)
    have g21 : M3 2 1 = 0 := by rw [hF3 2 1 rfl, f21]
    have g9 : M3 74 9 = 0 := by rw [hF3 74 9 rfl, h9]
    have g49 : M3 74 49 = (N : Int) := (hF3 74 49 rfl).trans hN
    have g97 : ∀ j, M3 97 j = M1 97 j := fun j => hF3 97 j rfl
    have g79 : M3 79 0 = M1 79 0 := hF3 79 0 rfl
    refine zb272_21 (D := D2 + 166) hT rfl hB3 (by omega) ?_
    have third : ∀ (j t : Nat) (s o y : Int), t + j = N → (-1 ≤ y ∧ y + 1 ≤ t) → T (D2 + 172) 272 (61, [(0, zr 74), (4, zi s), (5, zi y), (6, zi o), (7, zi (t : Int))], [], M3) κ2 := by
      intro j
      induction j with
      | zero =>
        intro t s o y ht hy
        refine zb272_61 (D := D2 + 166) hT rfl hB3 (by omega) (by omega) (fun _ hz2 => ?_) (fun q => by omega) (fun q => by omega) (fun q => by omega) (fun q => by omega)
        refine fin _ _ hz2 (hA3.trans (.of (L := [(74, some 11), (81, none)]) (((zFr.refl.set rfl).set rfl).set rfl) rfl)) ?_ ?_
        · rw [zu_dn (by omega), zu_dn (by omega), zu_dn (by omega), g21]
        · rw [zu_off (by omega), zu_dn (by omega), zu_off (by omega), g9]
      | succ j ih =>
        intro t s o y ht hy
        have find : T (D2 + 172) 272 (98, [(0, zr 74), (4, zi s), (5, zi y), (7, zi (t : Int)), (8, zi 0)], [], M3) κ2 := by
          obtain ⟨i0, q1, q2, q3⟩ := y_done (L := M1 97) (T := tkT M3) (m := M1 79 0) (n := (N : Int)) (q := (c : Int)) b79.1 (fun k _ => hB1 97 k) hdone t (by omega)
          have loop : ∀ (d i : Nat), i + d = i0 → T (D2 + 172) 272 (98, [(0, zr 74), (4, zi s), (5, zi y), (7, zi (t : Int)), (8, zi (i : Int))], [], M3) κ2 := by
            intro d
            induction d with
            | zero =>
              intro i hi
              have : i = i0 := by omega
              subst this
              have e1 : M1 97 t ≤ wr (M3 98 i) := q2
              have e2 : wr (M3 98 i) ≤ M1 97 t + M1 79 0 := q3
              rw [← g97] at e1 e2
              rw [← g79] at e2
              exact zb272_98 (D := D2 + 166) hT rfl hB3 (by omega) (by omega) (by omega) (fun q => by omega) (fun _ q => by omega) (fun _ _ => ih (t + 1) s _ (y + 1) (by omega) (by omega))
            | succ d ih2 =>
              intro i hi
              exact zb272_98 (D := D2 + 166) hT rfl hB3 (by omega) (by omega) (by omega) (fun _ => ih2 (i + 1) (by omega)) (fun _ _ => ih2 (i + 1) (by omega)) (fun _ _ => ih (t + 1) s _ (y + 1) (by omega) (by omega))
          exact loop i0 0 (by omega)
        exact zb272_61 (D := D2 + 166) hT rfl hB3 (by omega) (by omega) (fun q => by omega) (fun _ _ => find) (fun _ _ _ => find) (fun _ _ _ _ => find) (fun _ _ _ _ => ih (t + 1) s o y (by omega) (by omega))
    have second : ∀ (j i : Nat) (s : Int), i + j = c → T (D2 + 172) 272 (28, [(0, zr 74), (3, zi (c : Int)), (4, zi s), (5, zi (i : Int))], [], M3) κ2 := by
      intro j
      induction j with
      | zero =>
        intro i s hi
        exact zb272_28 (D := D2 + 166) hT rfl hB3 (by omega) (by omega) (fun _ => third N 0 s (-1) (-1) (by omega) (by omega)) (fun q => by omega)
      | succ j ih =>
        intro i s hi
        exact zb272_28 (D := D2 + 166) hT rfl hB3 (by omega) (by omega) (fun q => by omega) (fun _ => ih (i + 1) _ (by omega))
    exact second c 0 0 (by omega)
  refine zb147_0 hT i1 hv ?_
  refine z_readWayC0 hT hI0 hv (fun r M hr hBM hF e21 h26 => ?_)
  have hA : Agree noT m M := .of hF rfl
  refine zb147_5 hT rfl hBM hr (fun r0 => ?_) (fun _ => ref _ _ hBM hA e21)
  have b24 : 0 ≤ M 24 0 ∧ M 24 0 ≤ 9 := hBM 24 0
  refine z_packFew0 (D := D + 2) hT hBM b24 (fun c M2 hc hB2 hF2 => ?_)
  have h52 := h26 r0
  have hA2 : Agree noT m M2 := hA.trans (.of hF2 rfl)
  have g21 : M2 2 1 = 0 := by rw [hF2 2 1 rfl, e21]
  have c24 : 0 ≤ M2 24 0 ∧ M2 24 0 ≤ 9 := hB2 24 0
  refine zb147_26 hT rfl hB2 (by omega) ?_
  have loop : ∀ (j i : Nat) (s : Int), i + j = c → T (D + 7) 147 (33, [(0, zr 1), (3, zi (c : Int)), (4, zi s), (5, zi (i : Int))], [], M2) κ := by
    intro j
    induction j with
    | zero =>
      intro i s hi
      refine zb147_33 hT rfl hB2 (by omega) (by omega) (fun _ => ?_) (fun q => by omega)
      refine z_changes0 (D := D + 4) hT hB2 (by omega) c24 (fun x hx => ?_)
      refine zb147_79 hT rfl hB2 hx (fun hz => ref _ _ hz (hA2.trans (.of (L := [(72, some 1), (73, none)]) ((zFr.refl.set rfl).set rfl) rfl)) ?_)
      rw [zu_dn (by omega), zu_dn (by omega), g21]
    | succ j ih =>
      intro i s hi
      exact zb147_33 hT rfl hB2 (by omega) (by omega) (fun q => by omega) (fun _ => ih (i + 1) _ (by omega))
  exact loop c 0 0 (by omega)
end ZTrunk
