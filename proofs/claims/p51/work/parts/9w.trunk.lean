/-! trunk(): it ends, and leaves what matters. -/
section ZTrunk
variable {T : Nat → Nat → zG → (Option zA → zM → Prop) → Prop} {B : Int}
theorem z_changes0 (hT : zRules T) {D : Nat} {κ : Option zA → zM → Prop} {m : zM} {c : Nat} {h : Int} (hB : zB m) (hc : c ≤ 26) (hh : 0 ≤ h ∧ h ≤ 9) (hk : ∀ v : Int, isI v → κ (some (zi v)) m) : T (D + 2) 94 (0, [(0, zr 52), (1, zi (c : Int)), (2, zi h)], [], m) κ := by
  have b52 : 0 ≤ m 52 1 ∧ m 52 1 ≤ 60 := hB 52 1
  have sf : ∀ (κ2 : Option zA → zM → Prop) (v : Int), (0 ≤ v ∧ v ≤ 99) → (∀ r : Int, isI r → κ2 (some (zi r)) m) → T (D + 1) 95 (0, [(0, zr 52), (1, zi v), (2, zi (c : Int))], [], m) κ2 := by
    intro κ2 v hv hk2
    have loop : ∀ (j i : Nat), i + j = c → T (D + 1) 95 (2, [(0, zr 52), (1, zi v), (2, zi (c : Int)), (3, zi (i : Int))], [], m) κ2 := by
      intro j
      induction j with
      | zero =>
        intro i hi
        exact zb95_2 hT rfl hB hv hc (by omega) (fun _ => hk2 (-1) (by unfold isI; omega)) (fun q => by omega) (fun q => by omega)
      | succ j ih =>
        intro i hi
        exact zb95_2 hT rfl hB hv hc (by omega) (fun q => by omega) (fun _ _ => ih (i + 1) (by omega)) (fun _ _ => hk2 _ (wrB _))
    exact zb95_0 hT hB hv hc (loop c 0 (by omega))
  have loop : ∀ (j i n : Nat) (a : Int), i + j = 60 → n ≤ i → isI a → T (D + 2) 94 (8, [(0, zr 52), (1, zi (c : Int)), (2, zi h), (3, zi (n : Int)), (4, zi a), (5, zi (i : Int))], [], m) κ := by
    intro j
    induction j with
    | zero =>
      intro i n a hi hn ha
      have rn : isI (n : Int) := by unfold isI; omega
      exact zb94_8 hT rfl hB hc hh (by omega) ha (by omega) (fun _ => hk n rn) (fun q => by omega) (fun q => by omega) (fun q => by omega) (fun q => by omega)
    | succ j ih =>
      intro i n a hi hn ha
      have rn : isI (n : Int) := by unfold isI; omega
      have b53 : 0 ≤ m 53 i ∧ m 53 i ≤ 99 := hB 53 i
      have go : T (D + 1) 95 (0, [(0, zr 52), (1, zi (m 53 i)), (2, zi (c : Int))], [], m) (fun r m1 => T (D + 2) 94 (50, [(0, zr 52), (1, zi (c : Int)), (2, zi h), (3, zi (n : Int)), (4, zi a), (5, zi (i : Int))], r.toList ++ [], m1) κ) := by
        refine sf _ _ b53 (fun r hr => ?_)
        refine zb94_50 hT rfl hB hc hh (by omega) (by omega) hr (fun _ => ?_) (fun _ => ?_)
        · exact ih (i + 1) (n + 1) r (by omega) (by omega) hr
        · rw [Int.add_zero]
          exact ih (i + 1) n r (by omega) (by omega) hr
      exact zb94_8 hT rfl hB hc hh (by omega) ha (by omega) (fun _ => hk n rn) (fun _ _ => go) (fun _ _ _ => go) (fun _ _ _ _ => go) (fun _ _ _ _ => ih (i + 1) n a (by omega) (by omega) ha)
  exact zb94_0 hT hB hc hh (loop 60 0 0 (-1) (by omega) (by omega) (by unfold isI; omega))
end ZTrunk
