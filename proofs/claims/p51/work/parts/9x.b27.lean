section ZBlocks
variable {T : Nat → Nat → zG → (Option zA → zM → Prop) → Prop}
theorem zb108_0r (hT : zRules T) {D : Nat} {κ : Option zA → zM → Prop} {m : zM} {i : Nat} 
    (o1 : ∀ j, zbd 3 j (m 3 j))
    (o2 : (0 ≤ (m 2 3) ∧ (m 2 3) ≤ 1000))
    (o3 : (0 ≤ (m 2 2) ∧ (m 2 2) ≤ 80))
    (o4 : (0 ≤ wr (i : Int) ∧ wr (i : Int) < 30))
    (o5 : ∀ j, zbd 3 j ((zu m 49 ((wr (i : Int)).toNat) (nxC m)) 3 j))
    (o6 : (0 ≤ (m 2 3) ∧ (m 2 3) ≤ 1000))
    (o7 : (0 ≤ (m 2 2) ∧ (m 2 2) ≤ 80))
    (o8 : wr (nxC (zu m 49 ((wr (i : Int)).toNat) (nxC m))) = 107 → T (D + 2) 109 (0, [(0, zr 48), (1, zr 2), (2, zi (i : Int))], [], (zu (zu m 49 ((wr (i : Int)).toNat) (nxC m)) 2 3 ((m 2 3) + 1))) (fun r m1 => T (D + 3) 108 (25, [(0, zr 48), (1, zr 2), (2, zi (i : Int))], r.toList ++ [], m1) κ))
    (o9 : ¬ wr (nxC (zu m 49 ((wr (i : Int)).toNat) (nxC m))) = 107 → ∀ j, zbd 3 j ((zu m 49 ((wr (i : Int)).toNat) (nxC m)) 3 j))
    (o10 : ¬ wr (nxC (zu m 49 ((wr (i : Int)).toNat) (nxC m))) = 107 → (0 ≤ (m 2 3) ∧ (m 2 3) ≤ 1000))
    (o11 : ¬ wr (nxC (zu m 49 ((wr (i : Int)).toNat) (nxC m))) = 107 → (0 ≤ (m 2 2) ∧ (m 2 2) ≤ 80))
    (o12 : ¬ wr (nxC (zu m 49 ((wr (i : Int)).toNat) (nxC m))) = 107 → wr (nxC (zu m 49 ((wr (i : Int)).toNat) (nxC m))) = 119 → ∀ j, zbd 3 j ((zu (zu m 49 ((wr (i : Int)).toNat) (nxC m)) 2 3 ((m 2 3) + 1)) 3 j))
    (o13 : ¬ wr (nxC (zu m 49 ((wr (i : Int)).toNat) (nxC m))) = 107 → wr (nxC (zu m 49 ((wr (i : Int)).toNat) (nxC m))) = 119 → (0 ≤ ((m 2 3) + 1) ∧ ((m 2 3) + 1) ≤ 1000))
    (o14 : ¬ wr (nxC (zu m 49 ((wr (i : Int)).toNat) (nxC m))) = 107 → wr (nxC (zu m 49 ((wr (i : Int)).toNat) (nxC m))) = 119 → (0 ≤ (m 2 2) ∧ (m 2 2) ≤ 80))
    (o15 : ¬ wr (nxC (zu m 49 ((wr (i : Int)).toNat) (nxC m))) = 107 → wr (nxC (zu m 49 ((wr (i : Int)).toNat) (nxC m))) = 119 → wr (nxC (zu (zu m 49 ((wr (i : Int)).toNat) (nxC m)) 2 3 ((m 2 3) + 1))) < 48 → (0 ≤ wr (i : Int) ∧ wr (i : Int) < 30))
    (o16 : ¬ wr (nxC (zu m 49 ((wr (i : Int)).toNat) (nxC m))) = 107 → wr (nxC (zu m 49 ((wr (i : Int)).toNat) (nxC m))) = 119 → wr (nxC (zu (zu m 49 ((wr (i : Int)).toNat) (nxC m)) 2 3 ((m 2 3) + 1))) < 48 → (0 ≤ wr (i : Int) ∧ wr (i : Int) < 30))
    (o17 : ¬ wr (nxC (zu m 49 ((wr (i : Int)).toNat) (nxC m))) = 107 → wr (nxC (zu m 49 ((wr (i : Int)).toNat) (nxC m))) = 119 → wr (nxC (zu (zu m 49 ((wr (i : Int)).toNat) (nxC m)) 2 3 ((m 2 3) + 1))) < 48 → wr ((zu (zu (zu m 49 ((wr (i : Int)).toNat) (nxC m)) 2 3 ((m 2 3) + 1)) 50 ((wr (i : Int)).toNat) (-1)) 50 ((wr (i : Int)).toNat)) = (-1) → κ (some (zi 0)) (zu (zu (zu m 49 ((wr (i : Int)).toNat) (nxC m)) 2 3 ((m 2 3) + 1)) 50 ((wr (i : Int)).toNat) (-1)))
    (o18 : ¬ wr (nxC (zu m 49 ((wr (i : Int)).toNat) (nxC m))) = 107 → wr (nxC (zu m 49 ((wr (i : Int)).toNat) (nxC m))) = 119 → wr (nxC (zu (zu m 49 ((wr (i : Int)).toNat) (nxC m)) 2 3 ((m 2 3) + 1))) < 48 → ¬ wr ((zu (zu (zu m 49 ((wr (i : Int)).toNat) (nxC m)) 2 3 ((m 2 3) + 1)) 50 ((wr (i : Int)).toNat) (-1)) 50 ((wr (i : Int)).toNat)) = (-1) → False)
    (o19 : ¬ wr (nxC (zu m 49 ((wr (i : Int)).toNat) (nxC m))) = 107 → wr (nxC (zu m 49 ((wr (i : Int)).toNat) (nxC m))) = 119 → ¬ wr (nxC (zu (zu m 49 ((wr (i : Int)).toNat) (nxC m)) 2 3 ((m 2 3) + 1))) < 48 → ¬ 57 < wr (nxC (zu (zu m 49 ((wr (i : Int)).toNat) (nxC m)) 2 3 ((m 2 3) + 1))) → (0 ≤ wr (i : Int) ∧ wr (i : Int) < 30))
    (o20 : ¬ wr (nxC (zu m 49 ((wr (i : Int)).toNat) (nxC m))) = 107 → wr (nxC (zu m 49 ((wr (i : Int)).toNat) (nxC m))) = 119 → ¬ wr (nxC (zu (zu m 49 ((wr (i : Int)).toNat) (nxC m)) 2 3 ((m 2 3) + 1))) < 48 → ¬ 57 < wr (nxC (zu (zu m 49 ((wr (i : Int)).toNat) (nxC m)) 2 3 ((m 2 3) + 1))) → (0 ≤ wr (i : Int) ∧ wr (i : Int) < 30))
    (o21 : ¬ wr (nxC (zu m 49 ((wr (i : Int)).toNat) (nxC m))) = 107 → wr (nxC (zu m 49 ((wr (i : Int)).toNat) (nxC m))) = 119 → ¬ wr (nxC (zu (zu m 49 ((wr (i : Int)).toNat) (nxC m)) 2 3 ((m 2 3) + 1))) < 48 → ¬ 57 < wr (nxC (zu (zu m 49 ((wr (i : Int)).toNat) (nxC m)) 2 3 ((m 2 3) + 1))) → wr ((zu (zu (zu (zu m 49 ((wr (i : Int)).toNat) (nxC m)) 2 3 ((m 2 3) + 1)) 2 3 (((m 2 3) + 1) + 1)) 50 ((wr (i : Int)).toNat) (wr ((nxC (zu (zu m 49 ((wr (i : Int)).toNat) (nxC m)) 2 3 ((m 2 3) + 1))) - 48))) 50 ((wr (i : Int)).toNat)) = (-1) → False)
    (o22 : ¬ wr (nxC (zu m 49 ((wr (i : Int)).toNat) (nxC m))) = 107 → wr (nxC (zu m 49 ((wr (i : Int)).toNat) (nxC m))) = 119 → ¬ wr (nxC (zu (zu m 49 ((wr (i : Int)).toNat) (nxC m)) 2 3 ((m 2 3) + 1))) < 48 → ¬ 57 < wr (nxC (zu (zu m 49 ((wr (i : Int)).toNat) (nxC m)) 2 3 ((m 2 3) + 1))) → ¬ wr ((zu (zu (zu (zu m 49 ((wr (i : Int)).toNat) (nxC m)) 2 3 ((m 2 3) + 1)) 2 3 (((m 2 3) + 1) + 1)) 50 ((wr (i : Int)).toNat) (wr ((nxC (zu (zu m 49 ((wr (i : Int)).toNat) (nxC m)) 2 3 ((m 2 3) + 1))) - 48))) 50 ((wr (i : Int)).toNat)) = (-1) → T (D + 2) 110 (0, [(0, zr 48), (1, zr 2), (2, zi (i : Int))], [], (zu (zu (zu (zu m 49 ((wr (i : Int)).toNat) (nxC m)) 2 3 ((m 2 3) + 1)) 2 3 (((m 2 3) + 1) + 1)) 50 ((wr (i : Int)).toNat) (wr ((nxC (zu (zu m 49 ((wr (i : Int)).toNat) (nxC m)) 2 3 ((m 2 3) + 1))) - 48)))) (fun r m1 => T (D + 3) 108 (84, [(0, zr 48), (1, zr 2), (2, zi (i : Int))], r.toList ++ [], m1) κ))
    (o23 : ¬ wr (nxC (zu m 49 ((wr (i : Int)).toNat) (nxC m))) = 107 → wr (nxC (zu m 49 ((wr (i : Int)).toNat) (nxC m))) = 119 → ¬ wr (nxC (zu (zu m 49 ((wr (i : Int)).toNat) (nxC m)) 2 3 ((m 2 3) + 1))) < 48 → 57 < wr (nxC (zu (zu m 49 ((wr (i : Int)).toNat) (nxC m)) 2 3 ((m 2 3) + 1))) → (0 ≤ wr (i : Int) ∧ wr (i : Int) < 30))
    (o24 : ¬ wr (nxC (zu m 49 ((wr (i : Int)).toNat) (nxC m))) = 107 → wr (nxC (zu m 49 ((wr (i : Int)).toNat) (nxC m))) = 119 → ¬ wr (nxC (zu (zu m 49 ((wr (i : Int)).toNat) (nxC m)) 2 3 ((m 2 3) + 1))) < 48 → 57 < wr (nxC (zu (zu m 49 ((wr (i : Int)).toNat) (nxC m)) 2 3 ((m 2 3) + 1))) → (0 ≤ wr (i : Int) ∧ wr (i : Int) < 30))
    (o25 : ¬ wr (nxC (zu m 49 ((wr (i : Int)).toNat) (nxC m))) = 107 → wr (nxC (zu m 49 ((wr (i : Int)).toNat) (nxC m))) = 119 → ¬ wr (nxC (zu (zu m 49 ((wr (i : Int)).toNat) (nxC m)) 2 3 ((m 2 3) + 1))) < 48 → 57 < wr (nxC (zu (zu m 49 ((wr (i : Int)).toNat) (nxC m)) 2 3 ((m 2 3) + 1))) → wr ((zu (zu (zu m 49 ((wr (i : Int)).toNat) (nxC m)) 2 3 ((m 2 3) + 1)) 50 ((wr (i : Int)).toNat) (-1)) 50 ((wr (i : Int)).toNat)) = (-1) → κ (some (zi 0)) (zu (zu (zu m 49 ((wr (i : Int)).toNat) (nxC m)) 2 3 ((m 2 3) + 1)) 50 ((wr (i : Int)).toNat) (-1)))
    (o26 : ¬ wr (nxC (zu m 49 ((wr (i : Int)).toNat) (nxC m))) = 107 → wr (nxC (zu m 49 ((wr (i : Int)).toNat) (nxC m))) = 119 → ¬ wr (nxC (zu (zu m 49 ((wr (i : Int)).toNat) (nxC m)) 2 3 ((m 2 3) + 1))) < 48 → 57 < wr (nxC (zu (zu m 49 ((wr (i : Int)).toNat) (nxC m)) 2 3 ((m 2 3) + 1))) → ¬ wr ((zu (zu (zu m 49 ((wr (i : Int)).toNat) (nxC m)) 2 3 ((m 2 3) + 1)) 50 ((wr (i : Int)).toNat) (-1)) 50 ((wr (i : Int)).toNat)) = (-1) → False)
    (o27 : ¬ wr (nxC (zu m 49 ((wr (i : Int)).toNat) (nxC m))) = 107 → ¬ wr (nxC (zu m 49 ((wr (i : Int)).toNat) (nxC m))) = 119 → ∀ j, zbd 3 j ((zu m 49 ((wr (i : Int)).toNat) (nxC m)) 3 j))
    (o28 : ¬ wr (nxC (zu m 49 ((wr (i : Int)).toNat) (nxC m))) = 107 → ¬ wr (nxC (zu m 49 ((wr (i : Int)).toNat) (nxC m))) = 119 → (0 ≤ (m 2 3) ∧ (m 2 3) ≤ 1000))
    (o29 : ¬ wr (nxC (zu m 49 ((wr (i : Int)).toNat) (nxC m))) = 107 → ¬ wr (nxC (zu m 49 ((wr (i : Int)).toNat) (nxC m))) = 119 → (0 ≤ (m 2 2) ∧ (m 2 2) ≤ 80))
    (o30 : ¬ wr (nxC (zu m 49 ((wr (i : Int)).toNat) (nxC m))) = 107 → ¬ wr (nxC (zu m 49 ((wr (i : Int)).toNat) (nxC m))) = 119 → wr (nxC (zu m 49 ((wr (i : Int)).toNat) (nxC m))) = 103 → ∀ j, zbd 3 j ((zu (zu m 49 ((wr (i : Int)).toNat) (nxC m)) 2 3 ((m 2 3) + 1)) 3 j))
    (o31 : ¬ wr (nxC (zu m 49 ((wr (i : Int)).toNat) (nxC m))) = 107 → ¬ wr (nxC (zu m 49 ((wr (i : Int)).toNat) (nxC m))) = 119 → wr (nxC (zu m 49 ((wr (i : Int)).toNat) (nxC m))) = 103 → (0 ≤ ((m 2 3) + 1) ∧ ((m 2 3) + 1) ≤ 1000))
    (o32 : ¬ wr (nxC (zu m 49 ((wr (i : Int)).toNat) (nxC m))) = 107 → ¬ wr (nxC (zu m 49 ((wr (i : Int)).toNat) (nxC m))) = 119 → wr (nxC (zu m 49 ((wr (i : Int)).toNat) (nxC m))) = 103 → (0 ≤ (m 2 2) ∧ (m 2 2) ≤ 80))
    (o33 : ¬ wr (nxC (zu m 49 ((wr (i : Int)).toNat) (nxC m))) = 107 → ¬ wr (nxC (zu m 49 ((wr (i : Int)).toNat) (nxC m))) = 119 → wr (nxC (zu m 49 ((wr (i : Int)).toNat) (nxC m))) = 103 → wr (nxC (zu (zu m 49 ((wr (i : Int)).toNat) (nxC m)) 2 3 ((m 2 3) + 1))) < 48 → (0 ≤ wr (i : Int) ∧ wr (i : Int) < 30))
    (o34 : ¬ wr (nxC (zu m 49 ((wr (i : Int)).toNat) (nxC m))) = 107 → ¬ wr (nxC (zu m 49 ((wr (i : Int)).toNat) (nxC m))) = 119 → wr (nxC (zu m 49 ((wr (i : Int)).toNat) (nxC m))) = 103 → wr (nxC (zu (zu m 49 ((wr (i : Int)).toNat) (nxC m)) 2 3 ((m 2 3) + 1))) < 48 → (0 ≤ wr (i : Int) ∧ wr (i : Int) < 30))
    (o35 : ¬ wr (nxC (zu m 49 ((wr (i : Int)).toNat) (nxC m))) = 107 → ¬ wr (nxC (zu m 49 ((wr (i : Int)).toNat) (nxC m))) = 119 → wr (nxC (zu m 49 ((wr (i : Int)).toNat) (nxC m))) = 103 → wr (nxC (zu (zu m 49 ((wr (i : Int)).toNat) (nxC m)) 2 3 ((m 2 3) + 1))) < 48 → wr ((zu (zu (zu m 49 ((wr (i : Int)).toNat) (nxC m)) 2 3 ((m 2 3) + 1)) 50 ((wr (i : Int)).toNat) (-1)) 50 ((wr (i : Int)).toNat)) = (-1) → κ (some (zi 0)) (zu (zu (zu m 49 ((wr (i : Int)).toNat) (nxC m)) 2 3 ((m 2 3) + 1)) 50 ((wr (i : Int)).toNat) (-1)))
    (o36 : ¬ wr (nxC (zu m 49 ((wr (i : Int)).toNat) (nxC m))) = 107 → ¬ wr (nxC (zu m 49 ((wr (i : Int)).toNat) (nxC m))) = 119 → wr (nxC (zu m 49 ((wr (i : Int)).toNat) (nxC m))) = 103 → wr (nxC (zu (zu m 49 ((wr (i : Int)).toNat) (nxC m)) 2 3 ((m 2 3) + 1))) < 48 → ¬ wr ((zu (zu (zu m 49 ((wr (i : Int)).toNat) (nxC m)) 2 3 ((m 2 3) + 1)) 50 ((wr (i : Int)).toNat) (-1)) 50 ((wr (i : Int)).toNat)) = (-1) → False)
    (o37 : ¬ wr (nxC (zu m 49 ((wr (i : Int)).toNat) (nxC m))) = 107 → ¬ wr (nxC (zu m 49 ((wr (i : Int)).toNat) (nxC m))) = 119 → wr (nxC (zu m 49 ((wr (i : Int)).toNat) (nxC m))) = 103 → ¬ wr (nxC (zu (zu m 49 ((wr (i : Int)).toNat) (nxC m)) 2 3 ((m 2 3) + 1))) < 48 → ¬ 57 < wr (nxC (zu (zu m 49 ((wr (i : Int)).toNat) (nxC m)) 2 3 ((m 2 3) + 1))) → (0 ≤ wr (i : Int) ∧ wr (i : Int) < 30))
    (o38 : ¬ wr (nxC (zu m 49 ((wr (i : Int)).toNat) (nxC m))) = 107 → ¬ wr (nxC (zu m 49 ((wr (i : Int)).toNat) (nxC m))) = 119 → wr (nxC (zu m 49 ((wr (i : Int)).toNat) (nxC m))) = 103 → ¬ wr (nxC (zu (zu m 49 ((wr (i : Int)).toNat) (nxC m)) 2 3 ((m 2 3) + 1))) < 48 → ¬ 57 < wr (nxC (zu (zu m 49 ((wr (i : Int)).toNat) (nxC m)) 2 3 ((m 2 3) + 1))) → (0 ≤ wr (i : Int) ∧ wr (i : Int) < 30))
    (o39 : ¬ wr (nxC (zu m 49 ((wr (i : Int)).toNat) (nxC m))) = 107 → ¬ wr (nxC (zu m 49 ((wr (i : Int)).toNat) (nxC m))) = 119 → wr (nxC (zu m 49 ((wr (i : Int)).toNat) (nxC m))) = 103 → ¬ wr (nxC (zu (zu m 49 ((wr (i : Int)).toNat) (nxC m)) 2 3 ((m 2 3) + 1))) < 48 → ¬ 57 < wr (nxC (zu (zu m 49 ((wr (i : Int)).toNat) (nxC m)) 2 3 ((m 2 3) + 1))) → wr ((zu (zu (zu (zu m 49 ((wr (i : Int)).toNat) (nxC m)) 2 3 ((m 2 3) + 1)) 2 3 (((m 2 3) + 1) + 1)) 50 ((wr (i : Int)).toNat) (wr ((nxC (zu (zu m 49 ((wr (i : Int)).toNat) (nxC m)) 2 3 ((m 2 3) + 1))) - 48))) 50 ((wr (i : Int)).toNat)) = (-1) → False)
    (o40 : ¬ wr (nxC (zu m 49 ((wr (i : Int)).toNat) (nxC m))) = 107 → ¬ wr (nxC (zu m 49 ((wr (i : Int)).toNat) (nxC m))) = 119 → wr (nxC (zu m 49 ((wr (i : Int)).toNat) (nxC m))) = 103 → ¬ wr (nxC (zu (zu m 49 ((wr (i : Int)).toNat) (nxC m)) 2 3 ((m 2 3) + 1))) < 48 → ¬ 57 < wr (nxC (zu (zu m 49 ((wr (i : Int)).toNat) (nxC m)) 2 3 ((m 2 3) + 1))) → ¬ wr ((zu (zu (zu (zu m 49 ((wr (i : Int)).toNat) (nxC m)) 2 3 ((m 2 3) + 1)) 2 3 (((m 2 3) + 1) + 1)) 50 ((wr (i : Int)).toNat) (wr ((nxC (zu (zu m 49 ((wr (i : Int)).toNat) (nxC m)) 2 3 ((m 2 3) + 1))) - 48))) 50 ((wr (i : Int)).toNat)) = (-1) → T (D + 2) 110 (0, [(0, zr 48), (1, zr 2), (2, zi (i : Int))], [], (zu (zu (zu (zu m 49 ((wr (i : Int)).toNat) (nxC m)) 2 3 ((m 2 3) + 1)) 2 3 (((m 2 3) + 1) + 1)) 50 ((wr (i : Int)).toNat) (wr ((nxC (zu (zu m 49 ((wr (i : Int)).toNat) (nxC m)) 2 3 ((m 2 3) + 1))) - 48)))) (fun r m1 => T (D + 3) 108 (84, [(0, zr 48), (1, zr 2), (2, zi (i : Int))], r.toList ++ [], m1) κ))
    (o41 : ¬ wr (nxC (zu m 49 ((wr (i : Int)).toNat) (nxC m))) = 107 → ¬ wr (nxC (zu m 49 ((wr (i : Int)).toNat) (nxC m))) = 119 → wr (nxC (zu m 49 ((wr (i : Int)).toNat) (nxC m))) = 103 → ¬ wr (nxC (zu (zu m 49 ((wr (i : Int)).toNat) (nxC m)) 2 3 ((m 2 3) + 1))) < 48 → 57 < wr (nxC (zu (zu m 49 ((wr (i : Int)).toNat) (nxC m)) 2 3 ((m 2 3) + 1))) → (0 ≤ wr (i : Int) ∧ wr (i : Int) < 30))
    (o42 : ¬ wr (nxC (zu m 49 ((wr (i : Int)).toNat) (nxC m))) = 107 → ¬ wr (nxC (zu m 49 ((wr (i : Int)).toNat) (nxC m))) = 119 → wr (nxC (zu m 49 ((wr (i : Int)).toNat) (nxC m))) = 103 → ¬ wr (nxC (zu (zu m 49 ((wr (i : Int)).toNat) (nxC m)) 2 3 ((m 2 3) + 1))) < 48 → 57 < wr (nxC (zu (zu m 49 ((wr (i : Int)).toNat) (nxC m)) 2 3 ((m 2 3) + 1))) → (0 ≤ wr (i : Int) ∧ wr (i : Int) < 30))
    (o43 : ¬ wr (nxC (zu m 49 ((wr (i : Int)).toNat) (nxC m))) = 107 → ¬ wr (nxC (zu m 49 ((wr (i : Int)).toNat) (nxC m))) = 119 → wr (nxC (zu m 49 ((wr (i : Int)).toNat) (nxC m))) = 103 → ¬ wr (nxC (zu (zu m 49 ((wr (i : Int)).toNat) (nxC m)) 2 3 ((m 2 3) + 1))) < 48 → 57 < wr (nxC (zu (zu m 49 ((wr (i : Int)).toNat) (nxC m)) 2 3 ((m 2 3) + 1))) → wr ((zu (zu (zu m 49 ((wr (i : Int)).toNat) (nxC m)) 2 3 ((m 2 3) + 1)) 50 ((wr (i : Int)).toNat) (-1)) 50 ((wr (i : Int)).toNat)) = (-1) → κ (some (zi 0)) (zu (zu (zu m 49 ((wr (i : Int)).toNat) (nxC m)) 2 3 ((m 2 3) + 1)) 50 ((wr (i : Int)).toNat) (-1)))
    (o44 : ¬ wr (nxC (zu m 49 ((wr (i : Int)).toNat) (nxC m))) = 107 → ¬ wr (nxC (zu m 49 ((wr (i : Int)).toNat) (nxC m))) = 119 → wr (nxC (zu m 49 ((wr (i : Int)).toNat) (nxC m))) = 103 → ¬ wr (nxC (zu (zu m 49 ((wr (i : Int)).toNat) (nxC m)) 2 3 ((m 2 3) + 1))) < 48 → 57 < wr (nxC (zu (zu m 49 ((wr (i : Int)).toNat) (nxC m)) 2 3 ((m 2 3) + 1))) → ¬ wr ((zu (zu (zu m 49 ((wr (i : Int)).toNat) (nxC m)) 2 3 ((m 2 3) + 1)) 50 ((wr (i : Int)).toNat) (-1)) 50 ((wr (i : Int)).toNat)) = (-1) → False)
    (o45 : ¬ wr (nxC (zu m 49 ((wr (i : Int)).toNat) (nxC m))) = 107 → ¬ wr (nxC (zu m 49 ((wr (i : Int)).toNat) (nxC m))) = 119 → ¬ wr (nxC (zu m 49 ((wr (i : Int)).toNat) (nxC m))) = 103 → ∀ j, zbd 3 j ((zu m 49 ((wr (i : Int)).toNat) (nxC m)) 3 j))
    (o46 : ¬ wr (nxC (zu m 49 ((wr (i : Int)).toNat) (nxC m))) = 107 → ¬ wr (nxC (zu m 49 ((wr (i : Int)).toNat) (nxC m))) = 119 → ¬ wr (nxC (zu m 49 ((wr (i : Int)).toNat) (nxC m))) = 103 → (0 ≤ (m 2 3) ∧ (m 2 3) ≤ 1000))
    (o47 : ¬ wr (nxC (zu m 49 ((wr (i : Int)).toNat) (nxC m))) = 107 → ¬ wr (nxC (zu m 49 ((wr (i : Int)).toNat) (nxC m))) = 119 → ¬ wr (nxC (zu m 49 ((wr (i : Int)).toNat) (nxC m))) = 103 → (0 ≤ (m 2 2) ∧ (m 2 2) ≤ 80))
    (o48 : ¬ wr (nxC (zu m 49 ((wr (i : Int)).toNat) (nxC m))) = 107 → ¬ wr (nxC (zu m 49 ((wr (i : Int)).toNat) (nxC m))) = 119 → ¬ wr (nxC (zu m 49 ((wr (i : Int)).toNat) (nxC m))) = 103 → wr (nxC (zu m 49 ((wr (i : Int)).toNat) (nxC m))) = 109 → ∀ j, zbd 3 j ((zu (zu m 49 ((wr (i : Int)).toNat) (nxC m)) 2 3 ((m 2 3) + 1)) 3 j))
    (o49 : ¬ wr (nxC (zu m 49 ((wr (i : Int)).toNat) (nxC m))) = 107 → ¬ wr (nxC (zu m 49 ((wr (i : Int)).toNat) (nxC m))) = 119 → ¬ wr (nxC (zu m 49 ((wr (i : Int)).toNat) (nxC m))) = 103 → wr (nxC (zu m 49 ((wr (i : Int)).toNat) (nxC m))) = 109 → (0 ≤ ((m 2 3) + 1) ∧ ((m 2 3) + 1) ≤ 1000))
    (o50 : ¬ wr (nxC (zu m 49 ((wr (i : Int)).toNat) (nxC m))) = 107 → ¬ wr (nxC (zu m 49 ((wr (i : Int)).toNat) (nxC m))) = 119 → ¬ wr (nxC (zu m 49 ((wr (i : Int)).toNat) (nxC m))) = 103 → wr (nxC (zu m 49 ((wr (i : Int)).toNat) (nxC m))) = 109 → (0 ≤ (m 2 2) ∧ (m 2 2) ≤ 80))
    (o51 : ¬ wr (nxC (zu m 49 ((wr (i : Int)).toNat) (nxC m))) = 107 → ¬ wr (nxC (zu m 49 ((wr (i : Int)).toNat) (nxC m))) = 119 → ¬ wr (nxC (zu m 49 ((wr (i : Int)).toNat) (nxC m))) = 103 → wr (nxC (zu m 49 ((wr (i : Int)).toNat) (nxC m))) = 109 → wr (nxC (zu (zu m 49 ((wr (i : Int)).toNat) (nxC m)) 2 3 ((m 2 3) + 1))) < 48 → (0 ≤ wr (i : Int) ∧ wr (i : Int) < 30))
    (o52 : ¬ wr (nxC (zu m 49 ((wr (i : Int)).toNat) (nxC m))) = 107 → ¬ wr (nxC (zu m 49 ((wr (i : Int)).toNat) (nxC m))) = 119 → ¬ wr (nxC (zu m 49 ((wr (i : Int)).toNat) (nxC m))) = 103 → wr (nxC (zu m 49 ((wr (i : Int)).toNat) (nxC m))) = 109 → wr (nxC (zu (zu m 49 ((wr (i : Int)).toNat) (nxC m)) 2 3 ((m 2 3) + 1))) < 48 → (0 ≤ wr (i : Int) ∧ wr (i : Int) < 30))
    (o53 : ¬ wr (nxC (zu m 49 ((wr (i : Int)).toNat) (nxC m))) = 107 → ¬ wr (nxC (zu m 49 ((wr (i : Int)).toNat) (nxC m))) = 119 → ¬ wr (nxC (zu m 49 ((wr (i : Int)).toNat) (nxC m))) = 103 → wr (nxC (zu m 49 ((wr (i : Int)).toNat) (nxC m))) = 109 → wr (nxC (zu (zu m 49 ((wr (i : Int)).toNat) (nxC m)) 2 3 ((m 2 3) + 1))) < 48 → wr ((zu (zu (zu m 49 ((wr (i : Int)).toNat) (nxC m)) 2 3 ((m 2 3) + 1)) 50 ((wr (i : Int)).toNat) (-1)) 50 ((wr (i : Int)).toNat)) = (-1) → κ (some (zi 0)) (zu (zu (zu m 49 ((wr (i : Int)).toNat) (nxC m)) 2 3 ((m 2 3) + 1)) 50 ((wr (i : Int)).toNat) (-1)))
    (o54 : ¬ wr (nxC (zu m 49 ((wr (i : Int)).toNat) (nxC m))) = 107 → ¬ wr (nxC (zu m 49 ((wr (i : Int)).toNat) (nxC m))) = 119 → ¬ wr (nxC (zu m 49 ((wr (i : Int)).toNat) (nxC m))) = 103 → wr (nxC (zu m 49 ((wr (i : Int)).toNat) (nxC m))) = 109 → wr (nxC (zu (zu m 49 ((wr (i : Int)).toNat) (nxC m)) 2 3 ((m 2 3) + 1))) < 48 → ¬ wr ((zu (zu (zu m 49 ((wr (i : Int)).toNat) (nxC m)) 2 3 ((m 2 3) + 1)) 50 ((wr (i : Int)).toNat) (-1)) 50 ((wr (i : Int)).toNat)) = (-1) → False)
    (o55 : ¬ wr (nxC (zu m 49 ((wr (i : Int)).toNat) (nxC m))) = 107 → ¬ wr (nxC (zu m 49 ((wr (i : Int)).toNat) (nxC m))) = 119 → ¬ wr (nxC (zu m 49 ((wr (i : Int)).toNat) (nxC m))) = 103 → wr (nxC (zu m 49 ((wr (i : Int)).toNat) (nxC m))) = 109 → ¬ wr (nxC (zu (zu m 49 ((wr (i : Int)).toNat) (nxC m)) 2 3 ((m 2 3) + 1))) < 48 → ¬ 57 < wr (nxC (zu (zu m 49 ((wr (i : Int)).toNat) (nxC m)) 2 3 ((m 2 3) + 1))) → (0 ≤ wr (i : Int) ∧ wr (i : Int) < 30))
    (o56 : ¬ wr (nxC (zu m 49 ((wr (i : Int)).toNat) (nxC m))) = 107 → ¬ wr (nxC (zu m 49 ((wr (i : Int)).toNat) (nxC m))) = 119 → ¬ wr (nxC (zu m 49 ((wr (i : Int)).toNat) (nxC m))) = 103 → wr (nxC (zu m 49 ((wr (i : Int)).toNat) (nxC m))) = 109 → ¬ wr (nxC (zu (zu m 49 ((wr (i : Int)).toNat) (nxC m)) 2 3 ((m 2 3) + 1))) < 48 → ¬ 57 < wr (nxC (zu (zu m 49 ((wr (i : Int)).toNat) (nxC m)) 2 3 ((m 2 3) + 1))) → (0 ≤ wr (i : Int) ∧ wr (i : Int) < 30))
    (o57 : ¬ wr (nxC (zu m 49 ((wr (i : Int)).toNat) (nxC m))) = 107 → ¬ wr (nxC (zu m 49 ((wr (i : Int)).toNat) (nxC m))) = 119 → ¬ wr (nxC (zu m 49 ((wr (i : Int)).toNat) (nxC m))) = 103 → wr (nxC (zu m 49 ((wr (i : Int)).toNat) (nxC m))) = 109 → ¬ wr (nxC (zu (zu m 49 ((wr (i : Int)).toNat) (nxC m)) 2 3 ((m 2 3) + 1))) < 48 → ¬ 57 < wr (nxC (zu (zu m 49 ((wr (i : Int)).toNat) (nxC m)) 2 3 ((m 2 3) + 1))) → wr ((zu (zu (zu (zu m 49 ((wr (i : Int)).toNat) (nxC m)) 2 3 ((m 2 3) + 1)) 2 3 (((m 2 3) + 1) + 1)) 50 ((wr (i : Int)).toNat) (wr ((nxC (zu (zu m 49 ((wr (i : Int)).toNat) (nxC m)) 2 3 ((m 2 3) + 1))) - 48))) 50 ((wr (i : Int)).toNat)) = (-1) → False)
    (o58 : ¬ wr (nxC (zu m 49 ((wr (i : Int)).toNat) (nxC m))) = 107 → ¬ wr (nxC (zu m 49 ((wr (i : Int)).toNat) (nxC m))) = 119 → ¬ wr (nxC (zu m 49 ((wr (i : Int)).toNat) (nxC m))) = 103 → wr (nxC (zu m 49 ((wr (i : Int)).toNat) (nxC m))) = 109 → ¬ wr (nxC (zu (zu m 49 ((wr (i : Int)).toNat) (nxC m)) 2 3 ((m 2 3) + 1))) < 48 → ¬ 57 < wr (nxC (zu (zu m 49 ((wr (i : Int)).toNat) (nxC m)) 2 3 ((m 2 3) + 1))) → ¬ wr ((zu (zu (zu (zu m 49 ((wr (i : Int)).toNat) (nxC m)) 2 3 ((m 2 3) + 1)) 2 3 (((m 2 3) + 1) + 1)) 50 ((wr (i : Int)).toNat) (wr ((nxC (zu (zu m 49 ((wr (i : Int)).toNat) (nxC m)) 2 3 ((m 2 3) + 1))) - 48))) 50 ((wr (i : Int)).toNat)) = (-1) → T (D + 2) 110 (0, [(0, zr 48), (1, zr 2), (2, zi (i : Int))], [], (zu (zu (zu (zu m 49 ((wr (i : Int)).toNat) (nxC m)) 2 3 ((m 2 3) + 1)) 2 3 (((m 2 3) + 1) + 1)) 50 ((wr (i : Int)).toNat) (wr ((nxC (zu (zu m 49 ((wr (i : Int)).toNat) (nxC m)) 2 3 ((m 2 3) + 1))) - 48)))) (fun r m1 => T (D + 3) 108 (84, [(0, zr 48), (1, zr 2), (2, zi (i : Int))], r.toList ++ [], m1) κ))
    (o59 : ¬ wr (nxC (zu m 49 ((wr (i : Int)).toNat) (nxC m))) = 107 → ¬ wr (nxC (zu m 49 ((wr (i : Int)).toNat) (nxC m))) = 119 → ¬ wr (nxC (zu m 49 ((wr (i : Int)).toNat) (nxC m))) = 103 → wr (nxC (zu m 49 ((wr (i : Int)).toNat) (nxC m))) = 109 → ¬ wr (nxC (zu (zu m 49 ((wr (i : Int)).toNat) (nxC m)) 2 3 ((m 2 3) + 1))) < 48 → 57 < wr (nxC (zu (zu m 49 ((wr (i : Int)).toNat) (nxC m)) 2 3 ((m 2 3) + 1))) → (0 ≤ wr (i : Int) ∧ wr (i : Int) < 30))
    (o60 : ¬ wr (nxC (zu m 49 ((wr (i : Int)).toNat) (nxC m))) = 107 → ¬ wr (nxC (zu m 49 ((wr (i : Int)).toNat) (nxC m))) = 119 → ¬ wr (nxC (zu m 49 ((wr (i : Int)).toNat) (nxC m))) = 103 → wr (nxC (zu m 49 ((wr (i : Int)).toNat) (nxC m))) = 109 → ¬ wr (nxC (zu (zu m 49 ((wr (i : Int)).toNat) (nxC m)) 2 3 ((m 2 3) + 1))) < 48 → 57 < wr (nxC (zu (zu m 49 ((wr (i : Int)).toNat) (nxC m)) 2 3 ((m 2 3) + 1))) → (0 ≤ wr (i : Int) ∧ wr (i : Int) < 30))
    (o61 : ¬ wr (nxC (zu m 49 ((wr (i : Int)).toNat) (nxC m))) = 107 → ¬ wr (nxC (zu m 49 ((wr (i : Int)).toNat) (nxC m))) = 119 → ¬ wr (nxC (zu m 49 ((wr (i : Int)).toNat) (nxC m))) = 103 → wr (nxC (zu m 49 ((wr (i : Int)).toNat) (nxC m))) = 109 → ¬ wr (nxC (zu (zu m 49 ((wr (i : Int)).toNat) (nxC m)) 2 3 ((m 2 3) + 1))) < 48 → 57 < wr (nxC (zu (zu m 49 ((wr (i : Int)).toNat) (nxC m)) 2 3 ((m 2 3) + 1))) → wr ((zu (zu (zu m 49 ((wr (i : Int)).toNat) (nxC m)) 2 3 ((m 2 3) + 1)) 50 ((wr (i : Int)).toNat) (-1)) 50 ((wr (i : Int)).toNat)) = (-1) → κ (some (zi 0)) (zu (zu (zu m 49 ((wr (i : Int)).toNat) (nxC m)) 2 3 ((m 2 3) + 1)) 50 ((wr (i : Int)).toNat) (-1)))
    (o62 : ¬ wr (nxC (zu m 49 ((wr (i : Int)).toNat) (nxC m))) = 107 → ¬ wr (nxC (zu m 49 ((wr (i : Int)).toNat) (nxC m))) = 119 → ¬ wr (nxC (zu m 49 ((wr (i : Int)).toNat) (nxC m))) = 103 → wr (nxC (zu m 49 ((wr (i : Int)).toNat) (nxC m))) = 109 → ¬ wr (nxC (zu (zu m 49 ((wr (i : Int)).toNat) (nxC m)) 2 3 ((m 2 3) + 1))) < 48 → 57 < wr (nxC (zu (zu m 49 ((wr (i : Int)).toNat) (nxC m)) 2 3 ((m 2 3) + 1))) → ¬ wr ((zu (zu (zu m 49 ((wr (i : Int)).toNat) (nxC m)) 2 3 ((m 2 3) + 1)) 50 ((wr (i : Int)).toNat) (-1)) 50 ((wr (i : Int)).toNat)) = (-1) → False)
    (o63 : ¬ wr (nxC (zu m 49 ((wr (i : Int)).toNat) (nxC m))) = 107 → ¬ wr (nxC (zu m 49 ((wr (i : Int)).toNat) (nxC m))) = 119 → ¬ wr (nxC (zu m 49 ((wr (i : Int)).toNat) (nxC m))) = 103 → ¬ wr (nxC (zu m 49 ((wr (i : Int)).toNat) (nxC m))) = 109 → κ (some (zi 0)) (zu m 49 ((wr (i : Int)).toNat) (nxC m))) :
    T (D + 3) 108 (0, [(0, zr 48), (1, zr 2), (2, zi (i : Int))], [], m) κ :=
  hT.1 [] 6 (D + 3) 108 _ κ (z_next hT (o1) (o2) (o3) (hT.1 [] 6 (D + 3) 108 _ _ (And.intro (And.intro (o4) trivial) (hT.1 [] 6 (D + 2) 70 _ _ (z_next hT (o5) (o6) (o7) (hT.1 [] 6 (D + 2) 70 _ _ (And.intro (fun a1 => (hT.1 [] 6 (D + 2) 70 (16, [(0, zr 2), (1, zi 107)], [zi 1, zi (m 2 3), zr 2], (zu m 49 ((wr (i : Int)).toNat) (nxC m))) _ (And.intro trivial (And.intro (z_b01L rfl) (hT.1 [] 6 (D + 3) 108 _ _ (And.intro (fun a3 => (z_litF a3 rfl).elim) (fun _ => (o8 a1)))))))) (fun a2 => (And.intro (z_b01L rfl) (hT.1 [] 6 (D + 3) 108 _ _ (And.intro (fun _ => (hT.1 [] 6 (D + 2) 70 _ _ (z_next hT (o9 a2) (o10 a2) (o11 a2) (hT.1 [] 6 (D + 2) 70 _ _ (And.intro (fun a5 => (hT.1 [] 6 (D + 2) 70 (16, [(0, zr 2), (1, zi 119)], [zi 1, zi (m 2 3), zr 2], (zu m 49 ((wr (i : Int)).toNat) (nxC m))) _ (And.intro trivial (And.intro (z_b01L rfl) (hT.1 [] 6 (D + 3) 108 _ _ (And.intro (fun _ => (hT.1 [] 6 (D + 3) 108 (62, [(0, zr 48), (1, zr 2), (2, zi (i : Int))], [zi 0, zr 2, zi (i : Int), zr 50], (zu (zu m 49 ((wr (i : Int)).toNat) (nxC m)) 2 3 ((m 2 3) + 1))) _ (hT.1 [] 6 (D + 2) 71 _ _ (z_next hT (o12 a2 a5) (o13 a2 a5) (o14 a2 a5) (hT.1 [] 6 (D + 2) 71 _ _ (And.intro (fun a8 => (hT.1 [] 6 (D + 2) 71 (21, [(0, zr 2), (1, zi 0), (2, zi 9), (3, zi (nxC (zu (zu m 49 ((wr (i : Int)).toNat) (nxC m)) 2 3 ((m 2 3) + 1))))], [], (zu (zu m 49 ((wr (i : Int)).toNat) (nxC m)) 2 3 ((m 2 3) + 1))) _ (hT.1 [] 6 (D + 3) 108 _ _ (And.intro (And.intro (o15 a2 a5 a8) trivial) (And.intro (o16 a2 a5 a8) (hT.1 [] 6 (D + 3) 108 (75, [(0, zr 48), (1, zr 2), (2, zi (i : Int))], [zi (-1), zi ((zu (zu (zu m 49 ((wr (i : Int)).toNat) (nxC m)) 2 3 ((m 2 3) + 1)) 50 ((wr (i : Int)).toNat) (-1)) 50 ((wr (i : Int)).toNat))], (zu (zu (zu m 49 ((wr (i : Int)).toNat) (nxC m)) 2 3 ((m 2 3) + 1)) 50 ((wr (i : Int)).toNat) (-1))) _ (And.intro (fun a10 => (And.intro (z_b01L rfl) (o17 a2 a5 a8 a10))) (fun a11 => (o18 a2 a5 a8 a11).elim)))))))) (fun a9 => (hT.1 [] 6 (D + 2) 71 (13, [(0, zr 2), (1, zi 0), (2, zi 9), (3, zi (nxC (zu (zu m 49 ((wr (i : Int)).toNat) (nxC m)) 2 3 ((m 2 3) + 1))))], [], (zu (zu m 49 ((wr (i : Int)).toNat) (nxC m)) 2 3 ((m 2 3) + 1))) _ (And.intro (fun a12 => (hT.1 [] 6 (D + 2) 71 (24, [(0, zr 2), (1, zi 0), (2, zi 9), (3, zi (nxC (zu (zu m 49 ((wr (i : Int)).toNat) (nxC m)) 2 3 ((m 2 3) + 1))))], [zr 2], (zu (zu m 49 ((wr (i : Int)).toNat) (nxC m)) 2 3 ((m 2 3) + 1))) _ (And.intro trivial (hT.1 [] 6 (D + 2) 71 (34, [(0, zr 2), (1, zi 0), (2, zi 9), (3, zi (nxC (zu (zu m 49 ((wr (i : Int)).toNat) (nxC m)) 2 3 ((m 2 3) + 1))))], [zi (nxC (zu (zu m 49 ((wr (i : Int)).toNat) (nxC m)) 2 3 ((m 2 3) + 1)))], (zu (zu (zu m 49 ((wr (i : Int)).toNat) (nxC m)) 2 3 ((m 2 3) + 1)) 2 3 (((m 2 3) + 1) + 1))) _ (hT.1 [] 6 (D + 3) 108 _ _ (And.intro (And.intro (o19 a2 a5 a9 a12) trivial) (And.intro (o20 a2 a5 a9 a12) (hT.1 [] 6 (D + 3) 108 (75, [(0, zr 48), (1, zr 2), (2, zi (i : Int))], [zi (-1), zi ((zu (zu (zu (zu m 49 ((wr (i : Int)).toNat) (nxC m)) 2 3 ((m 2 3) + 1)) 2 3 (((m 2 3) + 1) + 1)) 50 ((wr (i : Int)).toNat) (wr ((nxC (zu (zu m 49 ((wr (i : Int)).toNat) (nxC m)) 2 3 ((m 2 3) + 1))) - 48))) 50 ((wr (i : Int)).toNat))], (zu (zu (zu (zu m 49 ((wr (i : Int)).toNat) (nxC m)) 2 3 ((m 2 3) + 1)) 2 3 (((m 2 3) + 1) + 1)) 50 ((wr (i : Int)).toNat) (wr ((nxC (zu (zu m 49 ((wr (i : Int)).toNat) (nxC m)) 2 3 ((m 2 3) + 1))) - 48)))) _ (And.intro (fun a14 => (o21 a2 a5 a9 a12 a14).elim) (fun a15 => (o22 a2 a5 a9 a12 a15))))))))))) (fun a13 => (hT.1 [] 6 (D + 2) 71 (22, [(0, zr 2), (1, zi 0), (2, zi 9), (3, zi (nxC (zu (zu m 49 ((wr (i : Int)).toNat) (nxC m)) 2 3 ((m 2 3) + 1))))], [zi (-1)], (zu (zu m 49 ((wr (i : Int)).toNat) (nxC m)) 2 3 ((m 2 3) + 1))) _ (hT.1 [] 6 (D + 3) 108 _ _ (And.intro (And.intro (o23 a2 a5 a9 (Classical.byContradiction a13)) trivial) (And.intro (o24 a2 a5 a9 (Classical.byContradiction a13)) (hT.1 [] 6 (D + 3) 108 (75, [(0, zr 48), (1, zr 2), (2, zi (i : Int))], [zi (-1), zi ((zu (zu (zu m 49 ((wr (i : Int)).toNat) (nxC m)) 2 3 ((m 2 3) + 1)) 50 ((wr (i : Int)).toNat) (-1)) 50 ((wr (i : Int)).toNat))], (zu (zu (zu m 49 ((wr (i : Int)).toNat) (nxC m)) 2 3 ((m 2 3) + 1)) 50 ((wr (i : Int)).toNat) (-1))) _ (And.intro (fun a16 => (And.intro (z_b01L rfl) (o25 a2 a5 a9 (Classical.byContradiction a13) a16))) (fun a17 => (o26 a2 a5 a9 (Classical.byContradiction a13) a17).elim))))))))))))))))) (fun a7 => (a7 (z_litT rfl)).elim))))))) (fun a6 => (And.intro (z_b01L rfl) (hT.1 [] 6 (D + 3) 108 _ _ (And.intro (fun a18 => (z_litF a18 rfl).elim) (fun _ => (hT.1 [] 6 (D + 2) 70 _ _ (z_next hT (o27 a2 a6) (o28 a2 a6) (o29 a2 a6) (hT.1 [] 6 (D + 2) 70 _ _ (And.intro (fun a19 => (hT.1 [] 6 (D + 2) 70 (16, [(0, zr 2), (1, zi 103)], [zi 1, zi (m 2 3), zr 2], (zu m 49 ((wr (i : Int)).toNat) (nxC m))) _ (And.intro trivial (And.intro (z_b01L rfl) (hT.1 [] 6 (D + 3) 108 _ _ (And.intro (fun _ => (hT.1 [] 6 (D + 3) 108 (62, [(0, zr 48), (1, zr 2), (2, zi (i : Int))], [zi 0, zr 2, zi (i : Int), zr 50], (zu (zu m 49 ((wr (i : Int)).toNat) (nxC m)) 2 3 ((m 2 3) + 1))) _ (hT.1 [] 6 (D + 2) 71 _ _ (z_next hT (o30 a2 a6 a19) (o31 a2 a6 a19) (o32 a2 a6 a19) (hT.1 [] 6 (D + 2) 71 _ _ (And.intro (fun a22 => (hT.1 [] 6 (D + 2) 71 (21, [(0, zr 2), (1, zi 0), (2, zi 9), (3, zi (nxC (zu (zu m 49 ((wr (i : Int)).toNat) (nxC m)) 2 3 ((m 2 3) + 1))))], [], (zu (zu m 49 ((wr (i : Int)).toNat) (nxC m)) 2 3 ((m 2 3) + 1))) _ (hT.1 [] 6 (D + 3) 108 _ _ (And.intro (And.intro (o33 a2 a6 a19 a22) trivial) (And.intro (o34 a2 a6 a19 a22) (hT.1 [] 6 (D + 3) 108 (75, [(0, zr 48), (1, zr 2), (2, zi (i : Int))], [zi (-1), zi ((zu (zu (zu m 49 ((wr (i : Int)).toNat) (nxC m)) 2 3 ((m 2 3) + 1)) 50 ((wr (i : Int)).toNat) (-1)) 50 ((wr (i : Int)).toNat))], (zu (zu (zu m 49 ((wr (i : Int)).toNat) (nxC m)) 2 3 ((m 2 3) + 1)) 50 ((wr (i : Int)).toNat) (-1))) _ (And.intro (fun a24 => (And.intro (z_b01L rfl) (o35 a2 a6 a19 a22 a24))) (fun a25 => (o36 a2 a6 a19 a22 a25).elim)))))))) (fun a23 => (hT.1 [] 6 (D + 2) 71 (13, [(0, zr 2), (1, zi 0), (2, zi 9), (3, zi (nxC (zu (zu m 49 ((wr (i : Int)).toNat) (nxC m)) 2 3 ((m 2 3) + 1))))], [], (zu (zu m 49 ((wr (i : Int)).toNat) (nxC m)) 2 3 ((m 2 3) + 1))) _ (And.intro (fun a26 => (hT.1 [] 6 (D + 2) 71 (24, [(0, zr 2), (1, zi 0), (2, zi 9), (3, zi (nxC (zu (zu m 49 ((wr (i : Int)).toNat) (nxC m)) 2 3 ((m 2 3) + 1))))], [zr 2], (zu (zu m 49 ((wr (i : Int)).toNat) (nxC m)) 2 3 ((m 2 3) + 1))) _ (And.intro trivial (hT.1 [] 6 (D + 2) 71 (34, [(0, zr 2), (1, zi 0), (2, zi 9), (3, zi (nxC (zu (zu m 49 ((wr (i : Int)).toNat) (nxC m)) 2 3 ((m 2 3) + 1))))], [zi (nxC (zu (zu m 49 ((wr (i : Int)).toNat) (nxC m)) 2 3 ((m 2 3) + 1)))], (zu (zu (zu m 49 ((wr (i : Int)).toNat) (nxC m)) 2 3 ((m 2 3) + 1)) 2 3 (((m 2 3) + 1) + 1))) _ (hT.1 [] 6 (D + 3) 108 _ _ (And.intro (And.intro (o37 a2 a6 a19 a23 a26) trivial) (And.intro (o38 a2 a6 a19 a23 a26) (hT.1 [] 6 (D + 3) 108 (75, [(0, zr 48), (1, zr 2), (2, zi (i : Int))], [zi (-1), zi ((zu (zu (zu (zu m 49 ((wr (i : Int)).toNat) (nxC m)) 2 3 ((m 2 3) + 1)) 2 3 (((m 2 3) + 1) + 1)) 50 ((wr (i : Int)).toNat) (wr ((nxC (zu (zu m 49 ((wr (i : Int)).toNat) (nxC m)) 2 3 ((m 2 3) + 1))) - 48))) 50 ((wr (i : Int)).toNat))], (zu (zu (zu (zu m 49 ((wr (i : Int)).toNat) (nxC m)) 2 3 ((m 2 3) + 1)) 2 3 (((m 2 3) + 1) + 1)) 50 ((wr (i : Int)).toNat) (wr ((nxC (zu (zu m 49 ((wr (i : Int)).toNat) (nxC m)) 2 3 ((m 2 3) + 1))) - 48)))) _ (And.intro (fun a28 => (o39 a2 a6 a19 a23 a26 a28).elim) (fun a29 => (o40 a2 a6 a19 a23 a26 a29))))))))))) (fun a27 => (hT.1 [] 6 (D + 2) 71 (22, [(0, zr 2), (1, zi 0), (2, zi 9), (3, zi (nxC (zu (zu m 49 ((wr (i : Int)).toNat) (nxC m)) 2 3 ((m 2 3) + 1))))], [zi (-1)], (zu (zu m 49 ((wr (i : Int)).toNat) (nxC m)) 2 3 ((m 2 3) + 1))) _ (hT.1 [] 6 (D + 3) 108 _ _ (And.intro (And.intro (o41 a2 a6 a19 a23 (Classical.byContradiction a27)) trivial) (And.intro (o42 a2 a6 a19 a23 (Classical.byContradiction a27)) (hT.1 [] 6 (D + 3) 108 (75, [(0, zr 48), (1, zr 2), (2, zi (i : Int))], [zi (-1), zi ((zu (zu (zu m 49 ((wr (i : Int)).toNat) (nxC m)) 2 3 ((m 2 3) + 1)) 50 ((wr (i : Int)).toNat) (-1)) 50 ((wr (i : Int)).toNat))], (zu (zu (zu m 49 ((wr (i : Int)).toNat) (nxC m)) 2 3 ((m 2 3) + 1)) 50 ((wr (i : Int)).toNat) (-1))) _ (And.intro (fun a30 => (And.intro (z_b01L rfl) (o43 a2 a6 a19 a23 (Classical.byContradiction a27) a30))) (fun a31 => (o44 a2 a6 a19 a23 (Classical.byContradiction a27) a31).elim))))))))))))))))) (fun a21 => (a21 (z_litT rfl)).elim))))))) (fun a20 => (And.intro (z_b01L rfl) (hT.1 [] 6 (D + 3) 108 _ _ (And.intro (fun a32 => (z_litF a32 rfl).elim) (fun _ => (hT.1 [] 6 (D + 2) 70 _ _ (z_next hT (o45 a2 a6 a20) (o46 a2 a6 a20) (o47 a2 a6 a20) (hT.1 [] 6 (D + 2) 70 _ _ (And.intro (fun a33 => (hT.1 [] 6 (D + 2) 70 (16, [(0, zr 2), (1, zi 109)], [zi 1, zi (m 2 3), zr 2], (zu m 49 ((wr (i : Int)).toNat) (nxC m))) _ (And.intro trivial (And.intro (z_b01L rfl) (hT.1 [] 6 (D + 3) 108 _ _ (And.intro (fun _ => (hT.1 [] 6 (D + 3) 108 (62, [(0, zr 48), (1, zr 2), (2, zi (i : Int))], [zi 0, zr 2, zi (i : Int), zr 50], (zu (zu m 49 ((wr (i : Int)).toNat) (nxC m)) 2 3 ((m 2 3) + 1))) _ (hT.1 [] 6 (D + 2) 71 _ _ (z_next hT (o48 a2 a6 a20 a33) (o49 a2 a6 a20 a33) (o50 a2 a6 a20 a33) (hT.1 [] 6 (D + 2) 71 _ _ (And.intro (fun a36 => (hT.1 [] 6 (D + 2) 71 (21, [(0, zr 2), (1, zi 0), (2, zi 9), (3, zi (nxC (zu (zu m 49 ((wr (i : Int)).toNat) (nxC m)) 2 3 ((m 2 3) + 1))))], [], (zu (zu m 49 ((wr (i : Int)).toNat) (nxC m)) 2 3 ((m 2 3) + 1))) _ (hT.1 [] 6 (D + 3) 108 _ _ (And.intro (And.intro (o51 a2 a6 a20 a33 a36) trivial) (And.intro (o52 a2 a6 a20 a33 a36) (hT.1 [] 6 (D + 3) 108 (75, [(0, zr 48), (1, zr 2), (2, zi (i : Int))], [zi (-1), zi ((zu (zu (zu m 49 ((wr (i : Int)).toNat) (nxC m)) 2 3 ((m 2 3) + 1)) 50 ((wr (i : Int)).toNat) (-1)) 50 ((wr (i : Int)).toNat))], (zu (zu (zu m 49 ((wr (i : Int)).toNat) (nxC m)) 2 3 ((m 2 3) + 1)) 50 ((wr (i : Int)).toNat) (-1))) _ (And.intro (fun a38 => (And.intro (z_b01L rfl) (o53 a2 a6 a20 a33 a36 a38))) (fun a39 => (o54 a2 a6 a20 a33 a36 a39).elim)))))))) (fun a37 => (hT.1 [] 6 (D + 2) 71 (13, [(0, zr 2), (1, zi 0), (2, zi 9), (3, zi (nxC (zu (zu m 49 ((wr (i : Int)).toNat) (nxC m)) 2 3 ((m 2 3) + 1))))], [], (zu (zu m 49 ((wr (i : Int)).toNat) (nxC m)) 2 3 ((m 2 3) + 1))) _ (And.intro (fun a40 => (hT.1 [] 6 (D + 2) 71 (24, [(0, zr 2), (1, zi 0), (2, zi 9), (3, zi (nxC (zu (zu m 49 ((wr (i : Int)).toNat) (nxC m)) 2 3 ((m 2 3) + 1))))], [zr 2], (zu (zu m 49 ((wr (i : Int)).toNat) (nxC m)) 2 3 ((m 2 3) + 1))) _ (And.intro trivial (hT.1 [] 6 (D + 2) 71 (34, [(0, zr 2), (1, zi 0), (2, zi 9), (3, zi (nxC (zu (zu m 49 ((wr (i : Int)).toNat) (nxC m)) 2 3 ((m 2 3) + 1))))], [zi (nxC (zu (zu m 49 ((wr (i : Int)).toNat) (nxC m)) 2 3 ((m 2 3) + 1)))], (zu (zu (zu m 49 ((wr (i : Int)).toNat) (nxC m)) 2 3 ((m 2 3) + 1)) 2 3 (((m 2 3) + 1) + 1))) _ (hT.1 [] 6 (D + 3) 108 _ _ (And.intro (And.intro (o55 a2 a6 a20 a33 a37 a40) trivial) (And.intro (o56 a2 a6 a20 a33 a37 a40) (hT.1 [] 6 (D + 3) 108 (75, [(0, zr 48), (1, zr 2), (2, zi (i : Int))], [zi (-1), zi ((zu (zu (zu (zu m 49 ((wr (i : Int)).toNat) (nxC m)) 2 3 ((m 2 3) + 1)) 2 3 (((m 2 3) + 1) + 1)) 50 ((wr (i : Int)).toNat) (wr ((nxC (zu (zu m 49 ((wr (i : Int)).toNat) (nxC m)) 2 3 ((m 2 3) + 1))) - 48))) 50 ((wr (i : Int)).toNat))], (zu (zu (zu (zu m 49 ((wr (i : Int)).toNat) (nxC m)) 2 3 ((m 2 3) + 1)) 2 3 (((m 2 3) + 1) + 1)) 50 ((wr (i : Int)).toNat) (wr ((nxC (zu (zu m 49 ((wr (i : Int)).toNat) (nxC m)) 2 3 ((m 2 3) + 1))) - 48)))) _ (And.intro (fun a42 => (o57 a2 a6 a20 a33 a37 a40 a42).elim) (fun a43 => (o58 a2 a6 a20 a33 a37 a40 a43))))))))))) (fun a41 => (hT.1 [] 6 (D + 2) 71 (22, [(0, zr 2), (1, zi 0), (2, zi 9), (3, zi (nxC (zu (zu m 49 ((wr (i : Int)).toNat) (nxC m)) 2 3 ((m 2 3) + 1))))], [zi (-1)], (zu (zu m 49 ((wr (i : Int)).toNat) (nxC m)) 2 3 ((m 2 3) + 1))) _ (hT.1 [] 6 (D + 3) 108 _ _ (And.intro (And.intro (o59 a2 a6 a20 a33 a37 (Classical.byContradiction a41)) trivial) (And.intro (o60 a2 a6 a20 a33 a37 (Classical.byContradiction a41)) (hT.1 [] 6 (D + 3) 108 (75, [(0, zr 48), (1, zr 2), (2, zi (i : Int))], [zi (-1), zi ((zu (zu (zu m 49 ((wr (i : Int)).toNat) (nxC m)) 2 3 ((m 2 3) + 1)) 50 ((wr (i : Int)).toNat) (-1)) 50 ((wr (i : Int)).toNat))], (zu (zu (zu m 49 ((wr (i : Int)).toNat) (nxC m)) 2 3 ((m 2 3) + 1)) 50 ((wr (i : Int)).toNat) (-1))) _ (And.intro (fun a44 => (And.intro (z_b01L rfl) (o61 a2 a6 a20 a33 a37 (Classical.byContradiction a41) a44))) (fun a45 => (o62 a2 a6 a20 a33 a37 (Classical.byContradiction a41) a45).elim))))))))))))))))) (fun a35 => (a35 (z_litT rfl)).elim))))))) (fun a34 => (And.intro (z_b01L rfl) (hT.1 [] 6 (D + 3) 108 _ _ (And.intro (fun a46 => (z_litF a46 rfl).elim) (fun _ => (And.intro (z_b01L rfl) (o63 a2 a6 a20 a34)))))))))))))))))))))))))))))) (fun a4 => (a4 (z_litT rfl)).elim))))))))))))
theorem zb108_0 (hT : zRules T) {D : Nat} {κ : Option zA → zM → Prop} {m : zM} {i : Nat}  (hB : zB m) (h_i : i ≤ 29) (hf0 : 0 ≤ m 2 3 ∧ m 2 3 ≤ 60) 
    (k1 : (nxC (zu m 49 i (nxC m))) = 107 → zB (zu (zu m 49 i (nxC m)) 2 3 ((m 2 3) + 1)) → T (D + 2) 109 (0, [(0, zr 48), (1, zr 2), (2, zi (i : Int))], [], (zu (zu m 49 i (nxC m)) 2 3 ((m 2 3) + 1))) (fun r m1 => T (D + 3) 108 (25, [(0, zr 48), (1, zr 2), (2, zi (i : Int))], r.toList ++ [], m1) κ))
    (k2 : ¬ (nxC (zu m 49 i (nxC m))) = 107 → (nxC (zu m 49 i (nxC m))) = 119 → (nxC (zu (zu m 49 i (nxC m)) 2 3 ((m 2 3) + 1))) < 48 → zB (zu (zu (zu m 49 i (nxC m)) 2 3 ((m 2 3) + 1)) 50 i (-1)) → κ (some (zi 0)) (zu (zu (zu m 49 i (nxC m)) 2 3 ((m 2 3) + 1)) 50 i (-1)))
    (k3 : ¬ (nxC (zu m 49 i (nxC m))) = 107 → (nxC (zu m 49 i (nxC m))) = 119 → ¬ (nxC (zu (zu m 49 i (nxC m)) 2 3 ((m 2 3) + 1))) < 48 → ¬ 57 < (nxC (zu (zu m 49 i (nxC m)) 2 3 ((m 2 3) + 1))) → zB (zu (zu (zu (zu m 49 i (nxC m)) 2 3 ((m 2 3) + 1)) 2 3 (((m 2 3) + 1) + 1)) 50 i ((nxC (zu (zu m 49 i (nxC m)) 2 3 ((m 2 3) + 1))) - 48)) → T (D + 2) 110 (0, [(0, zr 48), (1, zr 2), (2, zi (i : Int))], [], (zu (zu (zu (zu m 49 i (nxC m)) 2 3 ((m 2 3) + 1)) 2 3 (((m 2 3) + 1) + 1)) 50 i ((nxC (zu (zu m 49 i (nxC m)) 2 3 ((m 2 3) + 1))) - 48))) (fun r m1 => T (D + 3) 108 (84, [(0, zr 48), (1, zr 2), (2, zi (i : Int))], r.toList ++ [], m1) κ))
    (k4 : ¬ (nxC (zu m 49 i (nxC m))) = 107 → (nxC (zu m 49 i (nxC m))) = 119 → ¬ (nxC (zu (zu m 49 i (nxC m)) 2 3 ((m 2 3) + 1))) < 48 → 57 < (nxC (zu (zu m 49 i (nxC m)) 2 3 ((m 2 3) + 1))) → zB (zu (zu (zu m 49 i (nxC m)) 2 3 ((m 2 3) + 1)) 50 i (-1)) → κ (some (zi 0)) (zu (zu (zu m 49 i (nxC m)) 2 3 ((m 2 3) + 1)) 50 i (-1)))
    (k5 : ¬ (nxC (zu m 49 i (nxC m))) = 107 → ¬ (nxC (zu m 49 i (nxC m))) = 119 → (nxC (zu m 49 i (nxC m))) = 103 → (nxC (zu (zu m 49 i (nxC m)) 2 3 ((m 2 3) + 1))) < 48 → zB (zu (zu (zu m 49 i (nxC m)) 2 3 ((m 2 3) + 1)) 50 i (-1)) → κ (some (zi 0)) (zu (zu (zu m 49 i (nxC m)) 2 3 ((m 2 3) + 1)) 50 i (-1)))
    (k6 : ¬ (nxC (zu m 49 i (nxC m))) = 107 → ¬ (nxC (zu m 49 i (nxC m))) = 119 → (nxC (zu m 49 i (nxC m))) = 103 → ¬ (nxC (zu (zu m 49 i (nxC m)) 2 3 ((m 2 3) + 1))) < 48 → ¬ 57 < (nxC (zu (zu m 49 i (nxC m)) 2 3 ((m 2 3) + 1))) → zB (zu (zu (zu (zu m 49 i (nxC m)) 2 3 ((m 2 3) + 1)) 2 3 (((m 2 3) + 1) + 1)) 50 i ((nxC (zu (zu m 49 i (nxC m)) 2 3 ((m 2 3) + 1))) - 48)) → T (D + 2) 110 (0, [(0, zr 48), (1, zr 2), (2, zi (i : Int))], [], (zu (zu (zu (zu m 49 i (nxC m)) 2 3 ((m 2 3) + 1)) 2 3 (((m 2 3) + 1) + 1)) 50 i ((nxC (zu (zu m 49 i (nxC m)) 2 3 ((m 2 3) + 1))) - 48))) (fun r m1 => T (D + 3) 108 (84, [(0, zr 48), (1, zr 2), (2, zi (i : Int))], r.toList ++ [], m1) κ))
    (k7 : ¬ (nxC (zu m 49 i (nxC m))) = 107 → ¬ (nxC (zu m 49 i (nxC m))) = 119 → (nxC (zu m 49 i (nxC m))) = 103 → ¬ (nxC (zu (zu m 49 i (nxC m)) 2 3 ((m 2 3) + 1))) < 48 → 57 < (nxC (zu (zu m 49 i (nxC m)) 2 3 ((m 2 3) + 1))) → zB (zu (zu (zu m 49 i (nxC m)) 2 3 ((m 2 3) + 1)) 50 i (-1)) → κ (some (zi 0)) (zu (zu (zu m 49 i (nxC m)) 2 3 ((m 2 3) + 1)) 50 i (-1)))
    (k8 : ¬ (nxC (zu m 49 i (nxC m))) = 107 → ¬ (nxC (zu m 49 i (nxC m))) = 119 → ¬ (nxC (zu m 49 i (nxC m))) = 103 → (nxC (zu m 49 i (nxC m))) = 109 → (nxC (zu (zu m 49 i (nxC m)) 2 3 ((m 2 3) + 1))) < 48 → zB (zu (zu (zu m 49 i (nxC m)) 2 3 ((m 2 3) + 1)) 50 i (-1)) → κ (some (zi 0)) (zu (zu (zu m 49 i (nxC m)) 2 3 ((m 2 3) + 1)) 50 i (-1)))
    (k9 : ¬ (nxC (zu m 49 i (nxC m))) = 107 → ¬ (nxC (zu m 49 i (nxC m))) = 119 → ¬ (nxC (zu m 49 i (nxC m))) = 103 → (nxC (zu m 49 i (nxC m))) = 109 → ¬ (nxC (zu (zu m 49 i (nxC m)) 2 3 ((m 2 3) + 1))) < 48 → ¬ 57 < (nxC (zu (zu m 49 i (nxC m)) 2 3 ((m 2 3) + 1))) → zB (zu (zu (zu (zu m 49 i (nxC m)) 2 3 ((m 2 3) + 1)) 2 3 (((m 2 3) + 1) + 1)) 50 i ((nxC (zu (zu m 49 i (nxC m)) 2 3 ((m 2 3) + 1))) - 48)) → T (D + 2) 110 (0, [(0, zr 48), (1, zr 2), (2, zi (i : Int))], [], (zu (zu (zu (zu m 49 i (nxC m)) 2 3 ((m 2 3) + 1)) 2 3 (((m 2 3) + 1) + 1)) 50 i ((nxC (zu (zu m 49 i (nxC m)) 2 3 ((m 2 3) + 1))) - 48))) (fun r m1 => T (D + 3) 108 (84, [(0, zr 48), (1, zr 2), (2, zi (i : Int))], r.toList ++ [], m1) κ))
    (k10 : ¬ (nxC (zu m 49 i (nxC m))) = 107 → ¬ (nxC (zu m 49 i (nxC m))) = 119 → ¬ (nxC (zu m 49 i (nxC m))) = 103 → (nxC (zu m 49 i (nxC m))) = 109 → ¬ (nxC (zu (zu m 49 i (nxC m)) 2 3 ((m 2 3) + 1))) < 48 → 57 < (nxC (zu (zu m 49 i (nxC m)) 2 3 ((m 2 3) + 1))) → zB (zu (zu (zu m 49 i (nxC m)) 2 3 ((m 2 3) + 1)) 50 i (-1)) → κ (some (zi 0)) (zu (zu (zu m 49 i (nxC m)) 2 3 ((m 2 3) + 1)) 50 i (-1)))
    (k11 : ¬ (nxC (zu m 49 i (nxC m))) = 107 → ¬ (nxC (zu m 49 i (nxC m))) = 119 → ¬ (nxC (zu m 49 i (nxC m))) = 103 → ¬ (nxC (zu m 49 i (nxC m))) = 109 → zB (zu m 49 i (nxC m)) → κ (some (zi 0)) (zu m 49 i (nxC m))) :
    T (D + 3) 108 (0, [(0, zr 48), (1, zr 2), (2, zi (i : Int))], [], m) κ := by
  have hb2 : 0 ≤ (m 2 2) ∧ (m 2 2) ≤ 80 := hB 2 2
  have hb3 : (-1) ≤ (nxC m) ∧ (nxC m) ≤ 65535 := nxCBo m (fun j => hB 3 j)
  have hb4 : (-1) ≤ (nxC (zu m 49 i (nxC m))) ∧ (nxC (zu m 49 i (nxC m))) ≤ 65535 := nxCBo (zu m 49 i (nxC m)) (fun j => hB 3 j)
  have hb5 : (-1) ≤ (nxC (zu (zu m 49 i (nxC m)) 2 3 ((m 2 3) + 1))) ∧ (nxC (zu (zu m 49 i (nxC m)) 2 3 ((m 2 3) + 1))) ≤ 65535 := nxCBo (zu (zu m 49 i (nxC m)) 2 3 ((m 2 3) + 1)) (fun j => hB 3 j)
  have hb6 : (-1) ≤ ((zu (zu (zu m 49 i (nxC m)) 2 3 ((m 2 3) + 1)) 50 i (-1)) 50 i) ∧ ((zu (zu (zu m 49 i (nxC m)) 2 3 ((m 2 3) + 1)) 50 i (-1)) 50 i) ≤ (-1) := (by rw [show ((zu (zu (zu m 49 i (nxC m)) 2 3 ((m 2 3) + 1)) 50 i (-1)) 50 i) = (-1) from (zu_sm (by omega))]; exact ⟨Int.le_refl _, Int.le_refl _⟩)
  have he0 : wr (i : Int) = (i : Int) := wr_id (by omega) (by omega)
  have he1 : (i : Int).toNat = i := by omega
  have he2 : wr (nxC (zu m 49 i (nxC m))) = (nxC (zu m 49 i (nxC m))) := wr_id (by omega) (by omega)
  have he3 : wr (nxC (zu (zu m 49 i (nxC m)) 2 3 ((m 2 3) + 1))) = (nxC (zu (zu m 49 i (nxC m)) 2 3 ((m 2 3) + 1))) := wr_id (by omega) (by omega)
  have he4 : wr ((zu (zu (zu m 49 i (nxC m)) 2 3 ((m 2 3) + 1)) 50 i (-1)) 50 i) = ((zu (zu (zu m 49 i (nxC m)) 2 3 ((m 2 3) + 1)) 50 i (-1)) 50 i) := wr_id (by omega) (by omega)
  have he5 : wr ((nxC (zu (zu m 49 i (nxC m)) 2 3 ((m 2 3) + 1))) - 48) = ((nxC (zu (zu m 49 i (nxC m)) 2 3 ((m 2 3) + 1))) - 48) := wr_id (by omega) (by omega)
  have he6 : ((zu (zu (zu (zu m 49 i (nxC m)) 2 3 ((m 2 3) + 1)) 2 3 (((m 2 3) + 1) + 1)) 50 i ((nxC (zu (zu m 49 i (nxC m)) 2 3 ((m 2 3) + 1))) - 48)) 50 i) = ((nxC (zu (zu m 49 i (nxC m)) 2 3 ((m 2 3) + 1))) - 48) := (zu_sm (by omega))
  have key := @zb108_0r T hT D κ m i
  simp only [he0, he1, he2, he3, he4, he5, he6, Int.toNat_natCast] at key
  exact key
    (fun j => hB 3 j)
    (by refine ⟨?_, ?_⟩ <;> omega)
    (by refine ⟨?_, ?_⟩ <;> omega)
    (by refine ⟨?_, ?_⟩ <;> omega)
    (fun j => hB 3 j)
    (by refine ⟨?_, ?_⟩ <;> omega)
    (by refine ⟨?_, ?_⟩ <;> omega)
    (fun x0 => k1 x0 (zB_u (zB_u hB trivial) (show (-1) ≤ ((m 2 3) + 1) ∧ ((m 2 3) + 1) ≤ 100 from ⟨by omega, by omega⟩)))
    (fun x0 => fun j => hB 3 j)
    (fun x0 => by refine ⟨?_, ?_⟩ <;> omega)
    (fun x0 => by refine ⟨?_, ?_⟩ <;> omega)
    (fun x0 x1 => fun j => hB 3 j)
    (fun x0 x1 => by refine ⟨?_, ?_⟩ <;> omega)
    (fun x0 x1 => by refine ⟨?_, ?_⟩ <;> omega)
    (fun x0 x1 x2 => by refine ⟨?_, ?_⟩ <;> omega)
    (fun x0 x1 x2 => by refine ⟨?_, ?_⟩ <;> omega)
    (fun x0 x1 x2 x3 => k2 x0 x1 x2 (zB_u (zB_u (zB_u hB trivial) (show (-1) ≤ ((m 2 3) + 1) ∧ ((m 2 3) + 1) ≤ 100 from ⟨by omega, by omega⟩)) trivial))
    (fun x0 x1 x2 x3 => by omega)
    (fun x0 x1 x2 x3 => by refine ⟨?_, ?_⟩ <;> omega)
    (fun x0 x1 x2 x3 => by refine ⟨?_, ?_⟩ <;> omega)
    (fun x0 x1 x2 x3 x4 => by omega)
    (fun x0 x1 x2 x3 x4 => k3 x0 x1 x2 x3 (zB_u (zB_u (zB_u (zB_u hB trivial) (show (-1) ≤ ((m 2 3) + 1) ∧ ((m 2 3) + 1) ≤ 100 from ⟨by omega, by omega⟩)) (show (-1) ≤ (((m 2 3) + 1) + 1) ∧ (((m 2 3) + 1) + 1) ≤ 100 from ⟨by omega, by omega⟩)) trivial))
    (fun x0 x1 x2 x3 => by refine ⟨?_, ?_⟩ <;> omega)
    (fun x0 x1 x2 x3 => by refine ⟨?_, ?_⟩ <;> omega)
    (fun x0 x1 x2 x3 x4 => k4 x0 x1 x2 x3 (zB_u (zB_u (zB_u hB trivial) (show (-1) ≤ ((m 2 3) + 1) ∧ ((m 2 3) + 1) ≤ 100 from ⟨by omega, by omega⟩)) trivial))
    (fun x0 x1 x2 x3 x4 => by omega)
    (fun x0 x1 => fun j => hB 3 j)
    (fun x0 x1 => by refine ⟨?_, ?_⟩ <;> omega)
    (fun x0 x1 => by refine ⟨?_, ?_⟩ <;> omega)
    (fun x0 x1 x2 => fun j => hB 3 j)
    (fun x0 x1 x2 => by refine ⟨?_, ?_⟩ <;> omega)
    (fun x0 x1 x2 => by refine ⟨?_, ?_⟩ <;> omega)
    (fun x0 x1 x2 x3 => by refine ⟨?_, ?_⟩ <;> omega)
    (fun x0 x1 x2 x3 => by refine ⟨?_, ?_⟩ <;> omega)
    (fun x0 x1 x2 x3 x4 => k5 x0 x1 x2 x3 (zB_u (zB_u (zB_u hB trivial) (show (-1) ≤ ((m 2 3) + 1) ∧ ((m 2 3) + 1) ≤ 100 from ⟨by omega, by omega⟩)) trivial))
    (fun x0 x1 x2 x3 x4 => by omega)
    (fun x0 x1 x2 x3 x4 => by refine ⟨?_, ?_⟩ <;> omega)
    (fun x0 x1 x2 x3 x4 => by refine ⟨?_, ?_⟩ <;> omega)
    (fun x0 x1 x2 x3 x4 x5 => by omega)
    (fun x0 x1 x2 x3 x4 x5 => k6 x0 x1 x2 x3 x4 (zB_u (zB_u (zB_u (zB_u hB trivial) (show (-1) ≤ ((m 2 3) + 1) ∧ ((m 2 3) + 1) ≤ 100 from ⟨by omega, by omega⟩)) (show (-1) ≤ (((m 2 3) + 1) + 1) ∧ (((m 2 3) + 1) + 1) ≤ 100 from ⟨by omega, by omega⟩)) trivial))
    (fun x0 x1 x2 x3 x4 => by refine ⟨?_, ?_⟩ <;> omega)
    (fun x0 x1 x2 x3 x4 => by refine ⟨?_, ?_⟩ <;> omega)
    (fun x0 x1 x2 x3 x4 x5 => k7 x0 x1 x2 x3 x4 (zB_u (zB_u (zB_u hB trivial) (show (-1) ≤ ((m 2 3) + 1) ∧ ((m 2 3) + 1) ≤ 100 from ⟨by omega, by omega⟩)) trivial))
    (fun x0 x1 x2 x3 x4 x5 => by omega)
    (fun x0 x1 x2 => fun j => hB 3 j)
    (fun x0 x1 x2 => by refine ⟨?_, ?_⟩ <;> omega)
    (fun x0 x1 x2 => by refine ⟨?_, ?_⟩ <;> omega)
    (fun x0 x1 x2 x3 => fun j => hB 3 j)
    (fun x0 x1 x2 x3 => by refine ⟨?_, ?_⟩ <;> omega)
    (fun x0 x1 x2 x3 => by refine ⟨?_, ?_⟩ <;> omega)
    (fun x0 x1 x2 x3 x4 => by refine ⟨?_, ?_⟩ <;> omega)
    (fun x0 x1 x2 x3 x4 => by refine ⟨?_, ?_⟩ <;> omega)
    (fun x0 x1 x2 x3 x4 x5 => k8 x0 x1 x2 x3 x4 (zB_u (zB_u (zB_u hB trivial) (show (-1) ≤ ((m 2 3) + 1) ∧ ((m 2 3) + 1) ≤ 100 from ⟨by omega, by omega⟩)) trivial))
    (fun x0 x1 x2 x3 x4 x5 => by omega)
    (fun x0 x1 x2 x3 x4 x5 => by refine ⟨?_, ?_⟩ <;> omega)
    (fun x0 x1 x2 x3 x4 x5 => by refine ⟨?_, ?_⟩ <;> omega)
    (fun x0 x1 x2 x3 x4 x5 x6 => by omega)
    (fun x0 x1 x2 x3 x4 x5 x6 => k9 x0 x1 x2 x3 x4 x5 (zB_u (zB_u (zB_u (zB_u hB trivial) (show (-1) ≤ ((m 2 3) + 1) ∧ ((m 2 3) + 1) ≤ 100 from ⟨by omega, by omega⟩)) (show (-1) ≤ (((m 2 3) + 1) + 1) ∧ (((m 2 3) + 1) + 1) ≤ 100 from ⟨by omega, by omega⟩)) trivial))
    (fun x0 x1 x2 x3 x4 x5 => by refine ⟨?_, ?_⟩ <;> omega)
    (fun x0 x1 x2 x3 x4 x5 => by refine ⟨?_, ?_⟩ <;> omega)
    (fun x0 x1 x2 x3 x4 x5 x6 => k10 x0 x1 x2 x3 x4 x5 (zB_u (zB_u (zB_u hB trivial) (show (-1) ≤ ((m 2 3) + 1) ∧ ((m 2 3) + 1) ≤ 100 from ⟨by omega, by omega⟩)) trivial))
    (fun x0 x1 x2 x3 x4 x5 x6 => by omega)
    (fun x0 x1 x2 x3 => k11 x0 x1 x2 x3 (zB_u hB trivial))
theorem zb108_25r (hT : zRules T) {D : Nat} {κ : Option zA → zM → Prop} {m : zM} {v : Int} {lo : zL} (hlo : z_keep [] lo = []) 
    (o1 : (0 ≤ wr v ∧ wr v ≤ 1))
    (o2 : κ (some (zi (wr v))) m) :
    T (D + 3) 108 (25, lo, [zi v], m) κ :=
  zkeep hT hlo (hT.1 [] 6 (D + 3) 108 _ κ (And.intro (o1) (o2)))
theorem zb108_25 (hT : zRules T) {D : Nat} {κ : Option zA → zM → Prop} {m : zM} {v : Int} {lo : zL} (hlo : z_keep [] lo = [])  (h_v : 0 ≤ v ∧ v ≤ 1) 
    (k1 : κ (some (zi v)) m) :
    T (D + 3) 108 (25, lo, [zi v], m) κ := by
  have he0 : wr v = v := wr_id (by omega) (by omega)
  have key := @zb108_25r T hT D κ m v lo hlo
  simp only [he0, Int.toNat_natCast] at key
  exact key
    (by refine ⟨?_, ?_⟩ <;> omega)
    k1
theorem zb108_84r (hT : zRules T) {D : Nat} {κ : Option zA → zM → Prop} {m : zM} {v : Int} {lo : zL} (hlo : z_keep [] lo = []) 
    (o1 : wr v = 0 → κ (some (zi 0)) m)
    (o2 : ¬ wr v = 0 → κ (some (zi 1)) m) :
    T (D + 3) 108 (84, lo, [zi v], m) κ :=
  zkeep hT hlo (hT.1 [] 6 (D + 3) 108 _ κ (And.intro (fun a1 => (And.intro (z_b01L rfl) (o1 a1))) (fun a2 => (And.intro (z_b01L rfl) (o2 a2)))))
theorem zb108_84 (hT : zRules T) {D : Nat} {κ : Option zA → zM → Prop} {m : zM} {v : Int} {lo : zL} (hlo : z_keep [] lo = [])  (h_v : 0 ≤ v ∧ v ≤ 1) 
    (k1 : v = 0 → κ (some (zi 0)) m)
    (k2 : ¬ v = 0 → κ (some (zi 1)) m) :
    T (D + 3) 108 (84, lo, [zi v], m) κ := by
  have he0 : wr v = v := wr_id (by omega) (by omega)
  have key := @zb108_84r T hT D κ m v lo hlo
  simp only [he0, Int.toNat_natCast] at key
  exact key
    k1
    k2
theorem zb109_0r (hT : zRules T) {D : Nat} {κ : Option zA → zM → Prop} {m : zM} {i : Nat} 
    (o1 : ∀ j, zbd 3 j (m 3 j))
    (o2 : (0 ≤ (m 2 3) ∧ (m 2 3) ≤ 1000))
    (o3 : (0 ≤ (m 2 2) ∧ (m 2 2) ≤ 80))
    (o4 : wr (nxC m) < 49 → (0 ≤ wr (i : Int) ∧ wr (i : Int) < 30))
    (o5 : wr (nxC m) < 49 → κ (some (zi 1)) (zu m 50 ((wr (i : Int)).toNat) 1))
    (o6 : ¬ wr (nxC m) < 49 → ¬ 57 < wr (nxC m) → ¬ wr (wr ((nxC m) - 48)) = (-1) → (0 ≤ wr (i : Int) ∧ wr (i : Int) < 30))
    (o7 : ¬ wr (nxC m) < 49 → ¬ 57 < wr (nxC m) → ¬ wr (wr ((nxC m) - 48)) = (-1) → κ (some (zi 1)) (zu (zu m 2 3 ((m 2 3) + 1)) 50 ((wr (i : Int)).toNat) (wr ((nxC m) - 48))))
    (o8 : ¬ wr (nxC m) < 49 → ¬ 57 < wr (nxC m) → wr (wr ((nxC m) - 48)) = (-1) → False)
    (o9 : ¬ wr (nxC m) < 49 → 57 < wr (nxC m) → (0 ≤ wr (i : Int) ∧ wr (i : Int) < 30))
    (o10 : ¬ wr (nxC m) < 49 → 57 < wr (nxC m) → κ (some (zi 1)) (zu m 50 ((wr (i : Int)).toNat) 1)) :
    T (D + 2) 109 (0, [(0, zr 48), (1, zr 2), (2, zi (i : Int))], [], m) κ :=
  hT.1 [] 6 (D + 2) 109 _ κ (hT.1 [] 6 (D + 1) 71 _ _ (z_next hT (o1) (o2) (o3) (hT.1 [] 6 (D + 1) 71 _ _ (And.intro (fun a1 => (hT.1 [] 6 (D + 1) 71 (21, [(0, zr 2), (1, zi 1), (2, zi 9), (3, zi (nxC m))], [], m) _ (hT.1 [] 6 (D + 2) 109 _ _ (hT.1 [] 6 (D + 2) 109 (15, [(0, zr 48), (1, zr 2), (2, zi (i : Int)), (3, zi (-1))], [zi (-1), zi (-1), zi (i : Int), zr 50], m) _ (And.intro (fun a3 => (z_litF a3 rfl).elim) (fun _ => (And.intro (And.intro (o4 a1) trivial) (And.intro (z_b01L rfl) (o5 a1))))))))) (fun a2 => (hT.1 [] 6 (D + 1) 71 (13, [(0, zr 2), (1, zi 1), (2, zi 9), (3, zi (nxC m))], [], m) _ (And.intro (fun a4 => (hT.1 [] 6 (D + 1) 71 (24, [(0, zr 2), (1, zi 1), (2, zi 9), (3, zi (nxC m))], [zr 2], m) _ (And.intro trivial (hT.1 [] 6 (D + 1) 71 (34, [(0, zr 2), (1, zi 1), (2, zi 9), (3, zi (nxC m))], [zi (nxC m)], (zu m 2 3 ((m 2 3) + 1))) _ (hT.1 [] 6 (D + 2) 109 _ _ (hT.1 [] 6 (D + 2) 109 (15, [(0, zr 48), (1, zr 2), (2, zi (i : Int)), (3, zi (wr ((nxC m) - 48)))], [zi (-1), zi (wr ((nxC m) - 48)), zi (i : Int), zr 50], (zu m 2 3 ((m 2 3) + 1))) _ (And.intro (fun a6 => (And.intro (And.intro (o6 a2 a4 a6) trivial) (And.intro (z_b01L rfl) (o7 a2 a4 a6)))) (fun a7 => (o8 a2 a4 (Classical.byContradiction a7)).elim)))))))) (fun a5 => (hT.1 [] 6 (D + 1) 71 (22, [(0, zr 2), (1, zi 1), (2, zi 9), (3, zi (nxC m))], [zi (-1)], m) _ (hT.1 [] 6 (D + 2) 109 _ _ (hT.1 [] 6 (D + 2) 109 (15, [(0, zr 48), (1, zr 2), (2, zi (i : Int)), (3, zi (-1))], [zi (-1), zi (-1), zi (i : Int), zr 50], m) _ (And.intro (fun a8 => (z_litF a8 rfl).elim) (fun _ => (And.intro (And.intro (o9 a2 (Classical.byContradiction a5)) trivial) (And.intro (z_b01L rfl) (o10 a2 (Classical.byContradiction a5)))))))))))))))))
theorem zb109_0 (hT : zRules T) {D : Nat} {κ : Option zA → zM → Prop} {m : zM} {i : Nat}  (hB : zB m) (h_i : i ≤ 29) (hf0 : 0 ≤ m 2 3 ∧ m 2 3 ≤ 61) 
    (k1 : (nxC m) < 49 → zB (zu m 50 i 1) → κ (some (zi 1)) (zu m 50 i 1))
    (k2 : ¬ (nxC m) < 49 → ¬ 57 < (nxC m) → zB (zu (zu m 2 3 ((m 2 3) + 1)) 50 i ((nxC m) - 48)) → κ (some (zi 1)) (zu (zu m 2 3 ((m 2 3) + 1)) 50 i ((nxC m) - 48)))
    (k3 : ¬ (nxC m) < 49 → 57 < (nxC m) → zB (zu m 50 i 1) → κ (some (zi 1)) (zu m 50 i 1)) :
    T (D + 2) 109 (0, [(0, zr 48), (1, zr 2), (2, zi (i : Int))], [], m) κ := by
  have hb2 : 0 ≤ (m 2 2) ∧ (m 2 2) ≤ 80 := hB 2 2
  have hb3 : (-1) ≤ (nxC m) ∧ (nxC m) ≤ 65535 := nxCBo m (fun j => hB 3 j)
  have he0 : wr (nxC m) = (nxC m) := wr_id (by omega) (by omega)
  have he1 : wr (i : Int) = (i : Int) := wr_id (by omega) (by omega)
  have he2 : (i : Int).toNat = i := by omega
  have he3 : wr ((nxC m) - 48) = ((nxC m) - 48) := wr_id (by omega) (by omega)
  have key := @zb109_0r T hT D κ m i
  simp only [he0, he1, he2, he3, Int.toNat_natCast] at key
  exact key
    (fun j => hB 3 j)
    (by refine ⟨?_, ?_⟩ <;> omega)
    (by refine ⟨?_, ?_⟩ <;> omega)
    (fun x0 => by refine ⟨?_, ?_⟩ <;> omega)
    (fun x0 => k1 x0 (zB_u hB trivial))
    (fun x0 x1 x2 => by refine ⟨?_, ?_⟩ <;> omega)
    (fun x0 x1 x2 => k2 x0 x1 (zB_u (zB_u hB (show (-1) ≤ ((m 2 3) + 1) ∧ ((m 2 3) + 1) ≤ 100 from ⟨by omega, by omega⟩)) trivial))
    (fun x0 x1 x2 => by omega)
    (fun x0 x1 => by refine ⟨?_, ?_⟩ <;> omega)
    (fun x0 x1 => k3 x0 x1 (zB_u hB trivial))
theorem zb110_0r (hT : zRules T) {D : Nat} {κ : Option zA → zM → Prop} {m : zM} {i : Nat} 
    (o1 : (0 ≤ wr (i : Int) ∧ wr (i : Int) < 30))
    (o2 : ¬ wr (m 49 ((wr (i : Int)).toNat)) = 119 → (0 ≤ wr (i : Int) ∧ wr (i : Int) < 30))
    (o3 : ¬ wr (m 49 ((wr (i : Int)).toNat)) = 119 → ¬ wr (m 49 ((wr (i : Int)).toNat)) = 119 → (0 ≤ wr (i : Int) ∧ wr (i : Int) < 30))
    (o4 : ¬ wr (m 49 ((wr (i : Int)).toNat)) = 119 → ¬ wr (m 49 ((wr (i : Int)).toNat)) = 119 → ¬ wr (m 49 ((wr (i : Int)).toNat)) = 103 → ∀ j, zbd 3 j (m 3 j))
    (o5 : ¬ wr (m 49 ((wr (i : Int)).toNat)) = 119 → ¬ wr (m 49 ((wr (i : Int)).toNat)) = 119 → ¬ wr (m 49 ((wr (i : Int)).toNat)) = 103 → (0 ≤ (m 2 3) ∧ (m 2 3) ≤ 1000))
    (o6 : ¬ wr (m 49 ((wr (i : Int)).toNat)) = 119 → ¬ wr (m 49 ((wr (i : Int)).toNat)) = 119 → ¬ wr (m 49 ((wr (i : Int)).toNat)) = 103 → (0 ≤ (m 2 2) ∧ (m 2 2) ≤ 80))
    (o7 : ¬ wr (m 49 ((wr (i : Int)).toNat)) = 119 → ¬ wr (m 49 ((wr (i : Int)).toNat)) = 119 → ¬ wr (m 49 ((wr (i : Int)).toNat)) = 103 → wr (nxC m) = 61 → T (D + 1) 72 (0, [(0, zr 2), (1, zi 2)], [], (zu m 2 3 ((m 2 3) + 1))) (fun r m1 => T (D + 2) 110 (101, [(0, zr 48), (1, zr 2), (2, zi (i : Int))], r.toList ++ [zi (i : Int), zr 51], m1) κ))
    (o8 : ¬ wr (m 49 ((wr (i : Int)).toNat)) = 119 → ¬ wr (m 49 ((wr (i : Int)).toNat)) = 119 → ¬ wr (m 49 ((wr (i : Int)).toNat)) = 103 → ¬ wr (nxC m) = 61 → (0 ≤ wr (i : Int) ∧ wr (i : Int) < 30))
    (o9 : ¬ wr (m 49 ((wr (i : Int)).toNat)) = 119 → ¬ wr (m 49 ((wr (i : Int)).toNat)) = 119 → ¬ wr (m 49 ((wr (i : Int)).toNat)) = 103 → ¬ wr (nxC m) = 61 → (0 ≤ wr (i : Int) ∧ wr (i : Int) < 30))
    (o10 : ¬ wr (m 49 ((wr (i : Int)).toNat)) = 119 → ¬ wr (m 49 ((wr (i : Int)).toNat)) = 119 → ¬ wr (m 49 ((wr (i : Int)).toNat)) = 103 → ¬ wr (nxC m) = 61 → wr ((zu m 51 ((wr (i : Int)).toNat) (-1)) 51 ((wr (i : Int)).toNat)) = (-1) → κ (some (zi 0)) (zu m 51 ((wr (i : Int)).toNat) (-1)))
    (o11 : ¬ wr (m 49 ((wr (i : Int)).toNat)) = 119 → ¬ wr (m 49 ((wr (i : Int)).toNat)) = 119 → ¬ wr (m 49 ((wr (i : Int)).toNat)) = 103 → ¬ wr (nxC m) = 61 → ¬ wr ((zu m 51 ((wr (i : Int)).toNat) (-1)) 51 ((wr (i : Int)).toNat)) = (-1) → False)
    (o12 : ¬ wr (m 49 ((wr (i : Int)).toNat)) = 119 → ¬ wr (m 49 ((wr (i : Int)).toNat)) = 119 → wr (m 49 ((wr (i : Int)).toNat)) = 103 → ∀ j, zbd 3 j (m 3 j))
    (o13 : ¬ wr (m 49 ((wr (i : Int)).toNat)) = 119 → ¬ wr (m 49 ((wr (i : Int)).toNat)) = 119 → wr (m 49 ((wr (i : Int)).toNat)) = 103 → (0 ≤ (m 2 3) ∧ (m 2 3) ≤ 1000))
    (o14 : ¬ wr (m 49 ((wr (i : Int)).toNat)) = 119 → ¬ wr (m 49 ((wr (i : Int)).toNat)) = 119 → wr (m 49 ((wr (i : Int)).toNat)) = 103 → (0 ≤ (m 2 2) ∧ (m 2 2) ≤ 80))
    (o15 : ¬ wr (m 49 ((wr (i : Int)).toNat)) = 119 → ¬ wr (m 49 ((wr (i : Int)).toNat)) = 119 → wr (m 49 ((wr (i : Int)).toNat)) = 103 → wr (nxC m) < 48 → (0 ≤ wr (i : Int) ∧ wr (i : Int) < 30))
    (o16 : ¬ wr (m 49 ((wr (i : Int)).toNat)) = 119 → ¬ wr (m 49 ((wr (i : Int)).toNat)) = 119 → wr (m 49 ((wr (i : Int)).toNat)) = 103 → wr (nxC m) < 48 → (0 ≤ wr (i : Int) ∧ wr (i : Int) < 30))
    (o17 : ¬ wr (m 49 ((wr (i : Int)).toNat)) = 119 → ¬ wr (m 49 ((wr (i : Int)).toNat)) = 119 → wr (m 49 ((wr (i : Int)).toNat)) = 103 → wr (nxC m) < 48 → wr ((zu m 51 ((wr (i : Int)).toNat) (-1)) 51 ((wr (i : Int)).toNat)) = (-1) → κ (some (zi 0)) (zu m 51 ((wr (i : Int)).toNat) (-1)))
    (o18 : ¬ wr (m 49 ((wr (i : Int)).toNat)) = 119 → ¬ wr (m 49 ((wr (i : Int)).toNat)) = 119 → wr (m 49 ((wr (i : Int)).toNat)) = 103 → wr (nxC m) < 48 → ¬ wr ((zu m 51 ((wr (i : Int)).toNat) (-1)) 51 ((wr (i : Int)).toNat)) = (-1) → False)
    (o19 : ¬ wr (m 49 ((wr (i : Int)).toNat)) = 119 → ¬ wr (m 49 ((wr (i : Int)).toNat)) = 119 → wr (m 49 ((wr (i : Int)).toNat)) = 103 → ¬ wr (nxC m) < 48 → ¬ 51 < wr (nxC m) → (0 ≤ wr (i : Int) ∧ wr (i : Int) < 30))
    (o20 : ¬ wr (m 49 ((wr (i : Int)).toNat)) = 119 → ¬ wr (m 49 ((wr (i : Int)).toNat)) = 119 → wr (m 49 ((wr (i : Int)).toNat)) = 103 → ¬ wr (nxC m) < 48 → ¬ 51 < wr (nxC m) → (0 ≤ wr (i : Int) ∧ wr (i : Int) < 30))
    (o21 : ¬ wr (m 49 ((wr (i : Int)).toNat)) = 119 → ¬ wr (m 49 ((wr (i : Int)).toNat)) = 119 → wr (m 49 ((wr (i : Int)).toNat)) = 103 → ¬ wr (nxC m) < 48 → ¬ 51 < wr (nxC m) → wr ((zu (zu m 2 3 ((m 2 3) + 1)) 51 ((wr (i : Int)).toNat) (wr ((nxC m) - 48))) 51 ((wr (i : Int)).toNat)) = (-1) → False)
    (o22 : ¬ wr (m 49 ((wr (i : Int)).toNat)) = 119 → ¬ wr (m 49 ((wr (i : Int)).toNat)) = 119 → wr (m 49 ((wr (i : Int)).toNat)) = 103 → ¬ wr (nxC m) < 48 → ¬ 51 < wr (nxC m) → ¬ wr ((zu (zu m 2 3 ((m 2 3) + 1)) 51 ((wr (i : Int)).toNat) (wr ((nxC m) - 48))) 51 ((wr (i : Int)).toNat)) = (-1) → κ (some (zi 1)) (zu (zu m 2 3 ((m 2 3) + 1)) 51 ((wr (i : Int)).toNat) (wr ((nxC m) - 48))))
    (o23 : ¬ wr (m 49 ((wr (i : Int)).toNat)) = 119 → ¬ wr (m 49 ((wr (i : Int)).toNat)) = 119 → wr (m 49 ((wr (i : Int)).toNat)) = 103 → ¬ wr (nxC m) < 48 → 51 < wr (nxC m) → (0 ≤ wr (i : Int) ∧ wr (i : Int) < 30))
    (o24 : ¬ wr (m 49 ((wr (i : Int)).toNat)) = 119 → ¬ wr (m 49 ((wr (i : Int)).toNat)) = 119 → wr (m 49 ((wr (i : Int)).toNat)) = 103 → ¬ wr (nxC m) < 48 → 51 < wr (nxC m) → (0 ≤ wr (i : Int) ∧ wr (i : Int) < 30))
    (o25 : ¬ wr (m 49 ((wr (i : Int)).toNat)) = 119 → ¬ wr (m 49 ((wr (i : Int)).toNat)) = 119 → wr (m 49 ((wr (i : Int)).toNat)) = 103 → ¬ wr (nxC m) < 48 → 51 < wr (nxC m) → wr ((zu m 51 ((wr (i : Int)).toNat) (-1)) 51 ((wr (i : Int)).toNat)) = (-1) → κ (some (zi 0)) (zu m 51 ((wr (i : Int)).toNat) (-1)))
    (o26 : ¬ wr (m 49 ((wr (i : Int)).toNat)) = 119 → ¬ wr (m 49 ((wr (i : Int)).toNat)) = 119 → wr (m 49 ((wr (i : Int)).toNat)) = 103 → ¬ wr (nxC m) < 48 → 51 < wr (nxC m) → ¬ wr ((zu m 51 ((wr (i : Int)).toNat) (-1)) 51 ((wr (i : Int)).toNat)) = (-1) → False)
    (o27 : ¬ wr (m 49 ((wr (i : Int)).toNat)) = 119 → wr (m 49 ((wr (i : Int)).toNat)) = 119 → False)
    (o28 : wr (m 49 ((wr (i : Int)).toNat)) = 119 → ∀ j, zbd 3 j (m 3 j))
    (o29 : wr (m 49 ((wr (i : Int)).toNat)) = 119 → (0 ≤ (m 2 3) ∧ (m 2 3) ≤ 1000))
    (o30 : wr (m 49 ((wr (i : Int)).toNat)) = 119 → (0 ≤ (m 2 2) ∧ (m 2 2) ≤ 80))
    (o31 : wr (m 49 ((wr (i : Int)).toNat)) = 119 → wr (nxC m) = 45 → (0 ≤ wr (i : Int) ∧ wr (i : Int) < 30))
    (o32 : wr (m 49 ((wr (i : Int)).toNat)) = 119 → wr (nxC m) = 45 → κ (some (zi 1)) (zu (zu m 2 3 ((m 2 3) + 1)) 51 ((wr (i : Int)).toNat) (-1)))
    (o33 : wr (m 49 ((wr (i : Int)).toNat)) = 119 → ¬ wr (nxC m) = 45 → (0 ≤ wr (i : Int) ∧ wr (i : Int) < 30))
    (o34 : wr (m 49 ((wr (i : Int)).toNat)) = 119 → ¬ wr (nxC m) = 45 → ¬ wr (m 49 ((wr (i : Int)).toNat)) = 119 → False)
    (o35 : wr (m 49 ((wr (i : Int)).toNat)) = 119 → ¬ wr (nxC m) = 45 → wr (m 49 ((wr (i : Int)).toNat)) = 119 → ∀ j, zbd 3 j (m 3 j))
    (o36 : wr (m 49 ((wr (i : Int)).toNat)) = 119 → ¬ wr (nxC m) = 45 → wr (m 49 ((wr (i : Int)).toNat)) = 119 → (0 ≤ (m 2 3) ∧ (m 2 3) ≤ 1000))
    (o37 : wr (m 49 ((wr (i : Int)).toNat)) = 119 → ¬ wr (nxC m) = 45 → wr (m 49 ((wr (i : Int)).toNat)) = 119 → (0 ≤ (m 2 2) ∧ (m 2 2) ≤ 80))
    (o38 : wr (m 49 ((wr (i : Int)).toNat)) = 119 → ¬ wr (nxC m) = 45 → wr (m 49 ((wr (i : Int)).toNat)) = 119 → wr (nxC m) < 48 → (0 ≤ wr (i : Int) ∧ wr (i : Int) < 30))
    (o39 : wr (m 49 ((wr (i : Int)).toNat)) = 119 → ¬ wr (nxC m) = 45 → wr (m 49 ((wr (i : Int)).toNat)) = 119 → wr (nxC m) < 48 → (0 ≤ wr (i : Int) ∧ wr (i : Int) < 30))
    (o40 : wr (m 49 ((wr (i : Int)).toNat)) = 119 → ¬ wr (nxC m) = 45 → wr (m 49 ((wr (i : Int)).toNat)) = 119 → wr (nxC m) < 48 → wr ((zu m 51 ((wr (i : Int)).toNat) (-1)) 51 ((wr (i : Int)).toNat)) = (-1) → κ (some (zi 0)) (zu m 51 ((wr (i : Int)).toNat) (-1)))
    (o41 : wr (m 49 ((wr (i : Int)).toNat)) = 119 → ¬ wr (nxC m) = 45 → wr (m 49 ((wr (i : Int)).toNat)) = 119 → wr (nxC m) < 48 → ¬ wr ((zu m 51 ((wr (i : Int)).toNat) (-1)) 51 ((wr (i : Int)).toNat)) = (-1) → False)
    (o42 : wr (m 49 ((wr (i : Int)).toNat)) = 119 → ¬ wr (nxC m) = 45 → wr (m 49 ((wr (i : Int)).toNat)) = 119 → ¬ wr (nxC m) < 48 → ¬ 57 < wr (nxC m) → (0 ≤ wr (i : Int) ∧ wr (i : Int) < 30))
    (o43 : wr (m 49 ((wr (i : Int)).toNat)) = 119 → ¬ wr (nxC m) = 45 → wr (m 49 ((wr (i : Int)).toNat)) = 119 → ¬ wr (nxC m) < 48 → ¬ 57 < wr (nxC m) → (0 ≤ wr (i : Int) ∧ wr (i : Int) < 30))
    (o44 : wr (m 49 ((wr (i : Int)).toNat)) = 119 → ¬ wr (nxC m) = 45 → wr (m 49 ((wr (i : Int)).toNat)) = 119 → ¬ wr (nxC m) < 48 → ¬ 57 < wr (nxC m) → wr ((zu (zu m 2 3 ((m 2 3) + 1)) 51 ((wr (i : Int)).toNat) (wr ((nxC m) - 48))) 51 ((wr (i : Int)).toNat)) = (-1) → False)
    (o45 : wr (m 49 ((wr (i : Int)).toNat)) = 119 → ¬ wr (nxC m) = 45 → wr (m 49 ((wr (i : Int)).toNat)) = 119 → ¬ wr (nxC m) < 48 → ¬ 57 < wr (nxC m) → ¬ wr ((zu (zu m 2 3 ((m 2 3) + 1)) 51 ((wr (i : Int)).toNat) (wr ((nxC m) - 48))) 51 ((wr (i : Int)).toNat)) = (-1) → κ (some (zi 1)) (zu (zu m 2 3 ((m 2 3) + 1)) 51 ((wr (i : Int)).toNat) (wr ((nxC m) - 48))))
    (o46 : wr (m 49 ((wr (i : Int)).toNat)) = 119 → ¬ wr (nxC m) = 45 → wr (m 49 ((wr (i : Int)).toNat)) = 119 → ¬ wr (nxC m) < 48 → 57 < wr (nxC m) → (0 ≤ wr (i : Int) ∧ wr (i : Int) < 30))
    (o47 : wr (m 49 ((wr (i : Int)).toNat)) = 119 → ¬ wr (nxC m) = 45 → wr (m 49 ((wr (i : Int)).toNat)) = 119 → ¬ wr (nxC m) < 48 → 57 < wr (nxC m) → (0 ≤ wr (i : Int) ∧ wr (i : Int) < 30))
    (o48 : wr (m 49 ((wr (i : Int)).toNat)) = 119 → ¬ wr (nxC m) = 45 → wr (m 49 ((wr (i : Int)).toNat)) = 119 → ¬ wr (nxC m) < 48 → 57 < wr (nxC m) → wr ((zu m 51 ((wr (i : Int)).toNat) (-1)) 51 ((wr (i : Int)).toNat)) = (-1) → κ (some (zi 0)) (zu m 51 ((wr (i : Int)).toNat) (-1)))
    (o49 : wr (m 49 ((wr (i : Int)).toNat)) = 119 → ¬ wr (nxC m) = 45 → wr (m 49 ((wr (i : Int)).toNat)) = 119 → ¬ wr (nxC m) < 48 → 57 < wr (nxC m) → ¬ wr ((zu m 51 ((wr (i : Int)).toNat) (-1)) 51 ((wr (i : Int)).toNat)) = (-1) → False) :
    T (D + 2) 110 (0, [(0, zr 48), (1, zr 2), (2, zi (i : Int))], [], m) κ :=
  hT.1 [] 6 (D + 2) 110 _ κ (And.intro (o1) (And.intro (fun a1 => (hT.1 [] 6 (D + 2) 110 (29, [(0, zr 48), (1, zr 2), (2, zi (i : Int))], [], m) _ (And.intro (o2 a1) (And.intro (fun a3 => (hT.1 [] 6 (D + 2) 110 (56, [(0, zr 48), (1, zr 2), (2, zi (i : Int))], [], m) _ (And.intro (o3 a1 a3) (And.intro (fun a5 => (hT.1 [] 6 (D + 2) 110 (82, [(0, zr 48), (1, zr 2), (2, zi (i : Int))], [], m) _ (hT.1 [] 6 (D + 1) 70 _ _ (z_next hT (o4 a1 a3 a5) (o5 a1 a3 a5) (o6 a1 a3 a5) (hT.1 [] 6 (D + 1) 70 _ _ (And.intro (fun a7 => (hT.1 [] 6 (D + 1) 70 (16, [(0, zr 2), (1, zi 61)], [zi 1, zi (m 2 3), zr 2], m) _ (And.intro trivial (And.intro (z_b01L rfl) (hT.1 [] 6 (D + 2) 110 _ _ (And.intro (fun a9 => (z_litF a9 rfl).elim) (fun _ => (o7 a1 a3 a5 a7)))))))) (fun a8 => (And.intro (z_b01L rfl) (hT.1 [] 6 (D + 2) 110 _ _ (And.intro (fun _ => (And.intro (And.intro (o8 a1 a3 a5 a8) trivial) (hT.1 [] 6 (D + 2) 110 (111, [(0, zr 48), (1, zr 2), (2, zi (i : Int))], [zi (i : Int), zr 51], (zu m 51 ((wr (i : Int)).toNat) (-1))) _ (And.intro (o9 a1 a3 a5 a8) (And.intro (fun a11 => (And.intro (z_b01L rfl) (o10 a1 a3 a5 a8 a11))) (fun a12 => (o11 a1 a3 a5 a8 a12).elim)))))) (fun a10 => (a10 (z_litT rfl)).elim))))))))))) (fun a6 => (hT.1 [] 6 (D + 2) 110 (67, [(0, zr 48), (1, zr 2), (2, zi (i : Int))], [], m) _ (hT.1 [] 6 (D + 2) 110 (75, [(0, zr 48), (1, zr 2), (2, zi (i : Int))], [zi 3, zi 0, zr 2, zi (i : Int), zr 51], m) _ (hT.1 [] 6 (D + 1) 71 _ _ (z_next hT (o12 a1 a3 (Classical.byContradiction a6)) (o13 a1 a3 (Classical.byContradiction a6)) (o14 a1 a3 (Classical.byContradiction a6)) (hT.1 [] 6 (D + 1) 71 _ _ (And.intro (fun a13 => (hT.1 [] 6 (D + 1) 71 (21, [(0, zr 2), (1, zi 0), (2, zi 3), (3, zi (nxC m))], [], m) _ (hT.1 [] 6 (D + 2) 110 _ _ (And.intro (And.intro (o15 a1 a3 (Classical.byContradiction a6) a13) trivial) (And.intro (o16 a1 a3 (Classical.byContradiction a6) a13) (hT.1 [] 6 (D + 2) 110 (112, [(0, zr 48), (1, zr 2), (2, zi (i : Int))], [zi ((zu m 51 ((wr (i : Int)).toNat) (-1)) 51 ((wr (i : Int)).toNat))], (zu m 51 ((wr (i : Int)).toNat) (-1))) _ (And.intro (fun a15 => (And.intro (z_b01L rfl) (o17 a1 a3 (Classical.byContradiction a6) a13 a15))) (fun a16 => (o18 a1 a3 (Classical.byContradiction a6) a13 a16).elim)))))))) (fun a14 => (hT.1 [] 6 (D + 1) 71 (13, [(0, zr 2), (1, zi 0), (2, zi 3), (3, zi (nxC m))], [], m) _ (And.intro (fun a17 => (hT.1 [] 6 (D + 1) 71 (24, [(0, zr 2), (1, zi 0), (2, zi 3), (3, zi (nxC m))], [zr 2], m) _ (And.intro trivial (hT.1 [] 6 (D + 1) 71 (34, [(0, zr 2), (1, zi 0), (2, zi 3), (3, zi (nxC m))], [zi (nxC m)], (zu m 2 3 ((m 2 3) + 1))) _ (hT.1 [] 6 (D + 2) 110 _ _ (And.intro (And.intro (o19 a1 a3 (Classical.byContradiction a6) a14 a17) trivial) (And.intro (o20 a1 a3 (Classical.byContradiction a6) a14 a17) (hT.1 [] 6 (D + 2) 110 (112, [(0, zr 48), (1, zr 2), (2, zi (i : Int))], [zi ((zu (zu m 2 3 ((m 2 3) + 1)) 51 ((wr (i : Int)).toNat) (wr ((nxC m) - 48))) 51 ((wr (i : Int)).toNat))], (zu (zu m 2 3 ((m 2 3) + 1)) 51 ((wr (i : Int)).toNat) (wr ((nxC m) - 48)))) _ (And.intro (fun a19 => (o21 a1 a3 (Classical.byContradiction a6) a14 a17 a19).elim) (fun a20 => (And.intro (z_b01L rfl) (o22 a1 a3 (Classical.byContradiction a6) a14 a17 a20)))))))))))) (fun a18 => (hT.1 [] 6 (D + 1) 71 (22, [(0, zr 2), (1, zi 0), (2, zi 3), (3, zi (nxC m))], [zi (-1)], m) _ (hT.1 [] 6 (D + 2) 110 _ _ (And.intro (And.intro (o23 a1 a3 (Classical.byContradiction a6) a14 (Classical.byContradiction a18)) trivial) (And.intro (o24 a1 a3 (Classical.byContradiction a6) a14 (Classical.byContradiction a18)) (hT.1 [] 6 (D + 2) 110 (112, [(0, zr 48), (1, zr 2), (2, zi (i : Int))], [zi ((zu m 51 ((wr (i : Int)).toNat) (-1)) 51 ((wr (i : Int)).toNat))], (zu m 51 ((wr (i : Int)).toNat) (-1))) _ (And.intro (fun a21 => (And.intro (z_b01L rfl) (o25 a1 a3 (Classical.byContradiction a6) a14 (Classical.byContradiction a18) a21))) (fun a22 => (o26 a1 a3 (Classical.byContradiction a6) a14 (Classical.byContradiction a18) a22).elim)))))))))))))))))))))) (fun a4 => (o27 a1 (Classical.byContradiction a4)).elim))))) (fun a2 => (hT.1 [] 6 (D + 2) 110 (11, [(0, zr 48), (1, zr 2), (2, zi (i : Int))], [], m) _ (hT.1 [] 6 (D + 1) 70 _ _ (z_next hT (o28 (Classical.byContradiction a2)) (o29 (Classical.byContradiction a2)) (o30 (Classical.byContradiction a2)) (hT.1 [] 6 (D + 1) 70 _ _ (And.intro (fun a23 => (hT.1 [] 6 (D + 1) 70 (16, [(0, zr 2), (1, zi 45)], [zi 1, zi (m 2 3), zr 2], m) _ (And.intro trivial (And.intro (z_b01L rfl) (hT.1 [] 6 (D + 2) 110 _ _ (And.intro (fun a25 => (z_litF a25 rfl).elim) (fun _ => (And.intro (And.intro (o31 (Classical.byContradiction a2) a23) trivial) (hT.1 [] 6 (D + 2) 110 (27, [(0, zr 48), (1, zr 2), (2, zi (i : Int))], [], (zu (zu m 2 3 ((m 2 3) + 1)) 51 ((wr (i : Int)).toNat) (-1))) _ (And.intro (z_b01L rfl) (o32 (Classical.byContradiction a2) a23))))))))))) (fun a24 => (And.intro (z_b01L rfl) (hT.1 [] 6 (D + 2) 110 _ _ (And.intro (fun _ => (And.intro (o33 (Classical.byContradiction a2) a24) (hT.1 [] 6 (D + 2) 110 (37, [(0, zr 48), (1, zr 2), (2, zi (i : Int))], [zi 119, zi (m 49 ((wr (i : Int)).toNat))], m) _ (And.intro (fun a27 => (o34 (Classical.byContradiction a2) a24 a27).elim) (fun a28 => (hT.1 [] 6 (D + 2) 110 (47, [(0, zr 48), (1, zr 2), (2, zi (i : Int))], [zi 0, zr 2, zi (i : Int), zr 51], m) _ (hT.1 [] 6 (D + 1) 71 _ _ (z_next hT (o35 (Classical.byContradiction a2) a24 (Classical.byContradiction a28)) (o36 (Classical.byContradiction a2) a24 (Classical.byContradiction a28)) (o37 (Classical.byContradiction a2) a24 (Classical.byContradiction a28)) (hT.1 [] 6 (D + 1) 71 _ _ (And.intro (fun a29 => (hT.1 [] 6 (D + 1) 71 (21, [(0, zr 2), (1, zi 0), (2, zi 9), (3, zi (nxC m))], [], m) _ (hT.1 [] 6 (D + 2) 110 _ _ (And.intro (And.intro (o38 (Classical.byContradiction a2) a24 (Classical.byContradiction a28) a29) trivial) (And.intro (o39 (Classical.byContradiction a2) a24 (Classical.byContradiction a28) a29) (hT.1 [] 6 (D + 2) 110 (112, [(0, zr 48), (1, zr 2), (2, zi (i : Int))], [zi ((zu m 51 ((wr (i : Int)).toNat) (-1)) 51 ((wr (i : Int)).toNat))], (zu m 51 ((wr (i : Int)).toNat) (-1))) _ (And.intro (fun a31 => (And.intro (z_b01L rfl) (o40 (Classical.byContradiction a2) a24 (Classical.byContradiction a28) a29 a31))) (fun a32 => (o41 (Classical.byContradiction a2) a24 (Classical.byContradiction a28) a29 a32).elim)))))))) (fun a30 => (hT.1 [] 6 (D + 1) 71 (13, [(0, zr 2), (1, zi 0), (2, zi 9), (3, zi (nxC m))], [], m) _ (And.intro (fun a33 => (hT.1 [] 6 (D + 1) 71 (24, [(0, zr 2), (1, zi 0), (2, zi 9), (3, zi (nxC m))], [zr 2], m) _ (And.intro trivial (hT.1 [] 6 (D + 1) 71 (34, [(0, zr 2), (1, zi 0), (2, zi 9), (3, zi (nxC m))], [zi (nxC m)], (zu m 2 3 ((m 2 3) + 1))) _ (hT.1 [] 6 (D + 2) 110 _ _ (And.intro (And.intro (o42 (Classical.byContradiction a2) a24 (Classical.byContradiction a28) a30 a33) trivial) (And.intro (o43 (Classical.byContradiction a2) a24 (Classical.byContradiction a28) a30 a33) (hT.1 [] 6 (D + 2) 110 (112, [(0, zr 48), (1, zr 2), (2, zi (i : Int))], [zi ((zu (zu m 2 3 ((m 2 3) + 1)) 51 ((wr (i : Int)).toNat) (wr ((nxC m) - 48))) 51 ((wr (i : Int)).toNat))], (zu (zu m 2 3 ((m 2 3) + 1)) 51 ((wr (i : Int)).toNat) (wr ((nxC m) - 48)))) _ (And.intro (fun a35 => (o44 (Classical.byContradiction a2) a24 (Classical.byContradiction a28) a30 a33 a35).elim) (fun a36 => (And.intro (z_b01L rfl) (o45 (Classical.byContradiction a2) a24 (Classical.byContradiction a28) a30 a33 a36)))))))))))) (fun a34 => (hT.1 [] 6 (D + 1) 71 (22, [(0, zr 2), (1, zi 0), (2, zi 9), (3, zi (nxC m))], [zi (-1)], m) _ (hT.1 [] 6 (D + 2) 110 _ _ (And.intro (And.intro (o46 (Classical.byContradiction a2) a24 (Classical.byContradiction a28) a30 (Classical.byContradiction a34)) trivial) (And.intro (o47 (Classical.byContradiction a2) a24 (Classical.byContradiction a28) a30 (Classical.byContradiction a34)) (hT.1 [] 6 (D + 2) 110 (112, [(0, zr 48), (1, zr 2), (2, zi (i : Int))], [zi ((zu m 51 ((wr (i : Int)).toNat) (-1)) 51 ((wr (i : Int)).toNat))], (zu m 51 ((wr (i : Int)).toNat) (-1))) _ (And.intro (fun a37 => (And.intro (z_b01L rfl) (o48 (Classical.byContradiction a2) a24 (Classical.byContradiction a28) a30 (Classical.byContradiction a34) a37))) (fun a38 => (o49 (Classical.byContradiction a2) a24 (Classical.byContradiction a28) a30 (Classical.byContradiction a34) a38).elim))))))))))))))))))))) (fun a26 => (a26 (z_litT rfl)).elim)))))))))))))
theorem zb110_0 (hT : zRules T) {D : Nat} {κ : Option zA → zM → Prop} {m : zM} {i : Nat}  (hB : zB m) (h_i : i ≤ 29) (hf0 : 0 ≤ m 2 3 ∧ m 2 3 ≤ 62) 
    (k1 : ¬ wr (m 49 i) = 119 → ¬ wr (m 49 i) = 103 → (nxC m) = 61 → zB (zu m 2 3 ((m 2 3) + 1)) → T (D + 1) 72 (0, [(0, zr 2), (1, zi 2)], [], (zu m 2 3 ((m 2 3) + 1))) (fun r m1 => T (D + 2) 110 (101, [(0, zr 48), (1, zr 2), (2, zi (i : Int))], r.toList ++ [zi (i : Int), zr 51], m1) κ))
    (k2 : ¬ wr (m 49 i) = 119 → ¬ wr (m 49 i) = 103 → ¬ (nxC m) = 61 → zB (zu m 51 i (-1)) → κ (some (zi 0)) (zu m 51 i (-1)))
    (k3 : ¬ wr (m 49 i) = 119 → wr (m 49 i) = 103 → (nxC m) < 48 → zB (zu m 51 i (-1)) → κ (some (zi 0)) (zu m 51 i (-1)))
    (k4 : ¬ wr (m 49 i) = 119 → wr (m 49 i) = 103 → ¬ (nxC m) < 48 → ¬ 51 < (nxC m) → zB (zu (zu m 2 3 ((m 2 3) + 1)) 51 i ((nxC m) - 48)) → κ (some (zi 1)) (zu (zu m 2 3 ((m 2 3) + 1)) 51 i ((nxC m) - 48)))
    (k5 : ¬ wr (m 49 i) = 119 → wr (m 49 i) = 103 → ¬ (nxC m) < 48 → 51 < (nxC m) → zB (zu m 51 i (-1)) → κ (some (zi 0)) (zu m 51 i (-1)))
    (k6 : wr (m 49 i) = 119 → (nxC m) = 45 → zB (zu (zu m 2 3 ((m 2 3) + 1)) 51 i (-1)) → κ (some (zi 1)) (zu (zu m 2 3 ((m 2 3) + 1)) 51 i (-1)))
    (k7 : wr (m 49 i) = 119 → ¬ (nxC m) = 45 → (nxC m) < 48 → zB (zu m 51 i (-1)) → κ (some (zi 0)) (zu m 51 i (-1)))
    (k8 : wr (m 49 i) = 119 → ¬ (nxC m) = 45 → ¬ (nxC m) < 48 → ¬ 57 < (nxC m) → zB (zu (zu m 2 3 ((m 2 3) + 1)) 51 i ((nxC m) - 48)) → κ (some (zi 1)) (zu (zu m 2 3 ((m 2 3) + 1)) 51 i ((nxC m) - 48)))
    (k9 : wr (m 49 i) = 119 → ¬ (nxC m) = 45 → ¬ (nxC m) < 48 → 57 < (nxC m) → zB (zu m 51 i (-1)) → κ (some (zi 0)) (zu m 51 i (-1))) :
    T (D + 2) 110 (0, [(0, zr 48), (1, zr 2), (2, zi (i : Int))], [], m) κ := by
  have hb2 : (-2147483648) ≤ wr (m 49 i) ∧ wr (m 49 i) ≤ 2147483647 := wrB (m 49 i)
  have hb3 : 0 ≤ (m 2 2) ∧ (m 2 2) ≤ 80 := hB 2 2
  have hb4 : (-1) ≤ (nxC m) ∧ (nxC m) ≤ 65535 := nxCBo m (fun j => hB 3 j)
  have hb5 : (-1) ≤ ((zu m 51 i (-1)) 51 i) ∧ ((zu m 51 i (-1)) 51 i) ≤ (-1) := (by rw [show ((zu m 51 i (-1)) 51 i) = (-1) from (zu_sm (by omega))]; exact ⟨Int.le_refl _, Int.le_refl _⟩)
  have he0 : wr (i : Int) = (i : Int) := wr_id (by omega) (by omega)
  have he1 : (i : Int).toNat = i := by omega
  have he2 : wr (nxC m) = (nxC m) := wr_id (by omega) (by omega)
  have he3 : wr ((zu m 51 i (-1)) 51 i) = ((zu m 51 i (-1)) 51 i) := wr_id (by omega) (by omega)
  have he4 : wr ((nxC m) - 48) = ((nxC m) - 48) := wr_id (by omega) (by omega)
  have he5 : ((zu (zu m 2 3 ((m 2 3) + 1)) 51 i ((nxC m) - 48)) 51 i) = ((nxC m) - 48) := (zu_sm (by omega))
  have key := @zb110_0r T hT D κ m i
  simp only [he0, he1, he2, he3, he4, he5, Int.toNat_natCast] at key
  exact key
    (by refine ⟨?_, ?_⟩ <;> omega)
    (fun x0 => by refine ⟨?_, ?_⟩ <;> omega)
    (fun x0 x1 => by refine ⟨?_, ?_⟩ <;> omega)
    (fun x0 x1 x2 => fun j => hB 3 j)
    (fun x0 x1 x2 => by refine ⟨?_, ?_⟩ <;> omega)
    (fun x0 x1 x2 => by refine ⟨?_, ?_⟩ <;> omega)
    (fun x0 x1 x2 x3 => k1 x0 x2 x3 (zB_u hB (show (-1) ≤ ((m 2 3) + 1) ∧ ((m 2 3) + 1) ≤ 100 from ⟨by omega, by omega⟩)))
    (fun x0 x1 x2 x3 => by refine ⟨?_, ?_⟩ <;> omega)
    (fun x0 x1 x2 x3 => by refine ⟨?_, ?_⟩ <;> omega)
    (fun x0 x1 x2 x3 x4 => k2 x0 x2 x3 (zB_u hB trivial))
    (fun x0 x1 x2 x3 x4 => by omega)
    (fun x0 x1 x2 => fun j => hB 3 j)
    (fun x0 x1 x2 => by refine ⟨?_, ?_⟩ <;> omega)
    (fun x0 x1 x2 => by refine ⟨?_, ?_⟩ <;> omega)
    (fun x0 x1 x2 x3 => by refine ⟨?_, ?_⟩ <;> omega)
    (fun x0 x1 x2 x3 => by refine ⟨?_, ?_⟩ <;> omega)
    (fun x0 x1 x2 x3 x4 => k3 x0 x2 x3 (zB_u hB trivial))
    (fun x0 x1 x2 x3 x4 => by omega)
    (fun x0 x1 x2 x3 x4 => by refine ⟨?_, ?_⟩ <;> omega)
    (fun x0 x1 x2 x3 x4 => by refine ⟨?_, ?_⟩ <;> omega)
    (fun x0 x1 x2 x3 x4 x5 => by omega)
    (fun x0 x1 x2 x3 x4 x5 => k4 x0 x2 x3 x4 (zB_u (zB_u hB (show (-1) ≤ ((m 2 3) + 1) ∧ ((m 2 3) + 1) ≤ 100 from ⟨by omega, by omega⟩)) trivial))
    (fun x0 x1 x2 x3 x4 => by refine ⟨?_, ?_⟩ <;> omega)
    (fun x0 x1 x2 x3 x4 => by refine ⟨?_, ?_⟩ <;> omega)
    (fun x0 x1 x2 x3 x4 x5 => k5 x0 x2 x3 x4 (zB_u hB trivial))
    (fun x0 x1 x2 x3 x4 x5 => by omega)
    (fun x0 x1 => by omega)
    (fun x0 => fun j => hB 3 j)
    (fun x0 => by refine ⟨?_, ?_⟩ <;> omega)
    (fun x0 => by refine ⟨?_, ?_⟩ <;> omega)
    (fun x0 x1 => by refine ⟨?_, ?_⟩ <;> omega)
    (fun x0 x1 => k6 x0 x1 (zB_u (zB_u hB (show (-1) ≤ ((m 2 3) + 1) ∧ ((m 2 3) + 1) ≤ 100 from ⟨by omega, by omega⟩)) trivial))
    (fun x0 x1 => by refine ⟨?_, ?_⟩ <;> omega)
    (fun x0 x1 x2 => by omega)
    (fun x0 x1 x2 => fun j => hB 3 j)
    (fun x0 x1 x2 => by refine ⟨?_, ?_⟩ <;> omega)
    (fun x0 x1 x2 => by refine ⟨?_, ?_⟩ <;> omega)
    (fun x0 x1 x2 x3 => by refine ⟨?_, ?_⟩ <;> omega)
    (fun x0 x1 x2 x3 => by refine ⟨?_, ?_⟩ <;> omega)
    (fun x0 x1 x2 x3 x4 => k7 x0 x1 x3 (zB_u hB trivial))
    (fun x0 x1 x2 x3 x4 => by omega)
    (fun x0 x1 x2 x3 x4 => by refine ⟨?_, ?_⟩ <;> omega)
    (fun x0 x1 x2 x3 x4 => by refine ⟨?_, ?_⟩ <;> omega)
    (fun x0 x1 x2 x3 x4 x5 => by omega)
    (fun x0 x1 x2 x3 x4 x5 => k8 x0 x1 x3 x4 (zB_u (zB_u hB (show (-1) ≤ ((m 2 3) + 1) ∧ ((m 2 3) + 1) ≤ 100 from ⟨by omega, by omega⟩)) trivial))
    (fun x0 x1 x2 x3 x4 => by refine ⟨?_, ?_⟩ <;> omega)
    (fun x0 x1 x2 x3 x4 => by refine ⟨?_, ?_⟩ <;> omega)
    (fun x0 x1 x2 x3 x4 x5 => k9 x0 x1 x3 x4 (zB_u hB trivial))
    (fun x0 x1 x2 x3 x4 x5 => by omega)
theorem zb110_101r (hT : zRules T) {D : Nat} {κ : Option zA → zM → Prop} {m : zM} {i : Nat} {v : Int} {lo : zL} (hlo : z_keep [0, 2] lo = [(0, zr 48), (2, zi (i : Int))]) 
    (o1 : (0 ≤ wr (i : Int) ∧ wr (i : Int) < 30))
    (o2 : (0 ≤ wr (i : Int) ∧ wr (i : Int) < 30))
    (o3 : wr ((zu m 51 ((wr (i : Int)).toNat) v) 51 ((wr (i : Int)).toNat)) = (-1) → κ (some (zi 0)) (zu m 51 ((wr (i : Int)).toNat) v))
    (o4 : ¬ wr ((zu m 51 ((wr (i : Int)).toNat) v) 51 ((wr (i : Int)).toNat)) = (-1) → κ (some (zi 1)) (zu m 51 ((wr (i : Int)).toNat) v)) :
    T (D + 2) 110 (101, lo, [zi v, zi (i : Int), zr 51], m) κ :=
  zkeep hT hlo (hT.1 [] 6 (D + 2) 110 _ κ (And.intro (And.intro (o1) trivial) (And.intro (o2) (hT.1 [] 6 (D + 2) 110 (112, [(0, zr 48), (2, zi (i : Int))], [zi ((zu m 51 ((wr (i : Int)).toNat) v) 51 ((wr (i : Int)).toNat))], (zu m 51 ((wr (i : Int)).toNat) v)) _ (And.intro (fun a1 => (And.intro (z_b01L rfl) (o3 a1))) (fun a2 => (And.intro (z_b01L rfl) (o4 a2))))))))
theorem zb110_101 (hT : zRules T) {D : Nat} {κ : Option zA → zM → Prop} {m : zM} {i : Nat} {v : Int} {lo : zL} (hlo : z_keep [0, 2] lo = [(0, zr 48), (2, zi (i : Int))])  (hB : zB m) (h_i : i ≤ 29) (h_v : (-1) ≤ v ∧ v ≤ 99) 
    (k1 : v = (-1) → zB (zu m 51 i v) → κ (some (zi 0)) (zu m 51 i v))
    (k2 : ¬ v = (-1) → zB (zu m 51 i v) → κ (some (zi 1)) (zu m 51 i v)) :
    T (D + 2) 110 (101, lo, [zi v, zi (i : Int), zr 51], m) κ := by
  have he0 : wr (i : Int) = (i : Int) := wr_id (by omega) (by omega)
  have he1 : (i : Int).toNat = i := by omega
  have he2 : ((zu m 51 i v) 51 i) = v := (zu_sm (by omega))
  have he3 : wr v = v := wr_id (by omega) (by omega)
  have key := @zb110_101r T hT D κ m i v lo hlo
  simp only [he0, he1, he2, he3, Int.toNat_natCast] at key
  exact key
    (by refine ⟨?_, ?_⟩ <;> omega)
    (by refine ⟨?_, ?_⟩ <;> omega)
    (fun x0 => k1 x0 (zB_u hB trivial))
    (fun x0 => k2 x0 (zB_u hB trivial))
theorem zb107_0r (hT : zRules T) {D : Nat} {κ : Option zA → zM → Prop} {m : zM} 
    (o1 : T (D + 4) 107 (2, [(0, zr 48), (1, zr 2), (2, zi 0)], [], m) κ) :
    T (D + 4) 107 (0, [(0, zr 48), (1, zr 2)], [], m) κ :=
  hT.1 [(2, [0, 1, 2])] 6 (D + 4) 107 _ κ (o1)
theorem zb107_0 (hT : zRules T) {D : Nat} {κ : Option zA → zM → Prop} {m : zM}  (hB : zB m) 
    (k1 : T (D + 4) 107 (2, [(0, zr 48), (1, zr 2), (2, zi 0)], [], m) κ) :
    T (D + 4) 107 (0, [(0, zr 48), (1, zr 2)], [], m) κ := by
  exact zb107_0r hT
    k1
theorem zb107_2r (hT : zRules T) {D : Nat} {κ : Option zA → zM → Prop} {m : zM} {i : Nat} {lo : zL} (hlo : z_keep [0, 1, 2] lo = [(0, zr 48), (1, zr 2), (2, zi (i : Int))]) 
    (o1 : ¬ wr (i : Int) < 30 → κ (some (zi (-1))) m)
    (o2 : wr (i : Int) < 30 → T (D + 3) 108 (0, [(0, zr 48), (1, zr 2), (2, zi (i : Int))], [], m) (fun r m1 => T (D + 4) 107 (14, [(0, zr 48), (1, zr 2), (2, zi (i : Int))], r.toList ++ [], m1) κ)) :
    T (D + 4) 107 (2, lo, [], m) κ :=
  zkeep hT hlo (hT.1 [(2, [0, 1, 2])] 6 (D + 4) 107 _ κ (And.intro (fun a1 => (o1 a1)) (fun a2 => (hT.1 [(2, [0, 1, 2])] 6 (D + 4) 107 (11, [(0, zr 48), (1, zr 2), (2, zi (i : Int))], [zi (i : Int), zr 2, zr 48], m) _ (o2 (Classical.byContradiction a2))))))
theorem zb107_2 (hT : zRules T) {D : Nat} {κ : Option zA → zM → Prop} {m : zM} {i : Nat} {lo : zL} (hlo : z_keep [0, 1, 2] lo = [(0, zr 48), (1, zr 2), (2, zi (i : Int))])  (hB : zB m) (h_i : i ≤ 30) 
    (k1 : ¬ (i : Int) < 30 → κ (some (zi (-1))) m)
    (k2 : (i : Int) < 30 → T (D + 3) 108 (0, [(0, zr 48), (1, zr 2), (2, zi (i : Int))], [], m) (fun r m1 => T (D + 4) 107 (14, [(0, zr 48), (1, zr 2), (2, zi (i : Int))], r.toList ++ [], m1) κ)) :
    T (D + 4) 107 (2, lo, [], m) κ := by
  have he0 : wr (i : Int) = (i : Int) := wr_id (by omega) (by omega)
  have key := @zb107_2r T hT D κ m i lo hlo
  simp only [he0, Int.toNat_natCast] at key
  exact key
    k1
    k2
theorem zb107_14r (hT : zRules T) {D : Nat} {κ : Option zA → zM → Prop} {m : zM} {i : Nat} {v : Int} {lo : zL} (hlo : z_keep [0, 1, 2] lo = [(0, zr 48), (1, zr 2), (2, zi (i : Int))]) 
    (o1 : ¬ wr v = 0 → ¬ wr (m 2 3) = wr (m 2 1) → ∀ j, zbd 3 j (m 3 j))
    (o2 : ¬ wr v = 0 → ¬ wr (m 2 3) = wr (m 2 1) → (0 ≤ (m 2 3) ∧ (m 2 3) ≤ 1000))
    (o3 : ¬ wr v = 0 → ¬ wr (m 2 3) = wr (m 2 1) → (0 ≤ (m 2 2) ∧ (m 2 2) ≤ 80))
    (o4 : ¬ wr v = 0 → ¬ wr (m 2 3) = wr (m 2 1) → wr (nxC m) = 59 → T (D + 4) 107 (2, [(0, zr 48), (1, zr 2), (2, zi ((i : Int) + 1))], [], (zu m 2 3 ((m 2 3) + 1))) κ)
    (o5 : ¬ wr v = 0 → ¬ wr (m 2 3) = wr (m 2 1) → ¬ wr (nxC m) = 59 → κ (some (zi (-1))) m)
    (o6 : ¬ wr v = 0 → wr (m 2 3) = wr (m 2 1) → κ (some (zi (wr ((i : Int) + 1)))) m)
    (o7 : wr v = 0 → κ (some (zi (-1))) m) :
    T (D + 4) 107 (14, lo, [zi v], m) κ :=
  zkeep hT hlo (hT.1 [(2, [0, 1, 2])] 6 (D + 4) 107 _ κ (And.intro (fun a1 => (hT.1 [] 6 (D + 3) 68 _ _ (And.intro (fun a3 => (hT.1 [] 6 (D + 3) 68 (16, [(0, zr 2)], [zi 0], m) _ (And.intro (z_b01L rfl) (hT.1 [(2, [0, 1, 2])] 6 (D + 4) 107 _ _ (And.intro (fun _ => (hT.1 [] 6 (D + 3) 70 _ _ (z_next hT (o1 a1 a3) (o2 a1 a3) (o3 a1 a3) (hT.1 [] 6 (D + 3) 70 _ _ (And.intro (fun a6 => (hT.1 [] 6 (D + 3) 70 (16, [(0, zr 2), (1, zi 59)], [zi 1, zi (m 2 3), zr 2], m) _ (And.intro trivial (And.intro (z_b01L rfl) (hT.1 [(2, [0, 1, 2])] 6 (D + 4) 107 _ _ (And.intro (fun _ => (o4 a1 a3 a6)) (fun a8 => (a8 (z_litT rfl)).elim))))))) (fun a7 => (And.intro (z_b01L rfl) (hT.1 [(2, [0, 1, 2])] 6 (D + 4) 107 _ _ (And.intro (fun a9 => (z_litF a9 rfl).elim) (fun _ => (o5 a1 a3 a7))))))))))) (fun a5 => (a5 (z_litT rfl)).elim)))))) (fun a4 => (hT.1 [] 6 (D + 3) 68 (12, [(0, zr 2)], [zi 1], m) _ (And.intro (z_b01L rfl) (hT.1 [(2, [0, 1, 2])] 6 (D + 4) 107 _ _ (And.intro (fun a10 => (z_litF a10 rfl).elim) (fun _ => (o6 a1 (Classical.byContradiction a4))))))))))) (fun a2 => (o7 (Classical.byContradiction a2)))))
theorem zb107_14 (hT : zRules T) {D : Nat} {κ : Option zA → zM → Prop} {m : zM} {i : Nat} {v : Int} {lo : zL} (hlo : z_keep [0, 1, 2] lo = [(0, zr 48), (1, zr 2), (2, zi (i : Int))])  (hB : zB m) (h_i : i ≤ 29) (h_v : 0 ≤ v ∧ v ≤ 1) (hf0 : 0 ≤ m 2 3 ∧ m 2 3 ≤ 70) 
    (k1 : ¬ v = 0 → ¬ (m 2 3) = (m 2 1) → (nxC m) = 59 → zB (zu m 2 3 ((m 2 3) + 1)) → T (D + 4) 107 (2, [(0, zr 48), (1, zr 2), (2, zi ((i : Int) + 1))], [], (zu m 2 3 ((m 2 3) + 1))) κ)
    (k2 : ¬ v = 0 → ¬ (m 2 3) = (m 2 1) → ¬ (nxC m) = 59 → κ (some (zi (-1))) m)
    (k3 : ¬ v = 0 → (m 2 3) = (m 2 1) → κ (some (zi ((i : Int) + 1))) m)
    (k4 : v = 0 → κ (some (zi (-1))) m) :
    T (D + 4) 107 (14, lo, [zi v], m) κ := by
  have hb3 : 0 ≤ (m 2 1) ∧ (m 2 1) ≤ 80 := hB 2 1
  have hb4 : 0 ≤ (m 2 2) ∧ (m 2 2) ≤ 80 := hB 2 2
  have hb5 : (-1) ≤ (nxC m) ∧ (nxC m) ≤ 65535 := nxCBo m (fun j => hB 3 j)
  have he0 : wr v = v := wr_id (by omega) (by omega)
  have he1 : wr (m 2 3) = (m 2 3) := wr_id (by omega) (by omega)
  have he2 : wr (m 2 1) = (m 2 1) := wr_id (by omega) (by omega)
  have he3 : wr ((i : Int) + 1) = ((i : Int) + 1) := wr_id (by omega) (by omega)
  have he4 : wr (nxC m) = (nxC m) := wr_id (by omega) (by omega)
  have key := @zb107_14r T hT D κ m i v lo hlo
  simp only [he0, he1, he2, he3, he4, Int.toNat_natCast] at key
  exact key
    (fun x0 x1 => fun j => hB 3 j)
    (fun x0 x1 => by refine ⟨?_, ?_⟩ <;> omega)
    (fun x0 x1 => by refine ⟨?_, ?_⟩ <;> omega)
    (fun x0 x1 x2 => k1 x0 x1 x2 (zB_u hB (show (-1) ≤ ((m 2 3) + 1) ∧ ((m 2 3) + 1) ≤ 100 from ⟨by omega, by omega⟩)))
    k2
    k3
    k4
end ZBlocks
