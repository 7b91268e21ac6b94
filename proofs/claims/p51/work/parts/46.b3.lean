section ZBlocks
variable {T : Nat → Nat → zG → (Option zA → zM → Prop) → Prop}
theorem zb58_0r (hT : zRules T) {D : Nat} {κ : Option zA → zM → Prop} {m : zM} {h : Int} {l : Int} {w : Int} {p : Int} {i : Int} 
    (o1 : ¬ wr (m 9 4) < 1 → T (D + 2) 58 (18, [(0, zr 9), (1, zi h), (2, zi l), (3, zi w), (4, zi p), (5, zi i), (6, zi 0)], [], m) κ)
    (o2 : wr (m 9 4) < 1 → κ (some (zi (wr (Int.tdiv (wr (h * l)) 10)))) m) :
    T (D + 2) 58 (0, [(0, zr 9), (1, zi h), (2, zi l), (3, zi w), (4, zi p), (5, zi i)], [], m) κ :=
  hT.1 [(18, [0, 1, 2, 3, 4, 5, 6])] 6 (D + 2) 58 _ κ (And.intro (fun a1 => (o1 a1)) (fun a2 => (hT.1 [(18, [0, 1, 2, 3, 4, 5, 6])] 6 (D + 2) 58 (10, [(0, zr 9), (1, zi h), (2, zi l), (3, zi w), (4, zi p), (5, zi i)], [zi l, zi h], m) _ (And.intro (z_neL rfl) (o2 (Classical.byContradiction a2))))))
theorem zb58_0 (hT : zRules T) {D : Nat} {κ : Option zA → zM → Prop} {m : zM} {h : Int} {l : Int} {w : Int} {p : Int} {i : Int}  (hB : zB m) (h_h : 0 ≤ h ∧ h ≤ 99) (h_l : 0 ≤ l ∧ l ≤ 9) (h_w : 0 ≤ w ∧ w ≤ 500000) (h_p : 0 ≤ p ∧ p ≤ 3) (h_i : 0 ≤ i ∧ i ≤ 5) 
    (k1 : ¬ (m 9 4) < 1 → T (D + 2) 58 (18, [(0, zr 9), (1, zi h), (2, zi l), (3, zi w), (4, zi p), (5, zi i), (6, zi 0)], [], m) κ)
    (k2 : (m 9 4) < 1 → κ (some (zi (Int.tdiv (h * l) 10))) m) :
    T (D + 2) 58 (0, [(0, zr 9), (1, zi h), (2, zi l), (3, zi w), (4, zi p), (5, zi i)], [], m) κ := by
  have hb5 : 0 ≤ (m 9 4) ∧ (m 9 4) ≤ 40 := hB 9 4
  have hb6 : 0 ≤ (h * l) ∧ (h * l) ≤ 891 := z_mulB h l 99 9 891 (by omega) (by omega) (by omega) (by omega) rfl
  have hb7 : 0 ≤ (Int.tdiv (h * l) 10) ∧ (Int.tdiv (h * l) 10) ≤ 891 := z_tdivB (h * l) 10 891 (by omega) (by omega) (by omega)
  have he0 : wr (m 9 4) = (m 9 4) := wr_id (by omega) (by omega)
  have he1 : wr (h * l) = (h * l) := wr_id (by omega) (by omega)
  have he2 : wr (Int.tdiv (h * l) 10) = (Int.tdiv (h * l) 10) := wr_id (by omega) (by omega)
  have key := @zb58_0r T hT D κ m h l w p i
  simp only [he0, he1, he2, Int.toNat_natCast] at key
  exact key
    k1
    k2
theorem zb58_18r (hT : zRules T) {D : Nat} {κ : Option zA → zM → Prop} {m : zM} {h : Int} {l : Int} {w : Int} {p : Int} {i : Int} {k : Nat} {lo : zL} (hlo : z_keep [0, 1, 2, 3, 4, 5, 6] lo = [(0, zr 9), (1, zi h), (2, zi l), (3, zi w), (4, zi p), (5, zi i), (6, zi (k : Int))]) 
    (o1 : ¬ wr (k : Int) < wr (m 9 4) → (0 ≤ wr ((m 9 4) - 1) ∧ wr ((m 9 4) - 1) < 40))
    (o2 : ¬ wr (k : Int) < wr (m 9 4) → κ (some (zi (wr (m 13 ((wr ((m 9 4) - 1)).toNat))))) m)
    (o3 : wr (k : Int) < wr (m 9 4) → (0 ≤ wr (k : Int) ∧ wr (k : Int) < 40))
    (o4 : wr (k : Int) < wr (m 9 4) → wr (m 10 ((wr (k : Int)).toNat)) = 48 → (0 ≤ wr (k : Int) ∧ wr (k : Int) < 40))
    (o5 : wr (k : Int) < wr (m 9 4) → wr (m 10 ((wr (k : Int)).toNat)) = 48 → (0 ≤ wr (k : Int) ∧ wr (k : Int) < 40))
    (o6 : wr (k : Int) < wr (m 9 4) → wr (m 10 ((wr (k : Int)).toNat)) = 48 → T (D + 2) 58 (18, [(0, zr 9), (1, zi h), (2, zi l), (3, zi w), (4, zi p), (5, zi i), (6, zi ((k : Int) + 1))], [], (zu m 13 ((wr (k : Int)).toNat) (m 11 ((wr (k : Int)).toNat)))) κ)
    (o7 : wr (k : Int) < wr (m 9 4) → ¬ wr (m 10 ((wr (k : Int)).toNat)) = 48 → wr (m 10 ((wr (k : Int)).toNat)) = 104 → (0 ≤ wr (k : Int) ∧ wr (k : Int) < 40))
    (o8 : wr (k : Int) < wr (m 9 4) → ¬ wr (m 10 ((wr (k : Int)).toNat)) = 48 → wr (m 10 ((wr (k : Int)).toNat)) = 104 → T (D + 2) 58 (18, [(0, zr 9), (1, zi h), (2, zi l), (3, zi w), (4, zi p), (5, zi i), (6, zi ((k : Int) + 1))], [], (zu m 13 ((wr (k : Int)).toNat) h)) κ)
    (o9 : wr (k : Int) < wr (m 9 4) → ¬ wr (m 10 ((wr (k : Int)).toNat)) = 48 → ¬ wr (m 10 ((wr (k : Int)).toNat)) = 104 → wr (m 10 ((wr (k : Int)).toNat)) = 105 → (0 ≤ wr (k : Int) ∧ wr (k : Int) < 40))
    (o10 : wr (k : Int) < wr (m 9 4) → ¬ wr (m 10 ((wr (k : Int)).toNat)) = 48 → ¬ wr (m 10 ((wr (k : Int)).toNat)) = 104 → wr (m 10 ((wr (k : Int)).toNat)) = 105 → T (D + 2) 58 (18, [(0, zr 9), (1, zi h), (2, zi l), (3, zi w), (4, zi p), (5, zi i), (6, zi ((k : Int) + 1))], [], (zu m 13 ((wr (k : Int)).toNat) i)) κ)
    (o11 : wr (k : Int) < wr (m 9 4) → ¬ wr (m 10 ((wr (k : Int)).toNat)) = 48 → ¬ wr (m 10 ((wr (k : Int)).toNat)) = 104 → ¬ wr (m 10 ((wr (k : Int)).toNat)) = 105 → wr (m 10 ((wr (k : Int)).toNat)) = 108 → (0 ≤ wr (k : Int) ∧ wr (k : Int) < 40))
    (o12 : wr (k : Int) < wr (m 9 4) → ¬ wr (m 10 ((wr (k : Int)).toNat)) = 48 → ¬ wr (m 10 ((wr (k : Int)).toNat)) = 104 → ¬ wr (m 10 ((wr (k : Int)).toNat)) = 105 → wr (m 10 ((wr (k : Int)).toNat)) = 108 → T (D + 2) 58 (18, [(0, zr 9), (1, zi h), (2, zi l), (3, zi w), (4, zi p), (5, zi i), (6, zi ((k : Int) + 1))], [], (zu m 13 ((wr (k : Int)).toNat) l)) κ)
    (o13 : wr (k : Int) < wr (m 9 4) → ¬ wr (m 10 ((wr (k : Int)).toNat)) = 48 → ¬ wr (m 10 ((wr (k : Int)).toNat)) = 104 → ¬ wr (m 10 ((wr (k : Int)).toNat)) = 105 → ¬ wr (m 10 ((wr (k : Int)).toNat)) = 108 → wr (m 10 ((wr (k : Int)).toNat)) = 112 → (0 ≤ wr (k : Int) ∧ wr (k : Int) < 40))
    (o14 : wr (k : Int) < wr (m 9 4) → ¬ wr (m 10 ((wr (k : Int)).toNat)) = 48 → ¬ wr (m 10 ((wr (k : Int)).toNat)) = 104 → ¬ wr (m 10 ((wr (k : Int)).toNat)) = 105 → ¬ wr (m 10 ((wr (k : Int)).toNat)) = 108 → wr (m 10 ((wr (k : Int)).toNat)) = 112 → T (D + 2) 58 (18, [(0, zr 9), (1, zi h), (2, zi l), (3, zi w), (4, zi p), (5, zi i), (6, zi ((k : Int) + 1))], [], (zu m 13 ((wr (k : Int)).toNat) p)) κ)
    (o15 : wr (k : Int) < wr (m 9 4) → ¬ wr (m 10 ((wr (k : Int)).toNat)) = 48 → ¬ wr (m 10 ((wr (k : Int)).toNat)) = 104 → ¬ wr (m 10 ((wr (k : Int)).toNat)) = 105 → ¬ wr (m 10 ((wr (k : Int)).toNat)) = 108 → ¬ wr (m 10 ((wr (k : Int)).toNat)) = 112 → wr (m 10 ((wr (k : Int)).toNat)) = 119 → (0 ≤ wr (k : Int) ∧ wr (k : Int) < 40))
    (o16 : wr (k : Int) < wr (m 9 4) → ¬ wr (m 10 ((wr (k : Int)).toNat)) = 48 → ¬ wr (m 10 ((wr (k : Int)).toNat)) = 104 → ¬ wr (m 10 ((wr (k : Int)).toNat)) = 105 → ¬ wr (m 10 ((wr (k : Int)).toNat)) = 108 → ¬ wr (m 10 ((wr (k : Int)).toNat)) = 112 → wr (m 10 ((wr (k : Int)).toNat)) = 119 → T (D + 2) 58 (18, [(0, zr 9), (1, zi h), (2, zi l), (3, zi w), (4, zi p), (5, zi i), (6, zi ((k : Int) + 1))], [], (zu m 13 ((wr (k : Int)).toNat) w)) κ)
    (o17 : wr (k : Int) < wr (m 9 4) → ¬ wr (m 10 ((wr (k : Int)).toNat)) = 48 → ¬ wr (m 10 ((wr (k : Int)).toNat)) = 104 → ¬ wr (m 10 ((wr (k : Int)).toNat)) = 105 → ¬ wr (m 10 ((wr (k : Int)).toNat)) = 108 → ¬ wr (m 10 ((wr (k : Int)).toNat)) = 112 → ¬ wr (m 10 ((wr (k : Int)).toNat)) = 119 → (0 ≤ wr (k : Int) ∧ wr (k : Int) < 40))
    (o18 : wr (k : Int) < wr (m 9 4) → ¬ wr (m 10 ((wr (k : Int)).toNat)) = 48 → ¬ wr (m 10 ((wr (k : Int)).toNat)) = 104 → ¬ wr (m 10 ((wr (k : Int)).toNat)) = 105 → ¬ wr (m 10 ((wr (k : Int)).toNat)) = 108 → ¬ wr (m 10 ((wr (k : Int)).toNat)) = 112 → ¬ wr (m 10 ((wr (k : Int)).toNat)) = 119 → (0 ≤ wr (k : Int) ∧ wr (k : Int) < 40))
    (o19 : wr (k : Int) < wr (m 9 4) → ¬ wr (m 10 ((wr (k : Int)).toNat)) = 48 → ¬ wr (m 10 ((wr (k : Int)).toNat)) = 104 → ¬ wr (m 10 ((wr (k : Int)).toNat)) = 105 → ¬ wr (m 10 ((wr (k : Int)).toNat)) = 108 → ¬ wr (m 10 ((wr (k : Int)).toNat)) = 112 → ¬ wr (m 10 ((wr (k : Int)).toNat)) = 119 → (0 ≤ wr (m 11 ((wr (k : Int)).toNat)) ∧ wr (m 11 ((wr (k : Int)).toNat)) < 40))
    (o20 : wr (k : Int) < wr (m 9 4) → ¬ wr (m 10 ((wr (k : Int)).toNat)) = 48 → ¬ wr (m 10 ((wr (k : Int)).toNat)) = 104 → ¬ wr (m 10 ((wr (k : Int)).toNat)) = 105 → ¬ wr (m 10 ((wr (k : Int)).toNat)) = 108 → ¬ wr (m 10 ((wr (k : Int)).toNat)) = 112 → ¬ wr (m 10 ((wr (k : Int)).toNat)) = 119 → (0 ≤ wr (k : Int) ∧ wr (k : Int) < 40))
    (o21 : wr (k : Int) < wr (m 9 4) → ¬ wr (m 10 ((wr (k : Int)).toNat)) = 48 → ¬ wr (m 10 ((wr (k : Int)).toNat)) = 104 → ¬ wr (m 10 ((wr (k : Int)).toNat)) = 105 → ¬ wr (m 10 ((wr (k : Int)).toNat)) = 108 → ¬ wr (m 10 ((wr (k : Int)).toNat)) = 112 → ¬ wr (m 10 ((wr (k : Int)).toNat)) = 119 → (0 ≤ wr (m 12 ((wr (k : Int)).toNat)) ∧ wr (m 12 ((wr (k : Int)).toNat)) < 40))
    (o22 : wr (k : Int) < wr (m 9 4) → ¬ wr (m 10 ((wr (k : Int)).toNat)) = 48 → ¬ wr (m 10 ((wr (k : Int)).toNat)) = 104 → ¬ wr (m 10 ((wr (k : Int)).toNat)) = 105 → ¬ wr (m 10 ((wr (k : Int)).toNat)) = 108 → ¬ wr (m 10 ((wr (k : Int)).toNat)) = 112 → ¬ wr (m 10 ((wr (k : Int)).toNat)) = 119 → T (D + 1) 59 (0, [(0, zi (m 10 ((wr (k : Int)).toNat))), (1, zi (m 13 ((wr (m 11 ((wr (k : Int)).toNat))).toNat))), (2, zi (m 13 ((wr (m 12 ((wr (k : Int)).toNat))).toNat)))], [], m) (fun r m1 => T (D + 2) 58 (206, [(0, zr 9), (1, zi h), (2, zi l), (3, zi w), (4, zi p), (5, zi i), (6, zi (k : Int))], r.toList ++ [zi (k : Int), zr 13], m1) κ)) :
    T (D + 2) 58 (18, lo, [], m) κ :=
  zkeep hT hlo (hT.1 [(18, [0, 1, 2, 3, 4, 5, 6])] 6 (D + 2) 58 _ κ (And.intro (fun a1 => (hT.1 [(18, [0, 1, 2, 3, 4, 5, 6])] 6 (D + 2) 58 (217, [(0, zr 9), (1, zi h), (2, zi l), (3, zi w), (4, zi p), (5, zi i), (6, zi (k : Int))], [zr 13], m) _ (And.intro (o1 a1) (o2 a1)))) (fun a2 => (hT.1 [(18, [0, 1, 2, 3, 4, 5, 6])] 6 (D + 2) 58 (31, [(0, zr 9), (1, zi h), (2, zi l), (3, zi w), (4, zi p), (5, zi i), (6, zi (k : Int))], [zr 10], m) _ (And.intro (o3 (Classical.byContradiction a2)) (And.intro (fun a3 => (hT.1 [(18, [0, 1, 2, 3, 4, 5, 6])] 6 (D + 2) 58 (98, [(0, zr 9), (1, zi h), (2, zi l), (3, zi w), (4, zi p), (5, zi i), (6, zi (k : Int))], [zi (k : Int), zr 13], m) _ (And.intro (o4 (Classical.byContradiction a2) a3) (And.intro (And.intro (o5 (Classical.byContradiction a2) a3) trivial) (hT.1 [(18, [0, 1, 2, 3, 4, 5, 6])] 6 (D + 2) 58 (207, [(0, zr 9), (1, zi h), (2, zi l), (3, zi w), (4, zi p), (5, zi i), (6, zi (k : Int))], [], (zu m 13 ((wr (k : Int)).toNat) (m 11 ((wr (k : Int)).toNat)))) _ (o6 (Classical.byContradiction a2) a3)))))) (fun a4 => (And.intro (fun a5 => (hT.1 [(18, [0, 1, 2, 3, 4, 5, 6])] 6 (D + 2) 58 (115, [(0, zr 9), (1, zi h), (2, zi l), (3, zi w), (4, zi p), (5, zi i), (6, zi (k : Int))], [zi (k : Int), zr 13], m) _ (And.intro (And.intro (o7 (Classical.byContradiction a2) a4 a5) trivial) (o8 (Classical.byContradiction a2) a4 a5)))) (fun a6 => (And.intro (fun a7 => (hT.1 [(18, [0, 1, 2, 3, 4, 5, 6])] 6 (D + 2) 58 (160, [(0, zr 9), (1, zi h), (2, zi l), (3, zi w), (4, zi p), (5, zi i), (6, zi (k : Int))], [zi (k : Int), zr 13], m) _ (And.intro (And.intro (o9 (Classical.byContradiction a2) a4 a6 a7) trivial) (o10 (Classical.byContradiction a2) a4 a6 a7)))) (fun a8 => (And.intro (fun a9 => (hT.1 [(18, [0, 1, 2, 3, 4, 5, 6])] 6 (D + 2) 58 (126, [(0, zr 9), (1, zi h), (2, zi l), (3, zi w), (4, zi p), (5, zi i), (6, zi (k : Int))], [zi (k : Int), zr 13], m) _ (And.intro (And.intro (o11 (Classical.byContradiction a2) a4 a6 a8 a9) trivial) (o12 (Classical.byContradiction a2) a4 a6 a8 a9)))) (fun a10 => (And.intro (fun a11 => (hT.1 [(18, [0, 1, 2, 3, 4, 5, 6])] 6 (D + 2) 58 (148, [(0, zr 9), (1, zi h), (2, zi l), (3, zi w), (4, zi p), (5, zi i), (6, zi (k : Int))], [zi (k : Int), zr 13], m) _ (And.intro (And.intro (o13 (Classical.byContradiction a2) a4 a6 a8 a10 a11) trivial) (o14 (Classical.byContradiction a2) a4 a6 a8 a10 a11)))) (fun a12 => (And.intro (fun a13 => (hT.1 [(18, [0, 1, 2, 3, 4, 5, 6])] 6 (D + 2) 58 (137, [(0, zr 9), (1, zi h), (2, zi l), (3, zi w), (4, zi p), (5, zi i), (6, zi (k : Int))], [zi (k : Int), zr 13], m) _ (And.intro (And.intro (o15 (Classical.byContradiction a2) a4 a6 a8 a10 a12 a13) trivial) (o16 (Classical.byContradiction a2) a4 a6 a8 a10 a12 a13)))) (fun a14 => (hT.1 [(18, [0, 1, 2, 3, 4, 5, 6])] 6 (D + 2) 58 (172, [(0, zr 9), (1, zi h), (2, zi l), (3, zi w), (4, zi p), (5, zi i), (6, zi (k : Int))], [zi (k : Int), zr 13], m) _ (And.intro (o17 (Classical.byContradiction a2) a4 a6 a8 a10 a12 a14) (hT.1 [(18, [0, 1, 2, 3, 4, 5, 6])] 6 (D + 2) 58 (183, [(0, zr 9), (1, zi h), (2, zi l), (3, zi w), (4, zi p), (5, zi i), (6, zi (k : Int))], [zr 13, zi (m 10 ((wr (k : Int)).toNat)), zi (k : Int), zr 13], m) _ (And.intro (o18 (Classical.byContradiction a2) a4 a6 a8 a10 a12 a14) (And.intro (o19 (Classical.byContradiction a2) a4 a6 a8 a10 a12 a14) (hT.1 [(18, [0, 1, 2, 3, 4, 5, 6])] 6 (D + 2) 58 (192, [(0, zr 9), (1, zi h), (2, zi l), (3, zi w), (4, zi p), (5, zi i), (6, zi (k : Int))], [zr 9, zi (m 13 ((wr (m 11 ((wr (k : Int)).toNat))).toNat)), zi (m 10 ((wr (k : Int)).toNat)), zi (k : Int), zr 13], m) _ (And.intro (o20 (Classical.byContradiction a2) a4 a6 a8 a10 a12 a14) (And.intro (o21 (Classical.byContradiction a2) a4 a6 a8 a10 a12 a14) (hT.1 [(18, [0, 1, 2, 3, 4, 5, 6])] 6 (D + 2) 58 (203, [(0, zr 9), (1, zi h), (2, zi l), (3, zi w), (4, zi p), (5, zi i), (6, zi (k : Int))], [zi (m 13 ((wr (m 12 ((wr (k : Int)).toNat))).toNat)), zi (m 13 ((wr (m 11 ((wr (k : Int)).toNat))).toNat)), zi (m 10 ((wr (k : Int)).toNat)), zi (k : Int), zr 13], m) _ (o22 (Classical.byContradiction a2) a4 a6 a8 a10 a12 a14)))))))))))))))))))))))))))
theorem zb58_18 (hT : zRules T) {D : Nat} {κ : Option zA → zM → Prop} {m : zM} {h : Int} {l : Int} {w : Int} {p : Int} {i : Int} {k : Nat} {lo : zL} (hlo : z_keep [0, 1, 2, 3, 4, 5, 6] lo = [(0, zr 9), (1, zi h), (2, zi l), (3, zi w), (4, zi p), (5, zi i), (6, zi (k : Int))])  (hB : zB m) (h_h : 0 ≤ h ∧ h ≤ 99) (h_l : 0 ≤ l ∧ l ≤ 9) (h_w : 0 ≤ w ∧ w ≤ 500000) (h_p : 0 ≤ p ∧ p ≤ 3) (h_i : 0 ≤ i ∧ i ≤ 5) (h_k : k ≤ 40) 
    (k1 : ¬ (k : Int) < (m 9 4) → (0 ≤ ((m 9 4) - 1) ∧ ((m 9 4) - 1) < 40))
    (k2 : ¬ (k : Int) < (m 9 4) → κ (some (zi (wr (m 13 (((m 9 4) - 1).toNat))))) m)
    (k3 : (k : Int) < (m 9 4) → (m 10 k) = 48 → zB (zu m 13 k (m 11 k)) → T (D + 2) 58 (18, [(0, zr 9), (1, zi h), (2, zi l), (3, zi w), (4, zi p), (5, zi i), (6, zi ((k : Int) + 1))], [], (zu m 13 k (m 11 k))) κ)
    (k4 : (k : Int) < (m 9 4) → ¬ (m 10 k) = 48 → (m 10 k) = 104 → zB (zu m 13 k h) → T (D + 2) 58 (18, [(0, zr 9), (1, zi h), (2, zi l), (3, zi w), (4, zi p), (5, zi i), (6, zi ((k : Int) + 1))], [], (zu m 13 k h)) κ)
    (k5 : (k : Int) < (m 9 4) → ¬ (m 10 k) = 48 → ¬ (m 10 k) = 104 → (m 10 k) = 105 → zB (zu m 13 k i) → T (D + 2) 58 (18, [(0, zr 9), (1, zi h), (2, zi l), (3, zi w), (4, zi p), (5, zi i), (6, zi ((k : Int) + 1))], [], (zu m 13 k i)) κ)
    (k6 : (k : Int) < (m 9 4) → ¬ (m 10 k) = 48 → ¬ (m 10 k) = 104 → ¬ (m 10 k) = 105 → (m 10 k) = 108 → zB (zu m 13 k l) → T (D + 2) 58 (18, [(0, zr 9), (1, zi h), (2, zi l), (3, zi w), (4, zi p), (5, zi i), (6, zi ((k : Int) + 1))], [], (zu m 13 k l)) κ)
    (k7 : (k : Int) < (m 9 4) → ¬ (m 10 k) = 48 → ¬ (m 10 k) = 104 → ¬ (m 10 k) = 105 → ¬ (m 10 k) = 108 → (m 10 k) = 112 → zB (zu m 13 k p) → T (D + 2) 58 (18, [(0, zr 9), (1, zi h), (2, zi l), (3, zi w), (4, zi p), (5, zi i), (6, zi ((k : Int) + 1))], [], (zu m 13 k p)) κ)
    (k8 : (k : Int) < (m 9 4) → ¬ (m 10 k) = 48 → ¬ (m 10 k) = 104 → ¬ (m 10 k) = 105 → ¬ (m 10 k) = 108 → ¬ (m 10 k) = 112 → (m 10 k) = 119 → zB (zu m 13 k w) → T (D + 2) 58 (18, [(0, zr 9), (1, zi h), (2, zi l), (3, zi w), (4, zi p), (5, zi i), (6, zi ((k : Int) + 1))], [], (zu m 13 k w)) κ)
    (k9 : (k : Int) < (m 9 4) → ¬ (m 10 k) = 48 → ¬ (m 10 k) = 104 → ¬ (m 10 k) = 105 → ¬ (m 10 k) = 108 → ¬ (m 10 k) = 112 → ¬ (m 10 k) = 119 → (0 ≤ (m 11 k) ∧ (m 11 k) < 40))
    (k10 : (k : Int) < (m 9 4) → ¬ (m 10 k) = 48 → ¬ (m 10 k) = 104 → ¬ (m 10 k) = 105 → ¬ (m 10 k) = 108 → ¬ (m 10 k) = 112 → ¬ (m 10 k) = 119 → T (D + 1) 59 (0, [(0, zi (m 10 k)), (1, zi (m 13 ((m 11 k).toNat))), (2, zi (m 13 ((m 12 k).toNat)))], [], m) (fun r m1 => T (D + 2) 58 (206, [(0, zr 9), (1, zi h), (2, zi l), (3, zi w), (4, zi p), (5, zi i), (6, zi (k : Int))], r.toList ++ [zi (k : Int), zr 13], m1) κ)) :
    T (D + 2) 58 (18, lo, [], m) κ := by
  have hb6 : 0 ≤ (m 9 4) ∧ (m 9 4) ≤ 40 := hB 9 4
  have hb7 : (-1) ≤ (m 10 k) ∧ (m 10 k) ≤ 65535 := hB 10 k
  have hb8 : 0 ≤ (m 11 k) ∧ (m 11 k) ≤ 999 := hB 11 k
  have hb9 : 0 ≤ (m 12 k) ∧ (m 12 k) ≤ 39 := hB 12 k
  have hb10 : (-2147483648) ≤ wr (m 13 (((m 9 4) - 1).toNat)) ∧ wr (m 13 (((m 9 4) - 1).toNat)) ≤ 2147483647 := wrB (m 13 (((m 9 4) - 1).toNat))
  have he0 : wr (k : Int) = (k : Int) := wr_id (by omega) (by omega)
  have he1 : wr (m 9 4) = (m 9 4) := wr_id (by omega) (by omega)
  have he2 : (k : Int).toNat = k := by omega
  have he3 : wr (m 10 k) = (m 10 k) := wr_id (by omega) (by omega)
  have he4 : wr (m 11 k) = (m 11 k) := wr_id (by omega) (by omega)
  have he5 : wr (m 12 k) = (m 12 k) := wr_id (by omega) (by omega)
  have he6 : wr ((m 9 4) - 1) = ((m 9 4) - 1) := wr_id (by omega) (by omega)
  have key := @zb58_18r T hT D κ m h l w p i k lo hlo
  simp only [he0, he1, he2, he3, he4, he5, he6, Int.toNat_natCast] at key
  exact key
    k1
    k2
    (fun x0 => by refine ⟨?_, ?_⟩ <;> omega)
    (fun x0 x1 => by refine ⟨?_, ?_⟩ <;> omega)
    (fun x0 x1 => by refine ⟨?_, ?_⟩ <;> omega)
    (fun x0 x1 => k3 x0 x1 (zB_u hB trivial))
    (fun x0 x1 x2 => by refine ⟨?_, ?_⟩ <;> omega)
    (fun x0 x1 x2 => k4 x0 x1 x2 (zB_u hB trivial))
    (fun x0 x1 x2 x3 => by refine ⟨?_, ?_⟩ <;> omega)
    (fun x0 x1 x2 x3 => k5 x0 x1 x2 x3 (zB_u hB trivial))
    (fun x0 x1 x2 x3 x4 => by refine ⟨?_, ?_⟩ <;> omega)
    (fun x0 x1 x2 x3 x4 => k6 x0 x1 x2 x3 x4 (zB_u hB trivial))
    (fun x0 x1 x2 x3 x4 x5 => by refine ⟨?_, ?_⟩ <;> omega)
    (fun x0 x1 x2 x3 x4 x5 => k7 x0 x1 x2 x3 x4 x5 (zB_u hB trivial))
    (fun x0 x1 x2 x3 x4 x5 x6 => by refine ⟨?_, ?_⟩ <;> omega)
    (fun x0 x1 x2 x3 x4 x5 x6 => k8 x0 x1 x2 x3 x4 x5 x6 (zB_u hB trivial))
    (fun x0 x1 x2 x3 x4 x5 x6 => by refine ⟨?_, ?_⟩ <;> omega)
    (fun x0 x1 x2 x3 x4 x5 x6 => by refine ⟨?_, ?_⟩ <;> omega)
    k9
    (fun x0 x1 x2 x3 x4 x5 x6 => by refine ⟨?_, ?_⟩ <;> omega)
    (fun x0 x1 x2 x3 x4 x5 x6 => by refine ⟨?_, ?_⟩ <;> omega)
    k10
theorem zb58_206r (hT : zRules T) {D : Nat} {κ : Option zA → zM → Prop} {m : zM} {h : Int} {l : Int} {w : Int} {p : Int} {i : Int} {k : Nat} {v : Int} {lo : zL} (hlo : z_keep [0, 1, 2, 3, 4, 5, 6] lo = [(0, zr 9), (1, zi h), (2, zi l), (3, zi w), (4, zi p), (5, zi i), (6, zi (k : Int))]) 
    (o1 : (0 ≤ wr (k : Int) ∧ wr (k : Int) < 40))
    (o2 : T (D + 2) 58 (18, [(0, zr 9), (1, zi h), (2, zi l), (3, zi w), (4, zi p), (5, zi i), (6, zi ((k : Int) + 1))], [], (zu m 13 ((wr (k : Int)).toNat) v)) κ) :
    T (D + 2) 58 (206, lo, [zi v, zi (k : Int), zr 13], m) κ :=
  zkeep hT hlo (hT.1 [(18, [0, 1, 2, 3, 4, 5, 6])] 6 (D + 2) 58 _ κ (And.intro (And.intro (o1) trivial) (o2)))
theorem zb58_206 (hT : zRules T) {D : Nat} {κ : Option zA → zM → Prop} {m : zM} {h : Int} {l : Int} {w : Int} {p : Int} {i : Int} {k : Nat} {v : Int} {lo : zL} (hlo : z_keep [0, 1, 2, 3, 4, 5, 6] lo = [(0, zr 9), (1, zi h), (2, zi l), (3, zi w), (4, zi p), (5, zi i), (6, zi (k : Int))])  (hB : zB m) (h_h : 0 ≤ h ∧ h ≤ 99) (h_l : 0 ≤ l ∧ l ≤ 9) (h_w : 0 ≤ w ∧ w ≤ 500000) (h_p : 0 ≤ p ∧ p ≤ 3) (h_i : 0 ≤ i ∧ i ≤ 5) (h_k : k ≤ 39) 
    (k1 : zB (zu m 13 k v) → T (D + 2) 58 (18, [(0, zr 9), (1, zi h), (2, zi l), (3, zi w), (4, zi p), (5, zi i), (6, zi ((k : Int) + 1))], [], (zu m 13 k v)) κ) :
    T (D + 2) 58 (206, lo, [zi v, zi (k : Int), zr 13], m) κ := by
  have he0 : wr (k : Int) = (k : Int) := wr_id (by omega) (by omega)
  have he1 : (k : Int).toNat = k := by omega
  have key := @zb58_206r T hT D κ m h l w p i k v lo hlo
  simp only [he0, he1, Int.toNat_natCast] at key
  exact key
    (by refine ⟨?_, ?_⟩ <;> omega)
    (k1  (zB_u hB trivial))
theorem zb59_0r (hT : zRules T) {D : Nat} {κ : Option zA → zM → Prop} {m : zM} {kd : Int} {a : Int} {b : Int} 
    (o1 : wr kd = 42 → κ (some (zi (wr (a * b)))) m)
    (o2 : ¬ wr kd = 42 → wr kd = 43 → κ (some (zi (wr (a + b)))) m)
    (o3 : ¬ wr kd = 42 → ¬ wr kd = 43 → wr kd = 44 → κ (some (zi (wr (-a)))) m)
    (o4 : ¬ wr kd = 42 → ¬ wr kd = 43 → ¬ wr kd = 44 → wr kd = 45 → κ (some (zi (wr (a - b)))) m)
    (o5 : ¬ wr kd = 42 → ¬ wr kd = 43 → ¬ wr kd = 44 → ¬ wr kd = 45 → wr kd = 46 → κ (some (zi (wr (-a)))) m)
    (o6 : ¬ wr kd = 42 → ¬ wr kd = 43 → ¬ wr kd = 44 → ¬ wr kd = 45 → ¬ wr kd = 46 → wr kd = 47 → ¬ wr b = 0 → ¬ wr b = 0)
    (o7 : ¬ wr kd = 42 → ¬ wr kd = 43 → ¬ wr kd = 44 → ¬ wr kd = 45 → ¬ wr kd = 46 → wr kd = 47 → ¬ wr b = 0 → κ (some (zi (wr (Int.tdiv (wr a) (wr b))))) m)
    (o8 : ¬ wr kd = 42 → ¬ wr kd = 43 → ¬ wr kd = 44 → ¬ wr kd = 45 → ¬ wr kd = 46 → wr kd = 47 → wr b = 0 → κ (some (zi 0)) m)
    (o9 : ¬ wr kd = 42 → ¬ wr kd = 43 → ¬ wr kd = 44 → ¬ wr kd = 45 → ¬ wr kd = 46 → ¬ wr kd = 47 → wr kd = 48 → κ (some (zi (wr (-a)))) m)
    (o10 : ¬ wr kd = 42 → ¬ wr kd = 43 → ¬ wr kd = 44 → ¬ wr kd = 45 → ¬ wr kd = 46 → ¬ wr kd = 47 → ¬ wr kd = 48 → wr kd = 49 → κ (some (zi (wr (-a)))) m)
    (o11 : ¬ wr kd = 42 → ¬ wr kd = 43 → ¬ wr kd = 44 → ¬ wr kd = 45 → ¬ wr kd = 46 → ¬ wr kd = 47 → ¬ wr kd = 48 → ¬ wr kd = 49 → wr kd = 50 → κ (some (zi (wr (-a)))) m)
    (o12 : ¬ wr kd = 42 → ¬ wr kd = 43 → ¬ wr kd = 44 → ¬ wr kd = 45 → ¬ wr kd = 46 → ¬ wr kd = 47 → ¬ wr kd = 48 → ¬ wr kd = 49 → ¬ wr kd = 50 → wr kd = 51 → κ (some (zi (wr (-a)))) m)
    (o13 : ¬ wr kd = 42 → ¬ wr kd = 43 → ¬ wr kd = 44 → ¬ wr kd = 45 → ¬ wr kd = 46 → ¬ wr kd = 47 → ¬ wr kd = 48 → ¬ wr kd = 49 → ¬ wr kd = 50 → ¬ wr kd = 51 → wr kd = 52 → κ (some (zi (wr (-a)))) m)
    (o14 : ¬ wr kd = 42 → ¬ wr kd = 43 → ¬ wr kd = 44 → ¬ wr kd = 45 → ¬ wr kd = 46 → ¬ wr kd = 47 → ¬ wr kd = 48 → ¬ wr kd = 49 → ¬ wr kd = 50 → ¬ wr kd = 51 → ¬ wr kd = 52 → wr kd = 53 → κ (some (zi (wr (-a)))) m)
    (o15 : ¬ wr kd = 42 → ¬ wr kd = 43 → ¬ wr kd = 44 → ¬ wr kd = 45 → ¬ wr kd = 46 → ¬ wr kd = 47 → ¬ wr kd = 48 → ¬ wr kd = 49 → ¬ wr kd = 50 → ¬ wr kd = 51 → ¬ wr kd = 52 → ¬ wr kd = 53 → wr kd = 54 → κ (some (zi (wr (-a)))) m)
    (o16 : ¬ wr kd = 42 → ¬ wr kd = 43 → ¬ wr kd = 44 → ¬ wr kd = 45 → ¬ wr kd = 46 → ¬ wr kd = 47 → ¬ wr kd = 48 → ¬ wr kd = 49 → ¬ wr kd = 50 → ¬ wr kd = 51 → ¬ wr kd = 52 → ¬ wr kd = 53 → ¬ wr kd = 54 → wr kd = 55 → κ (some (zi (wr (-a)))) m)
    (o17 : ¬ wr kd = 42 → ¬ wr kd = 43 → ¬ wr kd = 44 → ¬ wr kd = 45 → ¬ wr kd = 46 → ¬ wr kd = 47 → ¬ wr kd = 48 → ¬ wr kd = 49 → ¬ wr kd = 50 → ¬ wr kd = 51 → ¬ wr kd = 52 → ¬ wr kd = 53 → ¬ wr kd = 54 → ¬ wr kd = 55 → wr kd = 56 → κ (some (zi (wr (-a)))) m)
    (o18 : ¬ wr kd = 42 → ¬ wr kd = 43 → ¬ wr kd = 44 → ¬ wr kd = 45 → ¬ wr kd = 46 → ¬ wr kd = 47 → ¬ wr kd = 48 → ¬ wr kd = 49 → ¬ wr kd = 50 → ¬ wr kd = 51 → ¬ wr kd = 52 → ¬ wr kd = 53 → ¬ wr kd = 54 → ¬ wr kd = 55 → ¬ wr kd = 56 → wr kd = 57 → κ (some (zi (wr (-a)))) m)
    (o19 : ¬ wr kd = 42 → ¬ wr kd = 43 → ¬ wr kd = 44 → ¬ wr kd = 45 → ¬ wr kd = 46 → ¬ wr kd = 47 → ¬ wr kd = 48 → ¬ wr kd = 49 → ¬ wr kd = 50 → ¬ wr kd = 51 → ¬ wr kd = 52 → ¬ wr kd = 53 → ¬ wr kd = 54 → ¬ wr kd = 55 → ¬ wr kd = 56 → ¬ wr kd = 57 → wr kd = 58 → κ (some (zi (wr (-a)))) m)
    (o20 : ¬ wr kd = 42 → ¬ wr kd = 43 → ¬ wr kd = 44 → ¬ wr kd = 45 → ¬ wr kd = 46 → ¬ wr kd = 47 → ¬ wr kd = 48 → ¬ wr kd = 49 → ¬ wr kd = 50 → ¬ wr kd = 51 → ¬ wr kd = 52 → ¬ wr kd = 53 → ¬ wr kd = 54 → ¬ wr kd = 55 → ¬ wr kd = 56 → ¬ wr kd = 57 → ¬ wr kd = 58 → wr kd = 59 → κ (some (zi (wr (-a)))) m)
    (o21 : ¬ wr kd = 42 → ¬ wr kd = 43 → ¬ wr kd = 44 → ¬ wr kd = 45 → ¬ wr kd = 46 → ¬ wr kd = 47 → ¬ wr kd = 48 → ¬ wr kd = 49 → ¬ wr kd = 50 → ¬ wr kd = 51 → ¬ wr kd = 52 → ¬ wr kd = 53 → ¬ wr kd = 54 → ¬ wr kd = 55 → ¬ wr kd = 56 → ¬ wr kd = 57 → ¬ wr kd = 58 → ¬ wr kd = 59 → wr kd = 60 → ¬ wr a < wr b → κ (some (zi 0)) m)
    (o22 : ¬ wr kd = 42 → ¬ wr kd = 43 → ¬ wr kd = 44 → ¬ wr kd = 45 → ¬ wr kd = 46 → ¬ wr kd = 47 → ¬ wr kd = 48 → ¬ wr kd = 49 → ¬ wr kd = 50 → ¬ wr kd = 51 → ¬ wr kd = 52 → ¬ wr kd = 53 → ¬ wr kd = 54 → ¬ wr kd = 55 → ¬ wr kd = 56 → ¬ wr kd = 57 → ¬ wr kd = 58 → ¬ wr kd = 59 → wr kd = 60 → wr a < wr b → κ (some (zi 1)) m)
    (o23 : ¬ wr kd = 42 → ¬ wr kd = 43 → ¬ wr kd = 44 → ¬ wr kd = 45 → ¬ wr kd = 46 → ¬ wr kd = 47 → ¬ wr kd = 48 → ¬ wr kd = 49 → ¬ wr kd = 50 → ¬ wr kd = 51 → ¬ wr kd = 52 → ¬ wr kd = 53 → ¬ wr kd = 54 → ¬ wr kd = 55 → ¬ wr kd = 56 → ¬ wr kd = 57 → ¬ wr kd = 58 → ¬ wr kd = 59 → ¬ wr kd = 60 → wr kd = 61 → ¬ wr a = wr b → κ (some (zi 0)) m)
    (o24 : ¬ wr kd = 42 → ¬ wr kd = 43 → ¬ wr kd = 44 → ¬ wr kd = 45 → ¬ wr kd = 46 → ¬ wr kd = 47 → ¬ wr kd = 48 → ¬ wr kd = 49 → ¬ wr kd = 50 → ¬ wr kd = 51 → ¬ wr kd = 52 → ¬ wr kd = 53 → ¬ wr kd = 54 → ¬ wr kd = 55 → ¬ wr kd = 56 → ¬ wr kd = 57 → ¬ wr kd = 58 → ¬ wr kd = 59 → ¬ wr kd = 60 → wr kd = 61 → wr a = wr b → κ (some (zi 1)) m)
    (o25 : ¬ wr kd = 42 → ¬ wr kd = 43 → ¬ wr kd = 44 → ¬ wr kd = 45 → ¬ wr kd = 46 → ¬ wr kd = 47 → ¬ wr kd = 48 → ¬ wr kd = 49 → ¬ wr kd = 50 → ¬ wr kd = 51 → ¬ wr kd = 52 → ¬ wr kd = 53 → ¬ wr kd = 54 → ¬ wr kd = 55 → ¬ wr kd = 56 → ¬ wr kd = 57 → ¬ wr kd = 58 → ¬ wr kd = 59 → ¬ wr kd = 60 → ¬ wr kd = 61 → wr kd = 62 → ¬ wr b < wr a → κ (some (zi 0)) m)
    (o26 : ¬ wr kd = 42 → ¬ wr kd = 43 → ¬ wr kd = 44 → ¬ wr kd = 45 → ¬ wr kd = 46 → ¬ wr kd = 47 → ¬ wr kd = 48 → ¬ wr kd = 49 → ¬ wr kd = 50 → ¬ wr kd = 51 → ¬ wr kd = 52 → ¬ wr kd = 53 → ¬ wr kd = 54 → ¬ wr kd = 55 → ¬ wr kd = 56 → ¬ wr kd = 57 → ¬ wr kd = 58 → ¬ wr kd = 59 → ¬ wr kd = 60 → ¬ wr kd = 61 → wr kd = 62 → wr b < wr a → κ (some (zi 1)) m)
    (o27 : ¬ wr kd = 42 → ¬ wr kd = 43 → ¬ wr kd = 44 → ¬ wr kd = 45 → ¬ wr kd = 46 → ¬ wr kd = 47 → ¬ wr kd = 48 → ¬ wr kd = 49 → ¬ wr kd = 50 → ¬ wr kd = 51 → ¬ wr kd = 52 → ¬ wr kd = 53 → ¬ wr kd = 54 → ¬ wr kd = 55 → ¬ wr kd = 56 → ¬ wr kd = 57 → ¬ wr kd = 58 → ¬ wr kd = 59 → ¬ wr kd = 60 → ¬ wr kd = 61 → ¬ wr kd = 62 → κ (some (zi (wr (-a)))) m) :
    T (D + 1) 59 (0, [(0, zi kd), (1, zi a), (2, zi b)], [], m) κ :=
  hT.1 [] 6 (D + 1) 59 _ κ (And.intro (fun a1 => (o1 a1)) (fun a2 => (And.intro (fun a3 => (o2 a2 a3)) (fun a4 => (And.intro (fun a5 => (o3 a2 a4 a5)) (fun a6 => (And.intro (fun a7 => (o4 a2 a4 a6 a7)) (fun a8 => (And.intro (fun a9 => (o5 a2 a4 a6 a8 a9)) (fun a10 => (And.intro (fun a11 => (And.intro (fun a13 => (hT.1 [] 6 (D + 1) 59 (122, [(0, zi kd), (1, zi a), (2, zi b)], [zi b, zi a], m) _ (And.intro (o6 a2 a4 a6 a8 a10 a11 a13) (o7 a2 a4 a6 a8 a10 a11 a13)))) (fun a14 => (hT.1 [] 6 (D + 1) 59 (123, [(0, zi kd), (1, zi a), (2, zi b)], [zi 0], m) _ (o8 a2 a4 a6 a8 a10 a11 (Classical.byContradiction a14)))))) (fun a12 => (And.intro (fun a15 => (o9 a2 a4 a6 a8 a10 a12 a15)) (fun a16 => (And.intro (fun a17 => (o10 a2 a4 a6 a8 a10 a12 a16 a17)) (fun a18 => (And.intro (fun a19 => (o11 a2 a4 a6 a8 a10 a12 a16 a18 a19)) (fun a20 => (And.intro (fun a21 => (o12 a2 a4 a6 a8 a10 a12 a16 a18 a20 a21)) (fun a22 => (And.intro (fun a23 => (o13 a2 a4 a6 a8 a10 a12 a16 a18 a20 a22 a23)) (fun a24 => (And.intro (fun a25 => (o14 a2 a4 a6 a8 a10 a12 a16 a18 a20 a22 a24 a25)) (fun a26 => (And.intro (fun a27 => (o15 a2 a4 a6 a8 a10 a12 a16 a18 a20 a22 a24 a26 a27)) (fun a28 => (And.intro (fun a29 => (o16 a2 a4 a6 a8 a10 a12 a16 a18 a20 a22 a24 a26 a28 a29)) (fun a30 => (And.intro (fun a31 => (o17 a2 a4 a6 a8 a10 a12 a16 a18 a20 a22 a24 a26 a28 a30 a31)) (fun a32 => (And.intro (fun a33 => (o18 a2 a4 a6 a8 a10 a12 a16 a18 a20 a22 a24 a26 a28 a30 a32 a33)) (fun a34 => (And.intro (fun a35 => (o19 a2 a4 a6 a8 a10 a12 a16 a18 a20 a22 a24 a26 a28 a30 a32 a34 a35)) (fun a36 => (And.intro (fun a37 => (o20 a2 a4 a6 a8 a10 a12 a16 a18 a20 a22 a24 a26 a28 a30 a32 a34 a36 a37)) (fun a38 => (And.intro (fun a39 => (And.intro (fun a41 => (hT.1 [] 6 (D + 1) 59 (134, [(0, zi kd), (1, zi a), (2, zi b)], [zi 0], m) _ (o21 a2 a4 a6 a8 a10 a12 a16 a18 a20 a22 a24 a26 a28 a30 a32 a34 a36 a38 a39 a41))) (fun a42 => (hT.1 [] 6 (D + 1) 59 (130, [(0, zi kd), (1, zi a), (2, zi b)], [zi 1], m) _ (o22 a2 a4 a6 a8 a10 a12 a16 a18 a20 a22 a24 a26 a28 a30 a32 a34 a36 a38 a39 (Classical.byContradiction a42)))))) (fun a40 => (And.intro (fun a43 => (And.intro (fun a45 => (hT.1 [] 6 (D + 1) 59 (156, [(0, zi kd), (1, zi a), (2, zi b)], [zi 0], m) _ (o23 a2 a4 a6 a8 a10 a12 a16 a18 a20 a22 a24 a26 a28 a30 a32 a34 a36 a38 a40 a43 a45))) (fun a46 => (hT.1 [] 6 (D + 1) 59 (152, [(0, zi kd), (1, zi a), (2, zi b)], [zi 1], m) _ (o24 a2 a4 a6 a8 a10 a12 a16 a18 a20 a22 a24 a26 a28 a30 a32 a34 a36 a38 a40 a43 (Classical.byContradiction a46)))))) (fun a44 => (And.intro (fun a47 => (And.intro (fun a49 => (hT.1 [] 6 (D + 1) 59 (145, [(0, zi kd), (1, zi a), (2, zi b)], [zi 0], m) _ (o25 a2 a4 a6 a8 a10 a12 a16 a18 a20 a22 a24 a26 a28 a30 a32 a34 a36 a38 a40 a44 a47 a49))) (fun a50 => (hT.1 [] 6 (D + 1) 59 (141, [(0, zi kd), (1, zi a), (2, zi b)], [zi 1], m) _ (o26 a2 a4 a6 a8 a10 a12 a16 a18 a20 a22 a24 a26 a28 a30 a32 a34 a36 a38 a40 a44 a47 (Classical.byContradiction a50)))))) (fun a48 => (o27 a2 a4 a6 a8 a10 a12 a16 a18 a20 a22 a24 a26 a28 a30 a32 a34 a36 a38 a40 a44 a48)))))))))))))))))))))))))))))))))))))))))))
theorem zb59_0 (hT : zRules T) {D : Nat} {κ : Option zA → zM → Prop} {m : zM} {kd : Int} {a : Int} {b : Int}  (hB : zB m) (h_kd : (-1) ≤ kd ∧ kd ≤ 65535) 
    (k1 : kd = 42 → κ (some (zi (wr (a * b)))) m)
    (k2 : ¬ kd = 42 → kd = 43 → κ (some (zi (wr (a + b)))) m)
    (k3 : ¬ kd = 42 → ¬ kd = 43 → kd = 44 → κ (some (zi (wr (-a)))) m)
    (k4 : ¬ kd = 42 → ¬ kd = 43 → ¬ kd = 44 → kd = 45 → κ (some (zi (wr (a - b)))) m)
    (k5 : ¬ kd = 42 → ¬ kd = 43 → ¬ kd = 44 → ¬ kd = 45 → kd = 46 → κ (some (zi (wr (-a)))) m)
    (k6 : ¬ kd = 42 → ¬ kd = 43 → ¬ kd = 44 → ¬ kd = 45 → ¬ kd = 46 → kd = 47 → ¬ wr b = 0 → κ (some (zi (wr (Int.tdiv (wr a) (wr b))))) m)
    (k7 : ¬ kd = 42 → ¬ kd = 43 → ¬ kd = 44 → ¬ kd = 45 → ¬ kd = 46 → kd = 47 → wr b = 0 → κ (some (zi 0)) m)
    (k8 : ¬ kd = 42 → ¬ kd = 43 → ¬ kd = 44 → ¬ kd = 45 → ¬ kd = 46 → ¬ kd = 47 → kd = 48 → κ (some (zi (wr (-a)))) m)
    (k9 : ¬ kd = 42 → ¬ kd = 43 → ¬ kd = 44 → ¬ kd = 45 → ¬ kd = 46 → ¬ kd = 47 → ¬ kd = 48 → kd = 49 → κ (some (zi (wr (-a)))) m)
    (k10 : ¬ kd = 42 → ¬ kd = 43 → ¬ kd = 44 → ¬ kd = 45 → ¬ kd = 46 → ¬ kd = 47 → ¬ kd = 48 → ¬ kd = 49 → kd = 50 → κ (some (zi (wr (-a)))) m)
    (k11 : ¬ kd = 42 → ¬ kd = 43 → ¬ kd = 44 → ¬ kd = 45 → ¬ kd = 46 → ¬ kd = 47 → ¬ kd = 48 → ¬ kd = 49 → ¬ kd = 50 → kd = 51 → κ (some (zi (wr (-a)))) m)
    (k12 : ¬ kd = 42 → ¬ kd = 43 → ¬ kd = 44 → ¬ kd = 45 → ¬ kd = 46 → ¬ kd = 47 → ¬ kd = 48 → ¬ kd = 49 → ¬ kd = 50 → ¬ kd = 51 → kd = 52 → κ (some (zi (wr (-a)))) m)
    (k13 : ¬ kd = 42 → ¬ kd = 43 → ¬ kd = 44 → ¬ kd = 45 → ¬ kd = 46 → ¬ kd = 47 → ¬ kd = 48 → ¬ kd = 49 → ¬ kd = 50 → ¬ kd = 51 → ¬ kd = 52 → kd = 53 → κ (some (zi (wr (-a)))) m)
    (k14 : ¬ kd = 42 → ¬ kd = 43 → ¬ kd = 44 → ¬ kd = 45 → ¬ kd = 46 → ¬ kd = 47 → ¬ kd = 48 → ¬ kd = 49 → ¬ kd = 50 → ¬ kd = 51 → ¬ kd = 52 → ¬ kd = 53 → kd = 54 → κ (some (zi (wr (-a)))) m)
    (k15 : ¬ kd = 42 → ¬ kd = 43 → ¬ kd = 44 → ¬ kd = 45 → ¬ kd = 46 → ¬ kd = 47 → ¬ kd = 48 → ¬ kd = 49 → ¬ kd = 50 → ¬ kd = 51 → ¬ kd = 52 → ¬ kd = 53 → ¬ kd = 54 → kd = 55 → κ (some (zi (wr (-a)))) m)
    (k16 : ¬ kd = 42 → ¬ kd = 43 → ¬ kd = 44 → ¬ kd = 45 → ¬ kd = 46 → ¬ kd = 47 → ¬ kd = 48 → ¬ kd = 49 → ¬ kd = 50 → ¬ kd = 51 → ¬ kd = 52 → ¬ kd = 53 → ¬ kd = 54 → ¬ kd = 55 → kd = 56 → κ (some (zi (wr (-a)))) m)
    (k17 : ¬ kd = 42 → ¬ kd = 43 → ¬ kd = 44 → ¬ kd = 45 → ¬ kd = 46 → ¬ kd = 47 → ¬ kd = 48 → ¬ kd = 49 → ¬ kd = 50 → ¬ kd = 51 → ¬ kd = 52 → ¬ kd = 53 → ¬ kd = 54 → ¬ kd = 55 → ¬ kd = 56 → kd = 57 → κ (some (zi (wr (-a)))) m)
    (k18 : ¬ kd = 42 → ¬ kd = 43 → ¬ kd = 44 → ¬ kd = 45 → ¬ kd = 46 → ¬ kd = 47 → ¬ kd = 48 → ¬ kd = 49 → ¬ kd = 50 → ¬ kd = 51 → ¬ kd = 52 → ¬ kd = 53 → ¬ kd = 54 → ¬ kd = 55 → ¬ kd = 56 → ¬ kd = 57 → kd = 58 → κ (some (zi (wr (-a)))) m)
    (k19 : ¬ kd = 42 → ¬ kd = 43 → ¬ kd = 44 → ¬ kd = 45 → ¬ kd = 46 → ¬ kd = 47 → ¬ kd = 48 → ¬ kd = 49 → ¬ kd = 50 → ¬ kd = 51 → ¬ kd = 52 → ¬ kd = 53 → ¬ kd = 54 → ¬ kd = 55 → ¬ kd = 56 → ¬ kd = 57 → ¬ kd = 58 → kd = 59 → κ (some (zi (wr (-a)))) m)
    (k20 : ¬ kd = 42 → ¬ kd = 43 → ¬ kd = 44 → ¬ kd = 45 → ¬ kd = 46 → ¬ kd = 47 → ¬ kd = 48 → ¬ kd = 49 → ¬ kd = 50 → ¬ kd = 51 → ¬ kd = 52 → ¬ kd = 53 → ¬ kd = 54 → ¬ kd = 55 → ¬ kd = 56 → ¬ kd = 57 → ¬ kd = 58 → ¬ kd = 59 → kd = 60 → ¬ wr a < wr b → κ (some (zi 0)) m)
    (k21 : ¬ kd = 42 → ¬ kd = 43 → ¬ kd = 44 → ¬ kd = 45 → ¬ kd = 46 → ¬ kd = 47 → ¬ kd = 48 → ¬ kd = 49 → ¬ kd = 50 → ¬ kd = 51 → ¬ kd = 52 → ¬ kd = 53 → ¬ kd = 54 → ¬ kd = 55 → ¬ kd = 56 → ¬ kd = 57 → ¬ kd = 58 → ¬ kd = 59 → kd = 60 → wr a < wr b → κ (some (zi 1)) m)
    (k22 : ¬ kd = 42 → ¬ kd = 43 → ¬ kd = 44 → ¬ kd = 45 → ¬ kd = 46 → ¬ kd = 47 → ¬ kd = 48 → ¬ kd = 49 → ¬ kd = 50 → ¬ kd = 51 → ¬ kd = 52 → ¬ kd = 53 → ¬ kd = 54 → ¬ kd = 55 → ¬ kd = 56 → ¬ kd = 57 → ¬ kd = 58 → ¬ kd = 59 → ¬ kd = 60 → kd = 61 → ¬ wr a = wr b → κ (some (zi 0)) m)
    (k23 : ¬ kd = 42 → ¬ kd = 43 → ¬ kd = 44 → ¬ kd = 45 → ¬ kd = 46 → ¬ kd = 47 → ¬ kd = 48 → ¬ kd = 49 → ¬ kd = 50 → ¬ kd = 51 → ¬ kd = 52 → ¬ kd = 53 → ¬ kd = 54 → ¬ kd = 55 → ¬ kd = 56 → ¬ kd = 57 → ¬ kd = 58 → ¬ kd = 59 → ¬ kd = 60 → kd = 61 → wr a = wr b → κ (some (zi 1)) m)
    (k24 : ¬ kd = 42 → ¬ kd = 43 → ¬ kd = 44 → ¬ kd = 45 → ¬ kd = 46 → ¬ kd = 47 → ¬ kd = 48 → ¬ kd = 49 → ¬ kd = 50 → ¬ kd = 51 → ¬ kd = 52 → ¬ kd = 53 → ¬ kd = 54 → ¬ kd = 55 → ¬ kd = 56 → ¬ kd = 57 → ¬ kd = 58 → ¬ kd = 59 → ¬ kd = 60 → ¬ kd = 61 → kd = 62 → ¬ wr b < wr a → κ (some (zi 0)) m)
    (k25 : ¬ kd = 42 → ¬ kd = 43 → ¬ kd = 44 → ¬ kd = 45 → ¬ kd = 46 → ¬ kd = 47 → ¬ kd = 48 → ¬ kd = 49 → ¬ kd = 50 → ¬ kd = 51 → ¬ kd = 52 → ¬ kd = 53 → ¬ kd = 54 → ¬ kd = 55 → ¬ kd = 56 → ¬ kd = 57 → ¬ kd = 58 → ¬ kd = 59 → ¬ kd = 60 → ¬ kd = 61 → kd = 62 → wr b < wr a → κ (some (zi 1)) m)
    (k26 : ¬ kd = 42 → ¬ kd = 43 → ¬ kd = 44 → ¬ kd = 45 → ¬ kd = 46 → ¬ kd = 47 → ¬ kd = 48 → ¬ kd = 49 → ¬ kd = 50 → ¬ kd = 51 → ¬ kd = 52 → ¬ kd = 53 → ¬ kd = 54 → ¬ kd = 55 → ¬ kd = 56 → ¬ kd = 57 → ¬ kd = 58 → ¬ kd = 59 → ¬ kd = 60 → ¬ kd = 61 → ¬ kd = 62 → κ (some (zi (wr (-a)))) m) :
    T (D + 1) 59 (0, [(0, zi kd), (1, zi a), (2, zi b)], [], m) κ := by
  have hb1 : (-2147483648) ≤ wr (a * b) ∧ wr (a * b) ≤ 2147483647 := wrB (a * b)
  have hb2 : (-2147483648) ≤ wr (a + b) ∧ wr (a + b) ≤ 2147483647 := wrB (a + b)
  have hb3 : (-2147483648) ≤ wr (-a) ∧ wr (-a) ≤ 2147483647 := wrB (-a)
  have hb4 : (-2147483648) ≤ wr (a - b) ∧ wr (a - b) ≤ 2147483647 := wrB (a - b)
  have hb5 : (-2147483648) ≤ wr b ∧ wr b ≤ 2147483647 := wrB b
  have hb6 : (-2147483648) ≤ wr a ∧ wr a ≤ 2147483647 := wrB a
  have hb7 : (-2147483648) ≤ wr (Int.tdiv (wr a) (wr b)) ∧ wr (Int.tdiv (wr a) (wr b)) ≤ 2147483647 := wrB (Int.tdiv (wr a) (wr b))
  have he0 : wr kd = kd := wr_id (by omega) (by omega)
  have key := @zb59_0r T hT D κ m kd a b
  simp only [he0, Int.toNat_natCast] at key
  exact key
    k1
    k2
    k3
    k4
    k5
    (fun x0 x1 x2 x3 x4 x5 x6 => by omega)
    k6
    k7
    k8
    k9
    k10
    k11
    k12
    k13
    k14
    k15
    k16
    k17
    k18
    k19
    k20
    k21
    k22
    k23
    k24
    k25
    k26
theorem zb170_0ar (hT : zRules T) {D : Nat} {κ : Option zA → zM → Prop} {m : zM} {h : Int} {i : Int} {p : Nat} {w : Int} 
    (o1 : wr (p : Int) < 0 → False)
    (o2 : ¬ wr (p : Int) < 0 → ¬ wr (p : Int) < wr (m 4 4) → κ (some (zi 0)) m)
    (o3 : ¬ wr (p : Int) < 0 → wr (p : Int) < wr (m 4 4) → wr w < 0 → False)
    (o4 : ¬ wr (p : Int) < 0 → wr (p : Int) < wr (m 4 4) → ¬ wr w < 0 → (0 ≤ wr (p : Int) ∧ wr (p : Int) < 4))
    (o5 : ¬ wr (p : Int) < 0 → wr (p : Int) < wr (m 4 4) → ¬ wr w < 0 → ¬ wr (m 6 ((wr (p : Int)).toNat)) < 1 → (0 ≤ wr (p : Int) ∧ wr (p : Int) < 4))
    (o6 : ¬ wr (p : Int) < 0 → wr (p : Int) < wr (m 4 4) → ¬ wr w < 0 → ¬ wr (m 6 ((wr (p : Int)).toNat)) < 1 → ¬ wr (m 6 ((wr (p : Int)).toNat)) = 0)
    (o7 : ¬ wr (p : Int) < 0 → wr (p : Int) < wr (m 4 4) → ¬ wr w < 0 → ¬ wr (m 6 ((wr (p : Int)).toNat)) < 1 → (0 ≤ wr (((p : Int) * 26) + (Int.tmod (wr w) (wr (m 6 ((wr (p : Int)).toNat))))) ∧ wr (((p : Int) * 26) + (Int.tmod (wr w) (wr (m 6 ((wr (p : Int)).toNat))))) < 104))
    (o8 : ¬ wr (p : Int) < 0 → wr (p : Int) < wr (m 4 4) → ¬ wr w < 0 → ¬ wr (m 6 ((wr (p : Int)).toNat)) < 1 → ¬ wr (wr (m 5 ((wr (((p : Int) * 26) + (Int.tmod (wr w) (wr (m 6 ((wr (p : Int)).toNat)))))).toNat))) = (-1) → T (D + 2) 58 (0, [(0, zr 9), (1, zi h), (2, zi (wr (m 5 ((wr (((p : Int) * 26) + (Int.tmod (wr w) (wr (m 6 ((wr (p : Int)).toNat)))))).toNat)))), (3, zi w), (4, zi (p : Int)), (5, zi i)], [], m) (fun r m1 => T (D + 3) 170 (34, [(0, zr 1), (1, zi h), (2, zi i), (3, zi (p : Int)), (4, zi w), (5, zi (wr (m 5 ((wr (((p : Int) * 26) + (Int.tmod (wr w) (wr (m 6 ((wr (p : Int)).toNat)))))).toNat))))], r.toList ++ [], m1) κ))
    (o9 : ¬ wr (p : Int) < 0 → wr (p : Int) < wr (m 4 4) → ¬ wr w < 0 → ¬ wr (m 6 ((wr (p : Int)).toNat)) < 1 → wr (wr (m 5 ((wr (((p : Int) * 26) + (Int.tmod (wr w) (wr (m 6 ((wr (p : Int)).toNat)))))).toNat))) = (-1) → False)
    (o10 : ¬ wr (p : Int) < 0 → wr (p : Int) < wr (m 4 4) → ¬ wr w < 0 → wr (m 6 ((wr (p : Int)).toNat)) < 1 → False) :
    T (D + 3) 170 (0, [(0, zr 1), (1, zi h), (2, zi i), (3, zi (p : Int)), (4, zi w)], [], m) κ :=
  hT.1 [] 6 (D + 3) 170 _ κ (hT.1 [] 6 (D + 2) 1 _ _ (And.intro (fun a1 => (o1 a1).elim) (fun a2 => (And.intro (fun a3 => (hT.1 [] 6 (D + 2) 1 (26, [(0, zr 4), (1, zi (p : Int)), (2, zi w)], [], m) _ (hT.1 [] 6 (D + 3) 170 _ _ (And.intro (fun a5 => (z_litF a5 rfl).elim) (fun _ => (o2 a2 a3)))))) (fun a4 => (hT.1 [] 6 (D + 2) 1 (12, [(0, zr 4), (1, zi (p : Int)), (2, zi w)], [], m) _ (And.intro (fun a6 => (o3 a2 (Classical.byContradiction a4) a6).elim) (fun a7 => (And.intro (o4 a2 (Classical.byContradiction a4) a7) (hT.1 [] 6 (D + 2) 1 (22, [(0, zr 4), (1, zi (p : Int)), (2, zi w)], [zi (m 6 ((wr (p : Int)).toNat))], m) _ (And.intro (fun a8 => (hT.1 [] 6 (D + 2) 1 (35, [(0, zr 4), (1, zi (p : Int)), (2, zi w)], [zi 26, zi (p : Int), zr 5], m) _ (And.intro (o5 a2 (Classical.byContradiction a4) a7 a8) (hT.1 [] 6 (D + 2) 1 (43, [(0, zr 4), (1, zi (p : Int)), (2, zi w)], [zi (m 6 ((wr (p : Int)).toNat)), zi w, zi ((p : Int) * 26), zr 5], m) _ (And.intro (o6 a2 (Classical.byContradiction a4) a7 a8) (And.intro (o7 a2 (Classical.byContradiction a4) a7 a8) (hT.1 [] 6 (D + 3) 170 _ _ (And.intro (fun a10 => (hT.1 [] 6 (D + 3) 170 (24, [(0, zr 1), (1, zi h), (2, zi i), (3, zi (p : Int)), (4, zi w), (5, zi (wr (m 5 ((wr (((p : Int) * 26) + (Int.tmod (wr w) (wr (m 6 ((wr (p : Int)).toNat)))))).toNat))))], [zr 9], m) _ (o8 a2 (Classical.byContradiction a4) a7 a8 a10))) (fun a11 => (o9 a2 (Classical.byContradiction a4) a7 a8 (Classical.byContradiction a11)).elim))))))))) (fun a9 => (o10 a2 (Classical.byContradiction a4) a7 (Classical.byContradiction a9)).elim))))))))))))
theorem zb170_0a (hT : zRules T) {D : Nat} {κ : Option zA → zM → Prop} {m : zM} {h : Int} {i : Int} {p : Nat} {w : Int}  (hB : zB m) (h_h : 0 ≤ h ∧ h ≤ 99) (h_i : 0 ≤ i ∧ i ≤ 5) (h_p : p ≤ 3) (h_w : 0 ≤ w ∧ w ≤ 500000) (hf0 : 1 ≤ m 6 p ∧ m 6 p ≤ 26) 
    (k1 : ¬ (p : Int) < (m 4 4) → κ (some (zi 0)) m)
    (k2 : (p : Int) < (m 4 4) → T (D + 2) 58 (0, [(0, zr 9), (1, zi h), (2, zi (m 5 ((((p : Int) * 26) + (Int.tmod w (m 6 p))).toNat))), (3, zi w), (4, zi (p : Int)), (5, zi i)], [], m) (fun r m1 => T (D + 3) 170 (34, [(0, zr 1), (1, zi h), (2, zi i), (3, zi (p : Int)), (4, zi w), (5, zi (m 5 ((((p : Int) * 26) + (Int.tmod w (m 6 p))).toNat)))], r.toList ++ [], m1) κ)) :
    T (D + 3) 170 (0, [(0, zr 1), (1, zi h), (2, zi i), (3, zi (p : Int)), (4, zi w)], [], m) κ := by
  have hb5 : 0 ≤ (m 4 4) ∧ (m 4 4) ≤ 4 := hB 4 4
  have hb6 : 0 ≤ (Int.tmod w (m 6 p)) ∧ (Int.tmod w (m 6 p)) ≤ 25 := z_tmodB w (m 6 p) 25 (by omega) (by omega) (by omega)
  have hb7 : 0 ≤ (m 5 ((((p : Int) * 26) + (Int.tmod w (m 6 p))).toNat)) ∧ (m 5 ((((p : Int) * 26) + (Int.tmod w (m 6 p))).toNat)) ≤ 9 := hB 5 ((((p : Int) * 26) + (Int.tmod w (m 6 p))).toNat)
  have he0 : wr (p : Int) = (p : Int) := wr_id (by omega) (by omega)
  have he1 : wr (m 4 4) = (m 4 4) := wr_id (by omega) (by omega)
  have he2 : wr w = w := wr_id (by omega) (by omega)
  have he3 : (p : Int).toNat = p := by omega
  have he4 : wr (m 6 p) = (m 6 p) := wr_id (by omega) (by omega)
  have he5 : wr (((p : Int) * 26) + (Int.tmod w (m 6 p))) = (((p : Int) * 26) + (Int.tmod w (m 6 p))) := wr_id (by omega) (by omega)
  have he6 : wr (m 5 ((((p : Int) * 26) + (Int.tmod w (m 6 p))).toNat)) = (m 5 ((((p : Int) * 26) + (Int.tmod w (m 6 p))).toNat)) := wr_id (by omega) (by omega)
  have key := @zb170_0ar T hT D κ m h i p w
  simp only [he0, he1, he2, he3, he4, he5, he6, Int.toNat_natCast] at key
  exact key
    (fun x0 => by omega)
    (fun x0 x1 => k1 x1)
    (fun x0 x1 x2 => by omega)
    (fun x0 x1 x2 => by refine ⟨?_, ?_⟩ <;> omega)
    (fun x0 x1 x2 x3 => by refine ⟨?_, ?_⟩ <;> omega)
    (fun x0 x1 x2 x3 => by omega)
    (fun x0 x1 x2 x3 => by refine ⟨?_, ?_⟩ <;> omega)
    (fun x0 x1 x2 x3 x4 => k2 x1)
    (fun x0 x1 x2 x3 x4 => by omega)
    (fun x0 x1 x2 x3 => by omega)
theorem zb170_0br (hT : zRules T) {D : Nat} {κ : Option zA → zM → Prop} {m : zM} {h : Int} {i : Int} {p : Nat} {w : Int} 
    (o1 : wr (p : Int) < 0 → False)
    (o2 : ¬ wr (p : Int) < 0 → ¬ wr (p : Int) < wr (m 4 4) → κ (some (zi 0)) m)
    (o3 : ¬ wr (p : Int) < 0 → wr (p : Int) < wr (m 4 4) → wr w < 0 → False)
    (o4 : ¬ wr (p : Int) < 0 → wr (p : Int) < wr (m 4 4) → ¬ wr w < 0 → (0 ≤ wr (p : Int) ∧ wr (p : Int) < 4))
    (o5 : ¬ wr (p : Int) < 0 → wr (p : Int) < wr (m 4 4) → ¬ wr w < 0 → ¬ wr (m 6 ((wr (p : Int)).toNat)) < 1 → (0 ≤ wr (p : Int) ∧ wr (p : Int) < 4))
    (o6 : ¬ wr (p : Int) < 0 → wr (p : Int) < wr (m 4 4) → ¬ wr w < 0 → ¬ wr (m 6 ((wr (p : Int)).toNat)) < 1 → ¬ wr (m 6 ((wr (p : Int)).toNat)) = 0)
    (o7 : ¬ wr (p : Int) < 0 → wr (p : Int) < wr (m 4 4) → ¬ wr w < 0 → ¬ wr (m 6 ((wr (p : Int)).toNat)) < 1 → (0 ≤ wr (((p : Int) * 26) + (Int.tmod (wr w) (wr (m 6 ((wr (p : Int)).toNat))))) ∧ wr (((p : Int) * 26) + (Int.tmod (wr w) (wr (m 6 ((wr (p : Int)).toNat))))) < 104))
    (o8 : ¬ wr (p : Int) < 0 → wr (p : Int) < wr (m 4 4) → ¬ wr w < 0 → ¬ wr (m 6 ((wr (p : Int)).toNat)) < 1 → ¬ wr (wr (m 5 ((wr (((p : Int) * 26) + (Int.tmod (wr w) (wr (m 6 ((wr (p : Int)).toNat)))))).toNat))) = (-1) → T (D + 2) 58 (0, [(0, zr 9), (1, zi h), (2, zi (wr (m 5 ((wr (((p : Int) * 26) + (Int.tmod (wr w) (wr (m 6 ((wr (p : Int)).toNat)))))).toNat)))), (3, zi w), (4, zi (p : Int)), (5, zi i)], [], m) (fun r m1 => T (D + 3) 170 (34, [(0, zr 1), (1, zi h), (2, zi i), (3, zi (p : Int)), (4, zi w), (5, zi (wr (m 5 ((wr (((p : Int) * 26) + (Int.tmod (wr w) (wr (m 6 ((wr (p : Int)).toNat)))))).toNat))))], r.toList ++ [], m1) κ))
    (o9 : ¬ wr (p : Int) < 0 → wr (p : Int) < wr (m 4 4) → ¬ wr w < 0 → ¬ wr (m 6 ((wr (p : Int)).toNat)) < 1 → wr (wr (m 5 ((wr (((p : Int) * 26) + (Int.tmod (wr w) (wr (m 6 ((wr (p : Int)).toNat)))))).toNat))) = (-1) → False)
    (o10 : ¬ wr (p : Int) < 0 → wr (p : Int) < wr (m 4 4) → ¬ wr w < 0 → wr (m 6 ((wr (p : Int)).toNat)) < 1 → κ (some (zi 0)) m) :
    T (D + 3) 170 (0, [(0, zr 1), (1, zi h), (2, zi i), (3, zi (p : Int)), (4, zi w)], [], m) κ :=
  hT.1 [] 6 (D + 3) 170 _ κ (hT.1 [] 6 (D + 2) 1 _ _ (And.intro (fun a1 => (o1 a1).elim) (fun a2 => (And.intro (fun a3 => (hT.1 [] 6 (D + 2) 1 (26, [(0, zr 4), (1, zi (p : Int)), (2, zi w)], [], m) _ (hT.1 [] 6 (D + 3) 170 _ _ (And.intro (fun a5 => (z_litF a5 rfl).elim) (fun _ => (o2 a2 a3)))))) (fun a4 => (hT.1 [] 6 (D + 2) 1 (12, [(0, zr 4), (1, zi (p : Int)), (2, zi w)], [], m) _ (And.intro (fun a6 => (o3 a2 (Classical.byContradiction a4) a6).elim) (fun a7 => (And.intro (o4 a2 (Classical.byContradiction a4) a7) (hT.1 [] 6 (D + 2) 1 (22, [(0, zr 4), (1, zi (p : Int)), (2, zi w)], [zi (m 6 ((wr (p : Int)).toNat))], m) _ (And.intro (fun a8 => (hT.1 [] 6 (D + 2) 1 (35, [(0, zr 4), (1, zi (p : Int)), (2, zi w)], [zi 26, zi (p : Int), zr 5], m) _ (And.intro (o5 a2 (Classical.byContradiction a4) a7 a8) (hT.1 [] 6 (D + 2) 1 (43, [(0, zr 4), (1, zi (p : Int)), (2, zi w)], [zi (m 6 ((wr (p : Int)).toNat)), zi w, zi ((p : Int) * 26), zr 5], m) _ (And.intro (o6 a2 (Classical.byContradiction a4) a7 a8) (And.intro (o7 a2 (Classical.byContradiction a4) a7 a8) (hT.1 [] 6 (D + 3) 170 _ _ (And.intro (fun a10 => (hT.1 [] 6 (D + 3) 170 (24, [(0, zr 1), (1, zi h), (2, zi i), (3, zi (p : Int)), (4, zi w), (5, zi (wr (m 5 ((wr (((p : Int) * 26) + (Int.tmod (wr w) (wr (m 6 ((wr (p : Int)).toNat)))))).toNat))))], [zr 9], m) _ (o8 a2 (Classical.byContradiction a4) a7 a8 a10))) (fun a11 => (o9 a2 (Classical.byContradiction a4) a7 a8 (Classical.byContradiction a11)).elim))))))))) (fun a9 => (hT.1 [] 6 (D + 3) 170 _ _ (And.intro (fun a12 => (z_litF a12 rfl).elim) (fun _ => (o10 a2 (Classical.byContradiction a4) a7 (Classical.byContradiction a9)))))))))))))))))
theorem zb170_0b (hT : zRules T) {D : Nat} {κ : Option zA → zM → Prop} {m : zM} {h : Int} {i : Int} {p : Nat} {w : Int}  (hB : zB m) (h_h : 0 ≤ h ∧ h ≤ 99) (h_i : 0 ≤ i ∧ i ≤ 5) (h_p : p ≤ 3) (h_w : 0 ≤ w ∧ w ≤ 500000) 
    (k1 : ¬ (p : Int) < (m 4 4) → κ (some (zi 0)) m)
    (k2 : (p : Int) < (m 4 4) → ¬ (m 6 p) < 1 → (0 ≤ wr (((p : Int) * 26) + (Int.tmod w (m 6 p))) ∧ wr (((p : Int) * 26) + (Int.tmod w (m 6 p))) < 104))
    (k3 : (p : Int) < (m 4 4) → ¬ (m 6 p) < 1 → T (D + 2) 58 (0, [(0, zr 9), (1, zi h), (2, zi (m 5 ((wr (((p : Int) * 26) + (Int.tmod w (m 6 p)))).toNat))), (3, zi w), (4, zi (p : Int)), (5, zi i)], [], m) (fun r m1 => T (D + 3) 170 (34, [(0, zr 1), (1, zi h), (2, zi i), (3, zi (p : Int)), (4, zi w), (5, zi (m 5 ((wr (((p : Int) * 26) + (Int.tmod w (m 6 p)))).toNat)))], r.toList ++ [], m1) κ))
    (k4 : (p : Int) < (m 4 4) → (m 6 p) < 1 → κ (some (zi 0)) m) :
    T (D + 3) 170 (0, [(0, zr 1), (1, zi h), (2, zi i), (3, zi (p : Int)), (4, zi w)], [], m) κ := by
  have hb4 : 0 ≤ (m 4 4) ∧ (m 4 4) ≤ 4 := hB 4 4
  have hb5 : 0 ≤ (m 6 p) ∧ (m 6 p) ≤ 26 := hB 6 p
  have hb6 : (-2147483648) ≤ wr (((p : Int) * 26) + (Int.tmod w (m 6 p))) ∧ wr (((p : Int) * 26) + (Int.tmod w (m 6 p))) ≤ 2147483647 := wrB (((p : Int) * 26) + (Int.tmod w (m 6 p)))
  have hb7 : 0 ≤ (m 5 ((wr (((p : Int) * 26) + (Int.tmod w (m 6 p)))).toNat)) ∧ (m 5 ((wr (((p : Int) * 26) + (Int.tmod w (m 6 p)))).toNat)) ≤ 9 := hB 5 ((wr (((p : Int) * 26) + (Int.tmod w (m 6 p)))).toNat)
  have he0 : wr (p : Int) = (p : Int) := wr_id (by omega) (by omega)
  have he1 : wr (m 4 4) = (m 4 4) := wr_id (by omega) (by omega)
  have he2 : wr w = w := wr_id (by omega) (by omega)
  have he3 : (p : Int).toNat = p := by omega
  have he4 : wr (m 6 p) = (m 6 p) := wr_id (by omega) (by omega)
  have he5 : wr (m 5 ((wr (((p : Int) * 26) + (Int.tmod w (m 6 p)))).toNat)) = (m 5 ((wr (((p : Int) * 26) + (Int.tmod w (m 6 p)))).toNat)) := wr_id (by omega) (by omega)
  have key := @zb170_0br T hT D κ m h i p w
  simp only [he0, he1, he2, he3, he4, he5, Int.toNat_natCast] at key
  exact key
    (fun x0 => by omega)
    (fun x0 x1 => k1 x1)
    (fun x0 x1 x2 => by omega)
    (fun x0 x1 x2 => by refine ⟨?_, ?_⟩ <;> omega)
    (fun x0 x1 x2 x3 => by refine ⟨?_, ?_⟩ <;> omega)
    (fun x0 x1 x2 x3 => by omega)
    (fun x0 x1 x2 x3 => k2 x1 x3)
    (fun x0 x1 x2 x3 x4 => k3 x1 x3)
    (fun x0 x1 x2 x3 x4 => by omega)
    (fun x0 x1 x2 x3 => k4 x1 x3)
theorem zb170_34r (hT : zRules T) {D : Nat} {κ : Option zA → zM → Prop} {m : zM} {v : Int} {lo : zL} (hlo : z_keep [] lo = []) 
    (o1 : wr v < 99 → 0 < wr (wr v) → κ (some (zi (wr (wr (wr (wr v)))))) m)
    (o2 : wr v < 99 → ¬ 0 < wr (wr v) → κ (some (zi 0)) m)
    (o3 : ¬ wr v < 99 → κ (some (zi 99)) m) :
    T (D + 3) 170 (34, lo, [zi v], m) κ :=
  zkeep hT hlo (hT.1 [] 6 (D + 3) 170 _ κ (hT.1 [] 6 (D + 2) 166 _ _ (hT.1 [] 6 (D + 1) 294 _ _ (And.intro (fun a1 => (hT.1 [] 6 (D + 2) 166 _ _ (hT.1 [] 6 (D + 1) 295 _ _ (And.intro (fun a3 => (hT.1 [] 6 (D + 2) 166 _ _ (hT.1 [] 6 (D + 3) 170 _ _ (o1 a1 a3)))) (fun a4 => (hT.1 [] 6 (D + 2) 166 _ _ (hT.1 [] 6 (D + 3) 170 _ _ (o2 a1 a4)))))))) (fun a2 => (hT.1 [] 6 (D + 2) 166 _ _ (hT.1 [] 6 (D + 1) 295 _ _ (And.intro (fun _ => (hT.1 [] 6 (D + 2) 166 _ _ (hT.1 [] 6 (D + 3) 170 _ _ (o3 a2)))) (fun a5 => (a5 (z_litT rfl)).elim)))))))))
theorem zb170_34 (hT : zRules T) {D : Nat} {κ : Option zA → zM → Prop} {m : zM} {v : Int} {lo : zL} (hlo : z_keep [] lo = [])  (hB : zB m) 
    (k1 : wr v < 99 → 0 < wr v → κ (some (zi (wr v))) m)
    (k2 : wr v < 99 → ¬ 0 < wr v → κ (some (zi 0)) m)
    (k3 : ¬ wr v < 99 → κ (some (zi 99)) m) :
    T (D + 3) 170 (34, lo, [zi v], m) κ := by
  have hb0 : (-2147483648) ≤ wr v ∧ wr v ≤ 2147483647 := wrB v
  have he0 : wr (wr v) = wr v := wr_id (by omega) (by omega)
  have key := @zb170_34r T hT D κ m v lo hlo
  simp only [he0, Int.toNat_natCast] at key
  exact key
    k1
    k2
    k3
theorem zb213_0r (hT : zRules T) {D : Nat} {κ : Option zA → zM → Prop} {m : zM} {p : Nat} {w : Int} 
    (o1 : (0 ≤ wr (p : Int) ∧ wr (p : Int) < 4))
    (o2 : ¬ wr (m 77 ((wr (p : Int)).toNat)) = 0)
    (o3 : (0 ≤ wr ((26 * (p : Int)) + (Int.tmod (wr w) (wr (m 77 ((wr (p : Int)).toNat))))) ∧ wr ((26 * (p : Int)) + (Int.tmod (wr w) (wr (m 77 ((wr (p : Int)).toNat))))) < 104))
    (o4 : κ (some (zi (wr (m 76 ((wr ((26 * (p : Int)) + (Int.tmod (wr w) (wr (m 77 ((wr (p : Int)).toNat)))))).toNat))))) m) :
    T (D + 1) 213 (0, [(0, zr 74), (1, zi (p : Int)), (2, zi w)], [], m) κ :=
  hT.1 [] 6 (D + 1) 213 _ κ (hT.1 [] 6 (D + 1) 213 (9, [(0, zr 74), (1, zi (p : Int)), (2, zi w)], [zi w, zi (26 * (p : Int)), zr 76], m) _ (And.intro (o1) (And.intro (o2) (hT.1 [] 6 (D + 1) 213 (17, [(0, zr 74), (1, zi (p : Int)), (2, zi w)], [zi ((26 * (p : Int)) + (Int.tmod (wr w) (wr (m 77 ((wr (p : Int)).toNat))))), zr 76], m) _ (And.intro (o3) (o4))))))
theorem zb213_0 (hT : zRules T) {D : Nat} {κ : Option zA → zM → Prop} {m : zM} {p : Nat} {w : Int}  (hB : zB m) (h_p : p ≤ 3) (h_w : 0 ≤ w ∧ w ≤ 500000) (hf0 : 1 ≤ m 77 p ∧ m 77 p ≤ 26) 
    (k1 : κ (some (zi (m 76 (((26 * (p : Int)) + (Int.tmod w (m 77 p))).toNat)))) m) :
    T (D + 1) 213 (0, [(0, zr 74), (1, zi (p : Int)), (2, zi w)], [], m) κ := by
  have hb3 : 0 ≤ (Int.tmod w (m 77 p)) ∧ (Int.tmod w (m 77 p)) ≤ 25 := z_tmodB w (m 77 p) 25 (by omega) (by omega) (by omega)
  have hb4 : 0 ≤ (m 76 (((26 * (p : Int)) + (Int.tmod w (m 77 p))).toNat)) ∧ (m 76 (((26 * (p : Int)) + (Int.tmod w (m 77 p))).toNat)) ≤ 9 := hB 76 (((26 * (p : Int)) + (Int.tmod w (m 77 p))).toNat)
  have he0 : wr (p : Int) = (p : Int) := wr_id (by omega) (by omega)
  have he1 : (p : Int).toNat = p := by omega
  have he2 : wr w = w := wr_id (by omega) (by omega)
  have he3 : wr (m 77 p) = (m 77 p) := wr_id (by omega) (by omega)
  have he4 : wr ((26 * (p : Int)) + (Int.tmod w (m 77 p))) = ((26 * (p : Int)) + (Int.tmod w (m 77 p))) := wr_id (by omega) (by omega)
  have he5 : wr (m 76 (((26 * (p : Int)) + (Int.tmod w (m 77 p))).toNat)) = (m 76 (((26 * (p : Int)) + (Int.tmod w (m 77 p))).toNat)) := wr_id (by omega) (by omega)
  have key := @zb213_0r T hT D κ m p w
  simp only [he0, he1, he2, he3, he4, he5, Int.toNat_natCast] at key
  exact key
    (by refine ⟨?_, ?_⟩ <;> omega)
    (by omega)
    (by refine ⟨?_, ?_⟩ <;> omega)
    k1
theorem zb214_0ar (hT : zRules T) {D : Nat} {κ : Option zA → zM → Prop} {m : zM} {i : Int} {h : Int} {p : Nat} {w : Int} 
    (o1 : wr (p : Int) < wr (m 74 1) → ¬ wr (m 74 25) = 0 → T (D + 1) 208 (0, [(0, zr 74), (1, zi 0)], [], (zu (zu (zu (zu (zu (zu (zu (zu (zu (zu m 74 13 86) 74 14 (m 74 25)) 74 15 40) 74 16 0) 74 17 (-1)) 74 26 1) 74 27 i) 74 28 h) 74 29 (p : Int)) 74 30 w)) (fun r m1 => T (D + 2) 214 (79, [(0, zr 74), (1, zi i), (2, zi h), (3, zi (p : Int)), (4, zi w)], r.toList ++ [], m1) κ))
    (o2 : wr (p : Int) < wr (m 74 1) → wr (m 74 25) = 0 → (0 ≤ wr (p : Int) ∧ wr (p : Int) < 4))
    (o3 : wr (p : Int) < wr (m 74 1) → wr (m 74 25) = 0 → ¬ wr (m 77 ((wr (p : Int)).toNat)) = 0)
    (o4 : wr (p : Int) < wr (m 74 1) → wr (m 74 25) = 0 → (0 ≤ wr ((26 * (p : Int)) + (Int.tmod (wr w) (wr (m 77 ((wr (p : Int)).toNat))))) ∧ wr ((26 * (p : Int)) + (Int.tmod (wr w) (wr (m 77 ((wr (p : Int)).toNat))))) < 104))
    (o5 : wr (p : Int) < wr (m 74 1) → wr (m 74 25) = 0 → wr (Int.tdiv (wr (h * wr (m 76 ((wr ((26 * (p : Int)) + (Int.tmod (wr w) (wr (m 77 ((wr (p : Int)).toNat)))))).toNat)))) 10) < 99 → 0 < wr (wr (Int.tdiv (wr (h * wr (m 76 ((wr ((26 * (p : Int)) + (Int.tmod (wr w) (wr (m 77 ((wr (p : Int)).toNat)))))).toNat)))) 10)) → κ (some (zi (wr (wr (wr (Int.tdiv (wr (h * wr (m 76 ((wr ((26 * (p : Int)) + (Int.tmod (wr w) (wr (m 77 ((wr (p : Int)).toNat)))))).toNat)))) 10)))))) m)
    (o6 : wr (p : Int) < wr (m 74 1) → wr (m 74 25) = 0 → wr (Int.tdiv (wr (h * wr (m 76 ((wr ((26 * (p : Int)) + (Int.tmod (wr w) (wr (m 77 ((wr (p : Int)).toNat)))))).toNat)))) 10) < 99 → ¬ 0 < wr (wr (Int.tdiv (wr (h * wr (m 76 ((wr ((26 * (p : Int)) + (Int.tmod (wr w) (wr (m 77 ((wr (p : Int)).toNat)))))).toNat)))) 10)) → κ (some (zi 0)) m)
    (o7 : wr (p : Int) < wr (m 74 1) → wr (m 74 25) = 0 → ¬ wr (Int.tdiv (wr (h * wr (m 76 ((wr ((26 * (p : Int)) + (Int.tmod (wr w) (wr (m 77 ((wr (p : Int)).toNat)))))).toNat)))) 10) < 99 → κ (some (zi 99)) m)
    (o8 : ¬ wr (p : Int) < wr (m 74 1) → κ (some (zi 0)) m) :
    T (D + 2) 214 (0, [(0, zr 74), (1, zi i), (2, zi h), (3, zi (p : Int)), (4, zi w)], [], m) κ :=
  hT.1 [] 6 (D + 2) 214 _ κ (And.intro (fun a1 => (hT.1 [] 6 (D + 2) 214 (14, [(0, zr 74), (1, zi i), (2, zi h), (3, zi (p : Int)), (4, zi w)], [zi (m 74 25)], m) _ (And.intro (fun a3 => (hT.1 [] 6 (D + 2) 214 (43, [(0, zr 74), (1, zi i), (2, zi h), (3, zi (p : Int)), (4, zi w)], [zi (m 74 25), zr 86, zr 74], m) _ (hT.1 [] 6 (D + 1) 197 _ _ (And.intro trivial (hT.1 [] 6 (D + 1) 197 (10, [(0, zr 74), (1, zr 86), (2, zi (m 74 25)), (3, zi 40)], [], (zu (zu m 74 13 86) 74 14 (m 74 25))) _ (And.intro trivial (And.intro trivial (hT.1 [] 6 (D + 1) 197 (20, [(0, zr 74), (1, zr 86), (2, zi (m 74 25)), (3, zi 40)], [], (zu (zu (zu (zu m 74 13 86) 74 14 (m 74 25)) 74 15 40) 74 16 0)) _ (And.intro trivial (hT.1 [] 6 (D + 2) 214 _ _ (And.intro (z_b01L rfl) (And.intro trivial (hT.1 [] 6 (D + 2) 214 (58, [(0, zr 74), (1, zi i), (2, zi h), (3, zi (p : Int)), (4, zi w)], [], (zu (zu (zu (zu (zu (zu (zu m 74 13 86) 74 14 (m 74 25)) 74 15 40) 74 16 0) 74 17 (-1)) 74 26 1) 74 27 i)) _ (And.intro trivial (And.intro trivial (hT.1 [] 6 (D + 2) 214 (68, [(0, zr 74), (1, zi i), (2, zi h), (3, zi (p : Int)), (4, zi w)], [], (zu (zu (zu (zu (zu (zu (zu (zu (zu m 74 13 86) 74 14 (m 74 25)) 74 15 40) 74 16 0) 74 17 (-1)) 74 26 1) 74 27 i) 74 28 h) 74 29 (p : Int))) _ (And.intro trivial (o1 a1 a3)))))))))))))))))) (fun a4 => (hT.1 [] 6 (D + 1) 213 _ _ (hT.1 [] 6 (D + 1) 213 (9, [(0, zr 74), (1, zi (p : Int)), (2, zi w)], [zi w, zi (26 * (p : Int)), zr 76], m) _ (And.intro (o2 a1 (Classical.byContradiction a4)) (And.intro (o3 a1 (Classical.byContradiction a4)) (hT.1 [] 6 (D + 1) 213 (17, [(0, zr 74), (1, zi (p : Int)), (2, zi w)], [zi ((26 * (p : Int)) + (Int.tmod (wr w) (wr (m 77 ((wr (p : Int)).toNat))))), zr 76], m) _ (And.intro (o4 a1 (Classical.byContradiction a4)) (hT.1 [] 6 (D + 2) 214 _ _ (And.intro (z_neL rfl) (hT.1 [] 6 (D + 2) 214 (87, [(0, zr 74), (1, zi i), (2, zi h), (3, zi (p : Int)), (4, zi w), (5, zi (Int.tdiv (wr (h * wr (m 76 ((wr ((26 * (p : Int)) + (Int.tmod (wr w) (wr (m 77 ((wr (p : Int)).toNat)))))).toNat)))) 10))], [zi 0], m) _ (hT.1 [] 6 (D + 1) 294 _ _ (And.intro (fun a5 => (hT.1 [] 6 (D + 2) 214 _ _ (hT.1 [] 6 (D + 1) 295 _ _ (And.intro (fun a7 => (hT.1 [] 6 (D + 2) 214 _ _ (o5 a1 (Classical.byContradiction a4) a5 a7))) (fun a8 => (hT.1 [] 6 (D + 2) 214 _ _ (o6 a1 (Classical.byContradiction a4) a5 a8))))))) (fun a6 => (hT.1 [] 6 (D + 2) 214 _ _ (hT.1 [] 6 (D + 1) 295 _ _ (And.intro (fun _ => (hT.1 [] 6 (D + 2) 214 _ _ (o7 a1 (Classical.byContradiction a4) a6))) (fun a9 => (a9 (z_litT rfl)).elim)))))))))))))))))))) (fun a2 => (o8 a2)))
theorem zb214_0a (hT : zRules T) {D : Nat} {κ : Option zA → zM → Prop} {m : zM} {i : Int} {h : Int} {p : Nat} {w : Int}  (hB : zB m) (h_i : 0 ≤ i ∧ i ≤ 5) (h_h : 0 ≤ h ∧ h ≤ 99) (h_p : p ≤ 3) (h_w : 0 ≤ w ∧ w ≤ 500000) (hf0 : 1 ≤ m 77 p ∧ m 77 p ≤ 26) 
    (k1 : (p : Int) < (m 74 1) → ¬ (m 74 25) = 0 → zB (zu (zu (zu (zu (zu (zu (zu (zu (zu (zu m 74 13 86) 74 14 (m 74 25)) 74 15 40) 74 16 0) 74 17 (-1)) 74 26 1) 74 27 i) 74 28 h) 74 29 (p : Int)) 74 30 w) → T (D + 1) 208 (0, [(0, zr 74), (1, zi 0)], [], (zu (zu (zu (zu (zu (zu (zu (zu (zu (zu m 74 13 86) 74 14 (m 74 25)) 74 15 40) 74 16 0) 74 17 (-1)) 74 26 1) 74 27 i) 74 28 h) 74 29 (p : Int)) 74 30 w)) (fun r m1 => T (D + 2) 214 (79, [(0, zr 74), (1, zi i), (2, zi h), (3, zi (p : Int)), (4, zi w)], r.toList ++ [], m1) κ))
    (k2 : (p : Int) < (m 74 1) → (m 74 25) = 0 → (Int.tdiv (h * (m 76 (((26 * (p : Int)) + (Int.tmod w (m 77 p))).toNat))) 10) < 99 → 0 < (Int.tdiv (h * (m 76 (((26 * (p : Int)) + (Int.tmod w (m 77 p))).toNat))) 10) → κ (some (zi (Int.tdiv (h * (m 76 (((26 * (p : Int)) + (Int.tmod w (m 77 p))).toNat))) 10))) m)
    (k3 : (p : Int) < (m 74 1) → (m 74 25) = 0 → (Int.tdiv (h * (m 76 (((26 * (p : Int)) + (Int.tmod w (m 77 p))).toNat))) 10) < 99 → ¬ 0 < (Int.tdiv (h * (m 76 (((26 * (p : Int)) + (Int.tmod w (m 77 p))).toNat))) 10) → κ (some (zi 0)) m)
    (k4 : (p : Int) < (m 74 1) → (m 74 25) = 0 → ¬ (Int.tdiv (h * (m 76 (((26 * (p : Int)) + (Int.tmod w (m 77 p))).toNat))) 10) < 99 → κ (some (zi 99)) m)
    (k5 : ¬ (p : Int) < (m 74 1) → κ (some (zi 0)) m) :
    T (D + 2) 214 (0, [(0, zr 74), (1, zi i), (2, zi h), (3, zi (p : Int)), (4, zi w)], [], m) κ := by
  have hb5 : 0 ≤ (m 74 1) ∧ (m 74 1) ≤ 4 := hB 74 1
  have hb6 : 0 ≤ (m 74 25) ∧ (m 74 25) ≤ 40 := hB 74 25
  have hb7 : 0 ≤ (Int.tmod w (m 77 p)) ∧ (Int.tmod w (m 77 p)) ≤ 25 := z_tmodB w (m 77 p) 25 (by omega) (by omega) (by omega)
  have hb8 : 0 ≤ (m 76 (((26 * (p : Int)) + (Int.tmod w (m 77 p))).toNat)) ∧ (m 76 (((26 * (p : Int)) + (Int.tmod w (m 77 p))).toNat)) ≤ 9 := hB 76 (((26 * (p : Int)) + (Int.tmod w (m 77 p))).toNat)
  have hb9 : 0 ≤ (h * (m 76 (((26 * (p : Int)) + (Int.tmod w (m 77 p))).toNat))) ∧ (h * (m 76 (((26 * (p : Int)) + (Int.tmod w (m 77 p))).toNat))) ≤ 891 := z_mulB h (m 76 (((26 * (p : Int)) + (Int.tmod w (m 77 p))).toNat)) 99 9 891 (by omega) (by omega) (by omega) (by omega) rfl
  have hb10 : 0 ≤ (Int.tdiv (h * (m 76 (((26 * (p : Int)) + (Int.tmod w (m 77 p))).toNat))) 10) ∧ (Int.tdiv (h * (m 76 (((26 * (p : Int)) + (Int.tmod w (m 77 p))).toNat))) 10) ≤ 891 := z_tdivB (h * (m 76 (((26 * (p : Int)) + (Int.tmod w (m 77 p))).toNat))) 10 891 (by omega) (by omega) (by omega)
  have he0 : wr (p : Int) = (p : Int) := wr_id (by omega) (by omega)
  have he1 : wr (m 74 1) = (m 74 1) := wr_id (by omega) (by omega)
  have he2 : wr (m 74 25) = (m 74 25) := wr_id (by omega) (by omega)
  have he3 : (p : Int).toNat = p := by omega
  have he4 : wr w = w := wr_id (by omega) (by omega)
  have he5 : wr (m 77 p) = (m 77 p) := wr_id (by omega) (by omega)
  have he6 : wr ((26 * (p : Int)) + (Int.tmod w (m 77 p))) = ((26 * (p : Int)) + (Int.tmod w (m 77 p))) := wr_id (by omega) (by omega)
  have he7 : wr (m 76 (((26 * (p : Int)) + (Int.tmod w (m 77 p))).toNat)) = (m 76 (((26 * (p : Int)) + (Int.tmod w (m 77 p))).toNat)) := wr_id (by omega) (by omega)
  have he8 : wr (h * (m 76 (((26 * (p : Int)) + (Int.tmod w (m 77 p))).toNat))) = (h * (m 76 (((26 * (p : Int)) + (Int.tmod w (m 77 p))).toNat))) := wr_id (by omega) (by omega)
  have he9 : wr (Int.tdiv (h * (m 76 (((26 * (p : Int)) + (Int.tmod w (m 77 p))).toNat))) 10) = (Int.tdiv (h * (m 76 (((26 * (p : Int)) + (Int.tmod w (m 77 p))).toNat))) 10) := wr_id (by omega) (by omega)
  have key := @zb214_0ar T hT D κ m i h p w
  simp only [he0, he1, he2, he3, he4, he5, he6, he7, he8, he9, Int.toNat_natCast] at key
  exact key
    (fun x0 x1 => k1 x0 x1 (zB_u (zB_u (zB_u (zB_u (zB_u (zB_u (zB_u (zB_u (zB_u (zB_u hB trivial) (show 0 ≤ (m 74 25) ∧ (m 74 25) ≤ 80 from ⟨by omega, by omega⟩)) (show 0 ≤ 40 ∧ 40 ≤ 80 from ⟨by omega, by omega⟩)) (show 0 ≤ 0 ∧ 0 ≤ 100 from ⟨by omega, by omega⟩)) trivial) (show 0 ≤ 1 ∧ 1 ≤ 1 from ⟨by omega, by omega⟩)) trivial) trivial) trivial) trivial))
    (fun x0 x1 => by refine ⟨?_, ?_⟩ <;> omega)
    (fun x0 x1 => by omega)
    (fun x0 x1 => by refine ⟨?_, ?_⟩ <;> omega)
    k2
    k3
    k4
    k5
theorem zb214_0br (hT : zRules T) {D : Nat} {κ : Option zA → zM → Prop} {m : zM} {i : Int} {h : Int} {p : Nat} {w : Int} 
    (o1 : wr (p : Int) < wr (m 74 1) → ¬ wr (m 74 25) = 0 → T (D + 1) 208 (0, [(0, zr 74), (1, zi 0)], [], (zu (zu (zu (zu (zu (zu (zu (zu (zu (zu m 74 13 86) 74 14 (m 74 25)) 74 15 40) 74 16 0) 74 17 (-1)) 74 26 1) 74 27 i) 74 28 h) 74 29 (p : Int)) 74 30 w)) (fun r m1 => T (D + 2) 214 (79, [(0, zr 74), (1, zi i), (2, zi h), (3, zi (p : Int)), (4, zi w)], r.toList ++ [], m1) κ))
    (o2 : wr (p : Int) < wr (m 74 1) → wr (m 74 25) = 0 → (0 ≤ wr (p : Int) ∧ wr (p : Int) < 4))
    (o3 : wr (p : Int) < wr (m 74 1) → wr (m 74 25) = 0 → ¬ wr (m 77 ((wr (p : Int)).toNat)) = 0)
    (o4 : wr (p : Int) < wr (m 74 1) → wr (m 74 25) = 0 → (0 ≤ wr ((26 * (p : Int)) + (Int.tmod (wr w) (wr (m 77 ((wr (p : Int)).toNat))))) ∧ wr ((26 * (p : Int)) + (Int.tmod (wr w) (wr (m 77 ((wr (p : Int)).toNat))))) < 104))
    (o5 : wr (p : Int) < wr (m 74 1) → wr (m 74 25) = 0 → wr (Int.tdiv (wr (h * wr (m 76 ((wr ((26 * (p : Int)) + (Int.tmod (wr w) (wr (m 77 ((wr (p : Int)).toNat)))))).toNat)))) 10) < 99 → 0 < wr (wr (Int.tdiv (wr (h * wr (m 76 ((wr ((26 * (p : Int)) + (Int.tmod (wr w) (wr (m 77 ((wr (p : Int)).toNat)))))).toNat)))) 10)) → κ (some (zi (wr (wr (wr (Int.tdiv (wr (h * wr (m 76 ((wr ((26 * (p : Int)) + (Int.tmod (wr w) (wr (m 77 ((wr (p : Int)).toNat)))))).toNat)))) 10)))))) m)
    (o6 : wr (p : Int) < wr (m 74 1) → wr (m 74 25) = 0 → wr (Int.tdiv (wr (h * wr (m 76 ((wr ((26 * (p : Int)) + (Int.tmod (wr w) (wr (m 77 ((wr (p : Int)).toNat)))))).toNat)))) 10) < 99 → ¬ 0 < wr (wr (Int.tdiv (wr (h * wr (m 76 ((wr ((26 * (p : Int)) + (Int.tmod (wr w) (wr (m 77 ((wr (p : Int)).toNat)))))).toNat)))) 10)) → κ (some (zi 0)) m)
    (o7 : wr (p : Int) < wr (m 74 1) → wr (m 74 25) = 0 → ¬ wr (Int.tdiv (wr (h * wr (m 76 ((wr ((26 * (p : Int)) + (Int.tmod (wr w) (wr (m 77 ((wr (p : Int)).toNat)))))).toNat)))) 10) < 99 → κ (some (zi 99)) m)
    (o8 : ¬ wr (p : Int) < wr (m 74 1) → κ (some (zi 0)) m) :
    T (D + 2) 214 (0, [(0, zr 74), (1, zi i), (2, zi h), (3, zi (p : Int)), (4, zi w)], [], m) κ :=
  hT.1 [] 6 (D + 2) 214 _ κ (And.intro (fun a1 => (hT.1 [] 6 (D + 2) 214 (14, [(0, zr 74), (1, zi i), (2, zi h), (3, zi (p : Int)), (4, zi w)], [zi (m 74 25)], m) _ (And.intro (fun a3 => (hT.1 [] 6 (D + 2) 214 (43, [(0, zr 74), (1, zi i), (2, zi h), (3, zi (p : Int)), (4, zi w)], [zi (m 74 25), zr 86, zr 74], m) _ (hT.1 [] 6 (D + 1) 197 _ _ (And.intro trivial (hT.1 [] 6 (D + 1) 197 (10, [(0, zr 74), (1, zr 86), (2, zi (m 74 25)), (3, zi 40)], [], (zu (zu m 74 13 86) 74 14 (m 74 25))) _ (And.intro trivial (And.intro trivial (hT.1 [] 6 (D + 1) 197 (20, [(0, zr 74), (1, zr 86), (2, zi (m 74 25)), (3, zi 40)], [], (zu (zu (zu (zu m 74 13 86) 74 14 (m 74 25)) 74 15 40) 74 16 0)) _ (And.intro trivial (hT.1 [] 6 (D + 2) 214 _ _ (And.intro (z_b01L rfl) (And.intro trivial (hT.1 [] 6 (D + 2) 214 (58, [(0, zr 74), (1, zi i), (2, zi h), (3, zi (p : Int)), (4, zi w)], [], (zu (zu (zu (zu (zu (zu (zu m 74 13 86) 74 14 (m 74 25)) 74 15 40) 74 16 0) 74 17 (-1)) 74 26 1) 74 27 i)) _ (And.intro trivial (And.intro trivial (hT.1 [] 6 (D + 2) 214 (68, [(0, zr 74), (1, zi i), (2, zi h), (3, zi (p : Int)), (4, zi w)], [], (zu (zu (zu (zu (zu (zu (zu (zu (zu m 74 13 86) 74 14 (m 74 25)) 74 15 40) 74 16 0) 74 17 (-1)) 74 26 1) 74 27 i) 74 28 h) 74 29 (p : Int))) _ (And.intro trivial (o1 a1 a3)))))))))))))))))) (fun a4 => (hT.1 [] 6 (D + 1) 213 _ _ (hT.1 [] 6 (D + 1) 213 (9, [(0, zr 74), (1, zi (p : Int)), (2, zi w)], [zi w, zi (26 * (p : Int)), zr 76], m) _ (And.intro (o2 a1 (Classical.byContradiction a4)) (And.intro (o3 a1 (Classical.byContradiction a4)) (hT.1 [] 6 (D + 1) 213 (17, [(0, zr 74), (1, zi (p : Int)), (2, zi w)], [zi ((26 * (p : Int)) + (Int.tmod (wr w) (wr (m 77 ((wr (p : Int)).toNat))))), zr 76], m) _ (And.intro (o4 a1 (Classical.byContradiction a4)) (hT.1 [] 6 (D + 2) 214 _ _ (And.intro (z_neL rfl) (hT.1 [] 6 (D + 2) 214 (87, [(0, zr 74), (1, zi i), (2, zi h), (3, zi (p : Int)), (4, zi w), (5, zi (Int.tdiv (wr (h * wr (m 76 ((wr ((26 * (p : Int)) + (Int.tmod (wr w) (wr (m 77 ((wr (p : Int)).toNat)))))).toNat)))) 10))], [zi 0], m) _ (hT.1 [] 6 (D + 1) 294 _ _ (And.intro (fun a5 => (hT.1 [] 6 (D + 2) 214 _ _ (hT.1 [] 6 (D + 1) 295 _ _ (And.intro (fun a7 => (hT.1 [] 6 (D + 2) 214 _ _ (o5 a1 (Classical.byContradiction a4) a5 a7))) (fun a8 => (hT.1 [] 6 (D + 2) 214 _ _ (o6 a1 (Classical.byContradiction a4) a5 a8))))))) (fun a6 => (hT.1 [] 6 (D + 2) 214 _ _ (hT.1 [] 6 (D + 1) 295 _ _ (And.intro (fun _ => (hT.1 [] 6 (D + 2) 214 _ _ (o7 a1 (Classical.byContradiction a4) a6))) (fun a9 => (a9 (z_litT rfl)).elim)))))))))))))))))))) (fun a2 => (o8 a2)))
theorem zb214_0b (hT : zRules T) {D : Nat} {κ : Option zA → zM → Prop} {m : zM} {i : Int} {h : Int} {p : Nat} {w : Int}  (hB : zB m) (h_i : 0 ≤ i ∧ i ≤ 5) (h_h : 0 ≤ h ∧ h ≤ 99) (h_p : p ≤ 3) (h_w : 0 ≤ w ∧ w ≤ 500000) 
    (k1 : (p : Int) < (m 74 1) → ¬ (m 74 25) = 0 → zB (zu (zu (zu (zu (zu (zu (zu (zu (zu (zu m 74 13 86) 74 14 (m 74 25)) 74 15 40) 74 16 0) 74 17 (-1)) 74 26 1) 74 27 i) 74 28 h) 74 29 (p : Int)) 74 30 w) → T (D + 1) 208 (0, [(0, zr 74), (1, zi 0)], [], (zu (zu (zu (zu (zu (zu (zu (zu (zu (zu m 74 13 86) 74 14 (m 74 25)) 74 15 40) 74 16 0) 74 17 (-1)) 74 26 1) 74 27 i) 74 28 h) 74 29 (p : Int)) 74 30 w)) (fun r m1 => T (D + 2) 214 (79, [(0, zr 74), (1, zi i), (2, zi h), (3, zi (p : Int)), (4, zi w)], r.toList ++ [], m1) κ))
    (k2 : (p : Int) < (m 74 1) → (m 74 25) = 0 → ¬ (m 77 p) = 0)
    (k3 : (p : Int) < (m 74 1) → (m 74 25) = 0 → (0 ≤ wr ((26 * (p : Int)) + (Int.tmod w (m 77 p))) ∧ wr ((26 * (p : Int)) + (Int.tmod w (m 77 p))) < 104))
    (k4 : (p : Int) < (m 74 1) → (m 74 25) = 0 → (Int.tdiv (h * (m 76 ((wr ((26 * (p : Int)) + (Int.tmod w (m 77 p)))).toNat))) 10) < 99 → 0 < (Int.tdiv (h * (m 76 ((wr ((26 * (p : Int)) + (Int.tmod w (m 77 p)))).toNat))) 10) → κ (some (zi (Int.tdiv (h * (m 76 ((wr ((26 * (p : Int)) + (Int.tmod w (m 77 p)))).toNat))) 10))) m)
    (k5 : (p : Int) < (m 74 1) → (m 74 25) = 0 → (Int.tdiv (h * (m 76 ((wr ((26 * (p : Int)) + (Int.tmod w (m 77 p)))).toNat))) 10) < 99 → ¬ 0 < (Int.tdiv (h * (m 76 ((wr ((26 * (p : Int)) + (Int.tmod w (m 77 p)))).toNat))) 10) → κ (some (zi 0)) m)
    (k6 : (p : Int) < (m 74 1) → (m 74 25) = 0 → ¬ (Int.tdiv (h * (m 76 ((wr ((26 * (p : Int)) + (Int.tmod w (m 77 p)))).toNat))) 10) < 99 → κ (some (zi 99)) m)
    (k7 : ¬ (p : Int) < (m 74 1) → κ (some (zi 0)) m) :
    T (D + 2) 214 (0, [(0, zr 74), (1, zi i), (2, zi h), (3, zi (p : Int)), (4, zi w)], [], m) κ := by
  have hb4 : 0 ≤ (m 74 1) ∧ (m 74 1) ≤ 4 := hB 74 1
  have hb5 : 0 ≤ (m 74 25) ∧ (m 74 25) ≤ 40 := hB 74 25
  have hb6 : 0 ≤ (m 77 p) ∧ (m 77 p) ≤ 26 := hB 77 p
  have hb7 : (-2147483648) ≤ wr ((26 * (p : Int)) + (Int.tmod w (m 77 p))) ∧ wr ((26 * (p : Int)) + (Int.tmod w (m 77 p))) ≤ 2147483647 := wrB ((26 * (p : Int)) + (Int.tmod w (m 77 p)))
  have hb8 : 0 ≤ (m 76 ((wr ((26 * (p : Int)) + (Int.tmod w (m 77 p)))).toNat)) ∧ (m 76 ((wr ((26 * (p : Int)) + (Int.tmod w (m 77 p)))).toNat)) ≤ 9 := hB 76 ((wr ((26 * (p : Int)) + (Int.tmod w (m 77 p)))).toNat)
  have hb9 : 0 ≤ (h * (m 76 ((wr ((26 * (p : Int)) + (Int.tmod w (m 77 p)))).toNat))) ∧ (h * (m 76 ((wr ((26 * (p : Int)) + (Int.tmod w (m 77 p)))).toNat))) ≤ 891 := z_mulB h (m 76 ((wr ((26 * (p : Int)) + (Int.tmod w (m 77 p)))).toNat)) 99 9 891 (by omega) (by omega) (by omega) (by omega) rfl
  have hb10 : 0 ≤ (Int.tdiv (h * (m 76 ((wr ((26 * (p : Int)) + (Int.tmod w (m 77 p)))).toNat))) 10) ∧ (Int.tdiv (h * (m 76 ((wr ((26 * (p : Int)) + (Int.tmod w (m 77 p)))).toNat))) 10) ≤ 891 := z_tdivB (h * (m 76 ((wr ((26 * (p : Int)) + (Int.tmod w (m 77 p)))).toNat))) 10 891 (by omega) (by omega) (by omega)
  have he0 : wr (p : Int) = (p : Int) := wr_id (by omega) (by omega)
  have he1 : wr (m 74 1) = (m 74 1) := wr_id (by omega) (by omega)
  have he2 : wr (m 74 25) = (m 74 25) := wr_id (by omega) (by omega)
  have he3 : (p : Int).toNat = p := by omega
  have he4 : wr w = w := wr_id (by omega) (by omega)
  have he5 : wr (m 77 p) = (m 77 p) := wr_id (by omega) (by omega)
  have he6 : wr (m 76 ((wr ((26 * (p : Int)) + (Int.tmod w (m 77 p)))).toNat)) = (m 76 ((wr ((26 * (p : Int)) + (Int.tmod w (m 77 p)))).toNat)) := wr_id (by omega) (by omega)
  have he7 : wr (h * (m 76 ((wr ((26 * (p : Int)) + (Int.tmod w (m 77 p)))).toNat))) = (h * (m 76 ((wr ((26 * (p : Int)) + (Int.tmod w (m 77 p)))).toNat))) := wr_id (by omega) (by omega)
  have he8 : wr (Int.tdiv (h * (m 76 ((wr ((26 * (p : Int)) + (Int.tmod w (m 77 p)))).toNat))) 10) = (Int.tdiv (h * (m 76 ((wr ((26 * (p : Int)) + (Int.tmod w (m 77 p)))).toNat))) 10) := wr_id (by omega) (by omega)
  have key := @zb214_0br T hT D κ m i h p w
  simp only [he0, he1, he2, he3, he4, he5, he6, he7, he8, Int.toNat_natCast] at key
  exact key
    (fun x0 x1 => k1 x0 x1 (zB_u (zB_u (zB_u (zB_u (zB_u (zB_u (zB_u (zB_u (zB_u (zB_u hB trivial) (show 0 ≤ (m 74 25) ∧ (m 74 25) ≤ 80 from ⟨by omega, by omega⟩)) (show 0 ≤ 40 ∧ 40 ≤ 80 from ⟨by omega, by omega⟩)) (show 0 ≤ 0 ∧ 0 ≤ 100 from ⟨by omega, by omega⟩)) trivial) (show 0 ≤ 1 ∧ 1 ≤ 1 from ⟨by omega, by omega⟩)) trivial) trivial) trivial) trivial))
    (fun x0 x1 => by refine ⟨?_, ?_⟩ <;> omega)
    k2
    k3
    k4
    k5
    k6
    k7
theorem zb214_79r (hT : zRules T) {D : Nat} {κ : Option zA → zM → Prop} {m : zM} {v : Int} {lo : zL} (hlo : z_keep [0] lo = [(0, zr 74)]) 
    (o1 : wr v < 99 → 0 < wr (wr v) → κ (some (zi (wr (wr (wr v))))) (zu m 74 26 0))
    (o2 : wr v < 99 → ¬ 0 < wr (wr v) → κ (some (zi 0)) (zu m 74 26 0))
    (o3 : ¬ wr v < 99 → κ (some (zi 99)) (zu m 74 26 0)) :
    T (D + 2) 214 (79, lo, [zi v], m) κ :=
  zkeep hT hlo (hT.1 [] 6 (D + 2) 214 _ κ (And.intro (z_b01L rfl) (hT.1 [] 6 (D + 2) 214 (89, [(0, zr 74), (5, zi v)], [zi 99, zi 0], (zu m 74 26 0)) _ (hT.1 [] 6 (D + 1) 294 _ _ (And.intro (fun a1 => (hT.1 [] 6 (D + 2) 214 _ _ (hT.1 [] 6 (D + 1) 295 _ _ (And.intro (fun a3 => (hT.1 [] 6 (D + 2) 214 _ _ (o1 a1 a3))) (fun a4 => (hT.1 [] 6 (D + 2) 214 _ _ (o2 a1 a4))))))) (fun a2 => (hT.1 [] 6 (D + 2) 214 _ _ (hT.1 [] 6 (D + 1) 295 _ _ (And.intro (fun _ => (hT.1 [] 6 (D + 2) 214 _ _ (o3 a2))) (fun a5 => (a5 (z_litT rfl)).elim))))))))))
theorem zb214_79 (hT : zRules T) {D : Nat} {κ : Option zA → zM → Prop} {m : zM} {v : Int} {lo : zL} (hlo : z_keep [0] lo = [(0, zr 74)])  (hB : zB m) 
    (k1 : wr v < 99 → 0 < wr v → zB (zu m 74 26 0) → κ (some (zi (wr v))) (zu m 74 26 0))
    (k2 : wr v < 99 → ¬ 0 < wr v → zB (zu m 74 26 0) → κ (some (zi 0)) (zu m 74 26 0))
    (k3 : ¬ wr v < 99 → zB (zu m 74 26 0) → κ (some (zi 99)) (zu m 74 26 0)) :
    T (D + 2) 214 (79, lo, [zi v], m) κ := by
  have hb0 : (-2147483648) ≤ wr v ∧ wr v ≤ 2147483647 := wrB v
  have he0 : wr (wr v) = wr v := wr_id (by omega) (by omega)
  have key := @zb214_79r T hT D κ m v lo hlo
  simp only [he0, Int.toNat_natCast] at key
  exact key
    (fun x0 x1 => k1 x0 x1 (zB_u hB (show 0 ≤ 0 ∧ 0 ≤ 1 from ⟨by omega, by omega⟩)))
    (fun x0 x1 => k2 x0 x1 (zB_u hB (show 0 ≤ 0 ∧ 0 ≤ 1 from ⟨by omega, by omega⟩)))
    (fun x0 => k3 x0 (zB_u hB (show 0 ≤ 0 ∧ 0 ≤ 1 from ⟨by omega, by omega⟩)))
theorem zb198_0_80r (hT : zRules T) {D : Nat} {κ : Option zA → zM → Prop} {m : zM} 
    (o1 : ¬ wr (m 74 16) < wr (m 74 14) → κ (some (zi (-1))) m)
    (o2 : wr (m 74 16) < wr (m 74 14) → ¬ wr (m 74 16) < wr (m 74 15) → κ (some (zi (-1))) m)
    (o3 : wr (m 74 16) < wr (m 74 14) → wr (m 74 16) < wr (m 74 15) → (m 74 13) = 80)
    (o4 : wr (m 74 16) < wr (m 74 14) → wr (m 74 16) < wr (m 74 15) → (0 ≤ wr (m 74 16) ∧ wr (m 74 16) < 80))
    (o5 : wr (m 74 16) < wr (m 74 14) → wr (m 74 16) < wr (m 74 15) → κ (some (zi (wr (z_and (m 80 ((wr (m 74 16)).toNat)) 255)))) m) :
    T D 198 (0, [(0, zr 74)], [], m) κ :=
  hT.1 [] 6 D 198 _ κ (And.intro (fun a1 => (hT.1 [] 6 D 198 (39, [(0, zr 74)], [zi (-1)], m) _ (o1 a1))) (fun a2 => (hT.1 [] 6 D 198 (12, [(0, zr 74)], [zr 74], m) _ (And.intro (fun a3 => (o2 (Classical.byContradiction a2) a3)) (fun a4 => (And.intro (Or.inl (o3 (Classical.byContradiction a2) (Classical.byContradiction a4))) (And.intro (fun _ => (hT.1 [] 6 D 198 (26, [(0, zr 74)], [zr 80], m) _ (And.intro (o4 (Classical.byContradiction a2) (Classical.byContradiction a4)) (hT.1 [] 6 D 198 (39, [(0, zr 74)], [zi (z_and (m 80 ((wr (m 74 16)).toNat)) 255)], m) _ (o5 (Classical.byContradiction a2) (Classical.byContradiction a4)))))) (fun a5 => (z_n8086 (o3 (Classical.byContradiction a2) (Classical.byContradiction a4)) a5).elim))))))))
theorem zb198_0_80 (hT : zRules T) {D : Nat} {κ : Option zA → zM → Prop} {m : zM}  (hrd : m 74 13 = 80) (hf0 : 0 ≤ m 74 16 ∧ m 74 16 ≤ 1000) (hf1 : 0 ≤ m 74 14 ∧ m 74 14 ≤ 80) (hf2 : 0 ≤ m 74 15 ∧ m 74 15 ≤ 80) 
    (k1 : ¬ (m 74 16) < (m 74 14) → κ (some (zi (-1))) m)
    (k2 : (m 74 16) < (m 74 14) → ¬ (m 74 16) < (m 74 15) → κ (some (zi (-1))) m)
    (k3 : (m 74 16) < (m 74 14) → (m 74 16) < (m 74 15) → κ (some (zi (z_and (m 80 ((m 74 16).toNat)) 255))) m) :
    T D 198 (0, [(0, zr 74)], [], m) κ := by
  have hb3 : 0 ≤ (z_and (m 80 ((m 74 16).toNat)) 255) ∧ (z_and (m 80 ((m 74 16).toNat)) 255) ≤ 255 := z_andC (m 80 ((m 74 16).toNat)) 255 (by decide)
  have he0 : wr (m 74 16) = (m 74 16) := wr_id (by omega) (by omega)
  have he1 : wr (m 74 14) = (m 74 14) := wr_id (by omega) (by omega)
  have he2 : wr (m 74 15) = (m 74 15) := wr_id (by omega) (by omega)
  have he3 : wr (z_and (m 80 ((m 74 16).toNat)) 255) = (z_and (m 80 ((m 74 16).toNat)) 255) := wr_id (by omega) (by omega)
  have key := @zb198_0_80r T hT D κ m 
  simp only [he0, he1, he2, he3, Int.toNat_natCast] at key
  exact key
    k1
    k2
    (fun x0 x1 => hrd)
    (fun x0 x1 => by refine ⟨?_, ?_⟩ <;> omega)
    k3
theorem zb198_0_86r (hT : zRules T) {D : Nat} {κ : Option zA → zM → Prop} {m : zM} 
    (o1 : ¬ wr (m 74 16) < wr (m 74 14) → κ (some (zi (-1))) m)
    (o2 : wr (m 74 16) < wr (m 74 14) → ¬ wr (m 74 16) < wr (m 74 15) → κ (some (zi (-1))) m)
    (o3 : wr (m 74 16) < wr (m 74 14) → wr (m 74 16) < wr (m 74 15) → (m 74 13) = 86)
    (o4 : wr (m 74 16) < wr (m 74 14) → wr (m 74 16) < wr (m 74 15) → (0 ≤ wr (m 74 16) ∧ wr (m 74 16) < 40))
    (o5 : wr (m 74 16) < wr (m 74 14) → wr (m 74 16) < wr (m 74 15) → κ (some (zi (wr (z_and (m 86 ((wr (m 74 16)).toNat)) 255)))) m) :
    T D 198 (0, [(0, zr 74)], [], m) κ :=
  hT.1 [] 6 D 198 _ κ (And.intro (fun a1 => (hT.1 [] 6 D 198 (39, [(0, zr 74)], [zi (-1)], m) _ (o1 a1))) (fun a2 => (hT.1 [] 6 D 198 (12, [(0, zr 74)], [zr 74], m) _ (And.intro (fun a3 => (o2 (Classical.byContradiction a2) a3)) (fun a4 => (And.intro (Or.inr (o3 (Classical.byContradiction a2) (Classical.byContradiction a4))) (And.intro (fun a5 => (z_n8086 a5 (o3 (Classical.byContradiction a2) (Classical.byContradiction a4))).elim) (fun _ => (hT.1 [] 6 D 198 (26, [(0, zr 74)], [zr 86], m) _ (And.intro (o4 (Classical.byContradiction a2) (Classical.byContradiction a4)) (hT.1 [] 6 D 198 (39, [(0, zr 74)], [zi (z_and (m 86 ((wr (m 74 16)).toNat)) 255)], m) _ (o5 (Classical.byContradiction a2) (Classical.byContradiction a4)))))))))))))
theorem zb198_0_86 (hT : zRules T) {D : Nat} {κ : Option zA → zM → Prop} {m : zM}  (hrd : m 74 13 = 86) (hf0 : 0 ≤ m 74 16 ∧ m 74 16 ≤ 1000) (hf1 : 0 ≤ m 74 14 ∧ m 74 14 ≤ 80) (hf2 : 0 ≤ m 74 15 ∧ m 74 15 ≤ 40) 
    (k1 : ¬ (m 74 16) < (m 74 14) → κ (some (zi (-1))) m)
    (k2 : (m 74 16) < (m 74 14) → ¬ (m 74 16) < (m 74 15) → κ (some (zi (-1))) m)
    (k3 : (m 74 16) < (m 74 14) → (m 74 16) < (m 74 15) → κ (some (zi (z_and (m 86 ((m 74 16).toNat)) 255))) m) :
    T D 198 (0, [(0, zr 74)], [], m) κ := by
  have hb3 : 0 ≤ (z_and (m 86 ((m 74 16).toNat)) 255) ∧ (z_and (m 86 ((m 74 16).toNat)) 255) ≤ 255 := z_andC (m 86 ((m 74 16).toNat)) 255 (by decide)
  have he0 : wr (m 74 16) = (m 74 16) := wr_id (by omega) (by omega)
  have he1 : wr (m 74 14) = (m 74 14) := wr_id (by omega) (by omega)
  have he2 : wr (m 74 15) = (m 74 15) := wr_id (by omega) (by omega)
  have he3 : wr (z_and (m 86 ((m 74 16).toNat)) 255) = (z_and (m 86 ((m 74 16).toNat)) 255) := wr_id (by omega) (by omega)
  have key := @zb198_0_86r T hT D κ m 
  simp only [he0, he1, he2, he3, Int.toNat_natCast] at key
  exact key
    k1
    k2
    (fun x0 x1 => hrd)
    (fun x0 x1 => by refine ⟨?_, ?_⟩ <;> omega)
    k3
theorem zb69_0r (hT : zRules T) {D : Nat} {κ : Option zA → zM → Prop} {m : zM} 
    (o1 : ¬ wr (m 2 3) < wr (m 2 2) → κ (some (zi (-1))) m)
    (o2 : wr (m 2 3) < wr (m 2 2) → (0 ≤ wr (m 2 3) ∧ wr (m 2 3) < 80))
    (o3 : wr (m 2 3) < wr (m 2 2) → κ (some (zi (wr (m 3 ((wr (m 2 3)).toNat))))) m) :
    T D 69 (0, [(0, zr 2)], [], m) κ :=
  hT.1 [] 6 D 69 _ κ (And.intro (fun a1 => (hT.1 [] 6 D 69 (24, [(0, zr 2)], [zi (-1)], m) _ (o1 a1))) (fun a2 => (hT.1 [] 6 D 69 (12, [(0, zr 2)], [zr 2], m) _ (And.intro (o2 (Classical.byContradiction a2)) (o3 (Classical.byContradiction a2))))))
theorem zb69_0 (hT : zRules T) {D : Nat} {κ : Option zA → zM → Prop} {m : zM}  (hf0 : 0 ≤ m 2 3 ∧ m 2 3 ≤ 1000) (hf1 : 0 ≤ m 2 2 ∧ m 2 2 ≤ 80) 
    (k1 : ¬ (m 2 3) < (m 2 2) → κ (some (zi (-1))) m)
    (k2 : (m 2 3) < (m 2 2) → κ (some (zi (wr (m 3 ((m 2 3).toNat))))) m) :
    T D 69 (0, [(0, zr 2)], [], m) κ := by
  have hb2 : (-2147483648) ≤ wr (m 3 ((m 2 3).toNat)) ∧ wr (m 3 ((m 2 3).toNat)) ≤ 2147483647 := wrB (m 3 ((m 2 3).toNat))
  have he0 : wr (m 2 3) = (m 2 3) := wr_id (by omega) (by omega)
  have he1 : wr (m 2 2) = (m 2 2) := wr_id (by omega) (by omega)
  have key := @zb69_0r T hT D κ m 
  simp only [he0, he1, Int.toNat_natCast] at key
  exact key
    k1
    (fun x0 => by refine ⟨?_, ?_⟩ <;> omega)
    k2
end ZBlocks
