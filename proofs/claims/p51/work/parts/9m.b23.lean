section ZBlocks
variable {T : Nat → Nat → zG → (Option zA → zM → Prop) → Prop}
theorem zb181_0r (hT : zRules T) {D : Nat} {κ : Option zA → zM → Prop} {m : zM} {p : Int} 
    (o1 : 80 < wr (m 2 1) → False)
    (o2 : ¬ 80 < wr (m 2 1) → wr p < 0 → κ (some (zi (-100))) (zu (zu (zu m 2 3 0) 2 2 (wr (m 2 1))) 2 1 0))
    (o3 : ¬ 80 < wr (m 2 1) → ¬ wr p < 0 → ¬ wr p < wr (m 17 0) → κ (some (zi (-100))) (zu (zu (zu m 2 3 0) 2 2 (wr (m 2 1))) 2 1 0))
    (o4 : ¬ 80 < wr (m 2 1) → ¬ wr p < 0 → wr p < wr (m 17 0) → T (D + 6) 181 (40, [(0, zr 1), (1, zi p), (2, zi 0)], [], (zu (zu (zu m 2 3 0) 2 2 (wr (m 2 1))) 52 1 0)) κ) :
    T (D + 6) 181 (0, [(0, zr 1), (1, zi p)], [], m) κ :=
  hT.1 [(40, [0, 1, 2])] 6 (D + 6) 181 _ κ (hT.1 [] 6 (D + 5) 66 _ _ (And.intro trivial (hT.1 [] 6 (D + 5) 66 (10, [(0, zr 2), (1, zi 80)], [zi (m 2 1), zr 2], (zu m 2 3 0)) _ (hT.1 [] 6 (D + 4) 294 _ _ (And.intro (fun a1 => (o1 a1).elim) (fun a2 => (hT.1 [] 6 (D + 5) 66 _ _ (And.intro trivial (hT.1 [(40, [0, 1, 2])] 6 (D + 6) 181 _ _ (hT.1 [] 6 (D + 5) 25 _ _ (And.intro (fun a3 => (And.intro (z_b01L rfl) (hT.1 [(40, [0, 1, 2])] 6 (D + 6) 181 _ _ (And.intro (fun a5 => (z_litF a5 rfl).elim) (fun _ => (And.intro trivial (hT.1 [(40, [0, 1, 2])] 6 (D + 6) 181 (30, [(0, zr 1), (1, zi p)], [zi (-100)], (zu (zu (zu m 2 3 0) 2 2 (wr (m 2 1))) 2 1 0)) _ (o2 a2 a3)))))))) (fun a4 => (And.intro (fun a6 => (hT.1 [] 6 (D + 5) 25 (16, [(0, zr 17), (1, zi p)], [], (zu (zu m 2 3 0) 2 2 (wr (m 2 1)))) _ (And.intro (z_b01L rfl) (hT.1 [(40, [0, 1, 2])] 6 (D + 6) 181 _ _ (And.intro (fun a8 => (z_litF a8 rfl).elim) (fun _ => (And.intro trivial (hT.1 [(40, [0, 1, 2])] 6 (D + 6) 181 (30, [(0, zr 1), (1, zi p)], [zi (-100)], (zu (zu (zu m 2 3 0) 2 2 (wr (m 2 1))) 2 1 0)) _ (o3 a2 a4 a6))))))))) (fun a7 => (hT.1 [] 6 (D + 5) 25 (12, [(0, zr 17), (1, zi p)], [], (zu (zu m 2 3 0) 2 2 (wr (m 2 1)))) _ (And.intro (z_b01L rfl) (hT.1 [(40, [0, 1, 2])] 6 (D + 6) 181 _ _ (And.intro (fun _ => (hT.1 [] 6 (D + 5) 74 _ _ (And.intro trivial (hT.1 [(40, [0, 1, 2])] 6 (D + 6) 181 _ _ (o4 a2 a4 (Classical.byContradiction a7)))))) (fun a9 => (a9 (z_litT rfl)).elim)))))))))))))))))))
theorem zb181_0 (hT : zRules T) {D : Nat} {κ : Option zA → zM → Prop} {m : zM} {p : Int}  (hB : zB m) (h_p : (-2147483648) ≤ p ∧ p ≤ 2147483647) 
    (k1 : p < 0 → zB (zu (zu (zu m 2 3 0) 2 2 (m 2 1)) 2 1 0) → κ (some (zi (-100))) (zu (zu (zu m 2 3 0) 2 2 (m 2 1)) 2 1 0))
    (k2 : ¬ p < 0 → ¬ p < (m 17 0) → zB (zu (zu (zu m 2 3 0) 2 2 (m 2 1)) 2 1 0) → κ (some (zi (-100))) (zu (zu (zu m 2 3 0) 2 2 (m 2 1)) 2 1 0))
    (k3 : ¬ p < 0 → p < (m 17 0) → zB (zu (zu (zu m 2 3 0) 2 2 (m 2 1)) 52 1 0) → T (D + 6) 181 (40, [(0, zr 1), (1, zi p), (2, zi 0)], [], (zu (zu (zu m 2 3 0) 2 2 (m 2 1)) 52 1 0)) κ) :
    T (D + 6) 181 (0, [(0, zr 1), (1, zi p)], [], m) κ := by
  have hb1 : 0 ≤ (m 2 1) ∧ (m 2 1) ≤ 80 := hB 2 1
  have hb2 : 0 ≤ (m 17 0) ∧ (m 17 0) ≤ 6 := hB 17 0
  have he0 : wr (m 2 1) = (m 2 1) := wr_id (by omega) (by omega)
  have he1 : wr p = p := wr_id (by omega) (by omega)
  have he2 : wr (m 17 0) = (m 17 0) := wr_id (by omega) (by omega)
  have key := @zb181_0r T hT D κ m p
  simp only [he0, he1, he2, Int.toNat_natCast] at key
  exact key
    (fun x0 => by omega)
    (fun x0 x1 => k1 x1 (zB_u (zB_u (zB_u hB (show (-1) ≤ 0 ∧ 0 ≤ 100 from ⟨by omega, by omega⟩)) (show 0 ≤ (m 2 1) ∧ (m 2 1) ≤ 80 from ⟨by omega, by omega⟩)) (show 0 ≤ 0 ∧ 0 ≤ 80 from ⟨by omega, by omega⟩)))
    (fun x0 x1 x2 => k2 x1 x2 (zB_u (zB_u (zB_u hB (show (-1) ≤ 0 ∧ 0 ≤ 100 from ⟨by omega, by omega⟩)) (show 0 ≤ (m 2 1) ∧ (m 2 1) ≤ 80 from ⟨by omega, by omega⟩)) (show 0 ≤ 0 ∧ 0 ≤ 80 from ⟨by omega, by omega⟩)))
    (fun x0 x1 x2 => k3 x1 x2 (zB_u (zB_u (zB_u hB (show (-1) ≤ 0 ∧ 0 ≤ 100 from ⟨by omega, by omega⟩)) (show 0 ≤ (m 2 1) ∧ (m 2 1) ≤ 80 from ⟨by omega, by omega⟩)) (show 0 ≤ 0 ∧ 0 ≤ 60 from ⟨by omega, by omega⟩)))
theorem zb181_40r (hT : zRules T) {D : Nat} {κ : Option zA → zM → Prop} {m : zM} {p : Nat} {i : Nat} {lo : zL} (hlo : z_keep [0, 1, 2] lo = [(0, zr 1), (1, zi (p : Int)), (2, zi (i : Int))]) 
    (o1 : ¬ wr (i : Int) < 26 → ¬ 0 < wr (m 52 1) → κ (some (zi (wr (wr ((-1) - (m 2 3)))))) (zu m 2 1 0))
    (o2 : ¬ wr (i : Int) < 26 → 0 < wr (m 52 1) → ¬ wr (m 2 3) = wr (m 2 1) → κ (some (zi (wr (wr ((-1) - (m 2 3)))))) (zu m 2 1 0))
    (o3 : ¬ wr (i : Int) < 26 → 0 < wr (m 52 1) → wr (m 2 3) = wr (m 2 1) → κ (some (zi 0)) (zu m 2 1 0))
    (o4 : wr (i : Int) < 26 → ∀ j, zbd 3 j (m 3 j))
    (o5 : wr (i : Int) < 26 → (0 ≤ (m 2 3) ∧ (m 2 3) ≤ 1000))
    (o6 : wr (i : Int) < 26 → (0 ≤ (m 2 2) ∧ (m 2 2) ≤ 80))
    (o7 : wr (i : Int) < 26 → wr (nxC m) < 48 → ¬ 0 < wr (m 52 1) → κ (some (zi (wr (wr ((-1) - (m 2 3)))))) (zu m 2 1 0))
    (o8 : wr (i : Int) < 26 → wr (nxC m) < 48 → 0 < wr (m 52 1) → ¬ wr (m 2 3) = wr (m 2 1) → κ (some (zi (wr (wr ((-1) - (m 2 3)))))) (zu m 2 1 0))
    (o9 : wr (i : Int) < 26 → wr (nxC m) < 48 → 0 < wr (m 52 1) → wr (m 2 3) = wr (m 2 1) → κ (some (zi 0)) (zu m 2 1 0))
    (o10 : wr (i : Int) < 26 → ¬ wr (nxC m) < 48 → ¬ 51 < wr (nxC m) → ¬ wr (wr ((nxC m) - 48)) = (-1) → T (D + 5) 169 (0, [(0, zr 1), (1, zi (p : Int)), (2, zi (wr ((nxC m) - 48))), (3, zi ((m 17 11) + (i : Int)))], [], (zu m 2 3 ((m 2 3) + 1))) (fun r m1 => T (D + 6) 181 (83, [(0, zr 1), (1, zi (p : Int)), (2, zi (i : Int)), (3, zi (wr ((nxC m) - 48)))], r.toList ++ [zr 52], m1) κ))
    (o11 : wr (i : Int) < 26 → ¬ wr (nxC m) < 48 → ¬ 51 < wr (nxC m) → wr (wr ((nxC m) - 48)) = (-1) → False)
    (o12 : wr (i : Int) < 26 → ¬ wr (nxC m) < 48 → 51 < wr (nxC m) → ¬ 0 < wr (m 52 1) → κ (some (zi (wr (wr ((-1) - (m 2 3)))))) (zu m 2 1 0))
    (o13 : wr (i : Int) < 26 → ¬ wr (nxC m) < 48 → 51 < wr (nxC m) → 0 < wr (m 52 1) → ¬ wr (m 2 3) = wr (m 2 1) → κ (some (zi (wr (wr ((-1) - (m 2 3)))))) (zu m 2 1 0))
    (o14 : wr (i : Int) < 26 → ¬ wr (nxC m) < 48 → 51 < wr (nxC m) → 0 < wr (m 52 1) → wr (m 2 3) = wr (m 2 1) → κ (some (zi 0)) (zu m 2 1 0)) :
    T (D + 6) 181 (40, lo, [], m) κ :=
  zkeep hT hlo (hT.1 [(40, [0, 1, 2])] 6 (D + 6) 181 _ κ (And.intro (fun a1 => (hT.1 [(40, [0, 1, 2])] 6 (D + 6) 181 (97, [(0, zr 1), (1, zi (p : Int)), (2, zi (i : Int))], [zr 52, zr 1], m) _ (And.intro (fun a3 => (hT.1 [] 6 (D + 5) 168 _ _ (And.intro (fun a5 => (z_litF a5 rfl).elim) (fun _ => (hT.1 [] 6 (D + 5) 168 (12, [(0, zr 1), (1, zi (-1))], [zi (m 2 3), zi (-1)], m) _ (hT.1 [] 6 (D + 5) 168 (23, [(0, zr 1), (1, zi (-1)), (2, zi ((-1) - (m 2 3)))], [zi 0, zr 2], m) _ (And.intro trivial (hT.1 [(40, [0, 1, 2])] 6 (D + 6) 181 _ _ (o1 a1 a3))))))))) (fun a4 => (hT.1 [] 6 (D + 5) 68 _ _ (And.intro (fun a6 => (hT.1 [] 6 (D + 5) 68 (16, [(0, zr 2)], [zi 0], m) _ (And.intro (z_b01L rfl) (hT.1 [(40, [0, 1, 2])] 6 (D + 6) 181 _ _ (And.intro (fun _ => (hT.1 [] 6 (D + 5) 168 _ _ (And.intro (fun a9 => (z_litF a9 rfl).elim) (fun _ => (hT.1 [] 6 (D + 5) 168 (12, [(0, zr 1), (1, zi (-1))], [zi (m 2 3), zi (-1)], m) _ (hT.1 [] 6 (D + 5) 168 (23, [(0, zr 1), (1, zi (-1)), (2, zi ((-1) - (m 2 3)))], [zi 0, zr 2], m) _ (And.intro trivial (hT.1 [(40, [0, 1, 2])] 6 (D + 6) 181 _ _ (o2 a1 (Classical.byContradiction a4) a6))))))))) (fun a8 => (a8 (z_litT rfl)).elim)))))) (fun a7 => (hT.1 [] 6 (D + 5) 68 (12, [(0, zr 2)], [zi 1], m) _ (And.intro (z_b01L rfl) (hT.1 [(40, [0, 1, 2])] 6 (D + 6) 181 _ _ (And.intro (fun a10 => (z_litF a10 rfl).elim) (fun _ => (hT.1 [] 6 (D + 5) 168 _ _ (And.intro (fun _ => (hT.1 [] 6 (D + 5) 168 (22, [(0, zr 1), (1, zi 0), (2, zi 0)], [zr 2], m) _ (And.intro trivial (hT.1 [(40, [0, 1, 2])] 6 (D + 6) 181 _ _ (o3 a1 (Classical.byContradiction a4) (Classical.byContradiction a7)))))) (fun a11 => (a11 (z_litT rfl)).elim))))))))))))))) (fun a2 => (hT.1 [(40, [0, 1, 2])] 6 (D + 6) 181 (51, [(0, zr 1), (1, zi (p : Int)), (2, zi (i : Int))], [zi 0, zr 2], m) _ (hT.1 [] 6 (D + 5) 71 _ _ (z_next hT (o4 (Classical.byContradiction a2)) (o5 (Classical.byContradiction a2)) (o6 (Classical.byContradiction a2)) (hT.1 [] 6 (D + 5) 71 _ _ (And.intro (fun a12 => (hT.1 [] 6 (D + 5) 71 (21, [(0, zr 2), (1, zi 0), (2, zi 3), (3, zi (nxC m))], [], m) _ (hT.1 [(40, [0, 1, 2])] 6 (D + 6) 181 _ _ (And.intro (fun a14 => (z_litF a14 rfl).elim) (fun _ => (hT.1 [(40, [0, 1, 2])] 6 (D + 6) 181 (93, [(0, zr 1), (1, zi (p : Int)), (2, zi (i : Int)), (3, zi (-1))], [zr 1], m) _ (And.intro (fun a15 => (hT.1 [] 6 (D + 5) 168 _ _ (And.intro (fun a17 => (z_litF a17 rfl).elim) (fun _ => (hT.1 [] 6 (D + 5) 168 (12, [(0, zr 1), (1, zi (-1))], [zi (m 2 3), zi (-1)], m) _ (hT.1 [] 6 (D + 5) 168 (23, [(0, zr 1), (1, zi (-1)), (2, zi ((-1) - (m 2 3)))], [zi 0, zr 2], m) _ (And.intro trivial (hT.1 [(40, [0, 1, 2])] 6 (D + 6) 181 _ _ (o7 (Classical.byContradiction a2) a12 a15))))))))) (fun a16 => (hT.1 [(40, [0, 1, 2])] 6 (D + 6) 181 (107, [(0, zr 1), (1, zi (p : Int)), (2, zi (i : Int)), (3, zi (-1))], [zr 2, zr 1], m) _ (hT.1 [] 6 (D + 5) 68 _ _ (And.intro (fun a18 => (hT.1 [] 6 (D + 5) 68 (16, [(0, zr 2)], [zi 0], m) _ (And.intro (z_b01L rfl) (hT.1 [(40, [0, 1, 2])] 6 (D + 6) 181 _ _ (And.intro (fun _ => (hT.1 [] 6 (D + 5) 168 _ _ (And.intro (fun a21 => (z_litF a21 rfl).elim) (fun _ => (hT.1 [] 6 (D + 5) 168 (12, [(0, zr 1), (1, zi (-1))], [zi (m 2 3), zi (-1)], m) _ (hT.1 [] 6 (D + 5) 168 (23, [(0, zr 1), (1, zi (-1)), (2, zi ((-1) - (m 2 3)))], [zi 0, zr 2], m) _ (And.intro trivial (hT.1 [(40, [0, 1, 2])] 6 (D + 6) 181 _ _ (o8 (Classical.byContradiction a2) a12 (Classical.byContradiction a16) a18))))))))) (fun a20 => (a20 (z_litT rfl)).elim)))))) (fun a19 => (hT.1 [] 6 (D + 5) 68 (12, [(0, zr 2)], [zi 1], m) _ (And.intro (z_b01L rfl) (hT.1 [(40, [0, 1, 2])] 6 (D + 6) 181 _ _ (And.intro (fun a22 => (z_litF a22 rfl).elim) (fun _ => (hT.1 [] 6 (D + 5) 168 _ _ (And.intro (fun _ => (hT.1 [] 6 (D + 5) 168 (22, [(0, zr 1), (1, zi 0), (2, zi 0)], [zr 2], m) _ (And.intro trivial (hT.1 [(40, [0, 1, 2])] 6 (D + 6) 181 _ _ (o9 (Classical.byContradiction a2) a12 (Classical.byContradiction a16) (Classical.byContradiction a19)))))) (fun a23 => (a23 (z_litT rfl)).elim)))))))))))))))))))) (fun a13 => (hT.1 [] 6 (D + 5) 71 (13, [(0, zr 2), (1, zi 0), (2, zi 3), (3, zi (nxC m))], [], m) _ (And.intro (fun a24 => (hT.1 [] 6 (D + 5) 71 (24, [(0, zr 2), (1, zi 0), (2, zi 3), (3, zi (nxC m))], [zr 2], m) _ (And.intro trivial (hT.1 [] 6 (D + 5) 71 (34, [(0, zr 2), (1, zi 0), (2, zi 3), (3, zi (nxC m))], [zi (nxC m)], (zu m 2 3 ((m 2 3) + 1))) _ (hT.1 [(40, [0, 1, 2])] 6 (D + 6) 181 _ _ (And.intro (fun a26 => (hT.1 [(40, [0, 1, 2])] 6 (D + 6) 181 (68, [(0, zr 1), (1, zi (p : Int)), (2, zi (i : Int)), (3, zi (wr ((nxC m) - 48)))], [zr 52], (zu m 2 3 ((m 2 3) + 1))) _ (hT.1 [(40, [0, 1, 2])] 6 (D + 6) 181 (78, [(0, zr 1), (1, zi (p : Int)), (2, zi (i : Int)), (3, zi (wr ((nxC m) - 48)))], [zi (m 17 11), zi (wr ((nxC m) - 48)), zi (p : Int), zr 1, zr 52], (zu m 2 3 ((m 2 3) + 1))) _ (o10 (Classical.byContradiction a2) a13 a24 a26)))) (fun a27 => (o11 (Classical.byContradiction a2) a13 a24 (Classical.byContradiction a27)).elim))))))) (fun a25 => (hT.1 [] 6 (D + 5) 71 (22, [(0, zr 2), (1, zi 0), (2, zi 3), (3, zi (nxC m))], [zi (-1)], m) _ (hT.1 [(40, [0, 1, 2])] 6 (D + 6) 181 _ _ (And.intro (fun a28 => (z_litF a28 rfl).elim) (fun _ => (hT.1 [(40, [0, 1, 2])] 6 (D + 6) 181 (93, [(0, zr 1), (1, zi (p : Int)), (2, zi (i : Int)), (3, zi (-1))], [zr 1], m) _ (And.intro (fun a29 => (hT.1 [] 6 (D + 5) 168 _ _ (And.intro (fun a31 => (z_litF a31 rfl).elim) (fun _ => (hT.1 [] 6 (D + 5) 168 (12, [(0, zr 1), (1, zi (-1))], [zi (m 2 3), zi (-1)], m) _ (hT.1 [] 6 (D + 5) 168 (23, [(0, zr 1), (1, zi (-1)), (2, zi ((-1) - (m 2 3)))], [zi 0, zr 2], m) _ (And.intro trivial (hT.1 [(40, [0, 1, 2])] 6 (D + 6) 181 _ _ (o12 (Classical.byContradiction a2) a13 (Classical.byContradiction a25) a29))))))))) (fun a30 => (hT.1 [(40, [0, 1, 2])] 6 (D + 6) 181 (107, [(0, zr 1), (1, zi (p : Int)), (2, zi (i : Int)), (3, zi (-1))], [zr 2, zr 1], m) _ (hT.1 [] 6 (D + 5) 68 _ _ (And.intro (fun a32 => (hT.1 [] 6 (D + 5) 68 (16, [(0, zr 2)], [zi 0], m) _ (And.intro (z_b01L rfl) (hT.1 [(40, [0, 1, 2])] 6 (D + 6) 181 _ _ (And.intro (fun _ => (hT.1 [] 6 (D + 5) 168 _ _ (And.intro (fun a35 => (z_litF a35 rfl).elim) (fun _ => (hT.1 [] 6 (D + 5) 168 (12, [(0, zr 1), (1, zi (-1))], [zi (m 2 3), zi (-1)], m) _ (hT.1 [] 6 (D + 5) 168 (23, [(0, zr 1), (1, zi (-1)), (2, zi ((-1) - (m 2 3)))], [zi 0, zr 2], m) _ (And.intro trivial (hT.1 [(40, [0, 1, 2])] 6 (D + 6) 181 _ _ (o13 (Classical.byContradiction a2) a13 (Classical.byContradiction a25) (Classical.byContradiction a30) a32))))))))) (fun a34 => (a34 (z_litT rfl)).elim)))))) (fun a33 => (hT.1 [] 6 (D + 5) 68 (12, [(0, zr 2)], [zi 1], m) _ (And.intro (z_b01L rfl) (hT.1 [(40, [0, 1, 2])] 6 (D + 6) 181 _ _ (And.intro (fun a36 => (z_litF a36 rfl).elim) (fun _ => (hT.1 [] 6 (D + 5) 168 _ _ (And.intro (fun _ => (hT.1 [] 6 (D + 5) 168 (22, [(0, zr 1), (1, zi 0), (2, zi 0)], [zr 2], m) _ (And.intro trivial (hT.1 [(40, [0, 1, 2])] 6 (D + 6) 181 _ _ (o14 (Classical.byContradiction a2) a13 (Classical.byContradiction a25) (Classical.byContradiction a30) (Classical.byContradiction a33)))))) (fun a37 => (a37 (z_litT rfl)).elim)))))))))))))))))))))))))))))))
theorem zb181_40 (hT : zRules T) {D : Nat} {κ : Option zA → zM → Prop} {m : zM} {p : Nat} {i : Nat} {lo : zL} (hlo : z_keep [0, 1, 2] lo = [(0, zr 1), (1, zi (p : Int)), (2, zi (i : Int))])  (hB : zB m) (h_p : p ≤ 5) (h_i : i ≤ 26) 
    (k1 : ¬ (i : Int) < 26 → ¬ 0 < (m 52 1) → zB (zu m 2 1 0) → κ (some (zi ((-1) - (m 2 3)))) (zu m 2 1 0))
    (k2 : ¬ (i : Int) < 26 → 0 < (m 52 1) → ¬ (m 2 3) = (m 2 1) → zB (zu m 2 1 0) → κ (some (zi ((-1) - (m 2 3)))) (zu m 2 1 0))
    (k3 : ¬ (i : Int) < 26 → 0 < (m 52 1) → (m 2 3) = (m 2 1) → zB (zu m 2 1 0) → κ (some (zi 0)) (zu m 2 1 0))
    (k4 : (i : Int) < 26 → (0 ≤ (m 2 3) ∧ (m 2 3) ≤ 1000))
    (k5 : (i : Int) < 26 → (nxC m) < 48 → ¬ 0 < (m 52 1) → zB (zu m 2 1 0) → κ (some (zi ((-1) - (m 2 3)))) (zu m 2 1 0))
    (k6 : (i : Int) < 26 → (nxC m) < 48 → 0 < (m 52 1) → ¬ (m 2 3) = (m 2 1) → zB (zu m 2 1 0) → κ (some (zi ((-1) - (m 2 3)))) (zu m 2 1 0))
    (k7 : (i : Int) < 26 → (nxC m) < 48 → 0 < (m 52 1) → (m 2 3) = (m 2 1) → zB (zu m 2 1 0) → κ (some (zi 0)) (zu m 2 1 0))
    (k8 : (i : Int) < 26 → ¬ (nxC m) < 48 → ¬ 51 < (nxC m) → T (D + 5) 169 (0, [(0, zr 1), (1, zi (p : Int)), (2, zi ((nxC m) - 48)), (3, zi ((m 17 11) + (i : Int)))], [], (zu m 2 3 ((m 2 3) + 1))) (fun r m1 => T (D + 6) 181 (83, [(0, zr 1), (1, zi (p : Int)), (2, zi (i : Int)), (3, zi ((nxC m) - 48))], r.toList ++ [zr 52], m1) κ))
    (k9 : (i : Int) < 26 → ¬ (nxC m) < 48 → 51 < (nxC m) → ¬ 0 < (m 52 1) → zB (zu m 2 1 0) → κ (some (zi ((-1) - (m 2 3)))) (zu m 2 1 0))
    (k10 : (i : Int) < 26 → ¬ (nxC m) < 48 → 51 < (nxC m) → 0 < (m 52 1) → ¬ (m 2 3) = (m 2 1) → zB (zu m 2 1 0) → κ (some (zi ((-1) - (m 2 3)))) (zu m 2 1 0))
    (k11 : (i : Int) < 26 → ¬ (nxC m) < 48 → 51 < (nxC m) → 0 < (m 52 1) → (m 2 3) = (m 2 1) → zB (zu m 2 1 0) → κ (some (zi 0)) (zu m 2 1 0)) :
    T (D + 6) 181 (40, lo, [], m) κ := by
  have hb2 : (-1) ≤ (m 2 3) ∧ (m 2 3) ≤ 100 := hB 2 3
  have hb3 : 0 ≤ (m 2 2) ∧ (m 2 2) ≤ 80 := hB 2 2
  have hb4 : (-1) ≤ (nxC m) ∧ (nxC m) ≤ 65535 := nxCBo m (fun j => hB 3 j)
  have hb5 : 0 ≤ (m 52 1) ∧ (m 52 1) ≤ 60 := hB 52 1
  have hb6 : 0 ≤ (m 2 1) ∧ (m 2 1) ≤ 80 := hB 2 1
  have hb7 : 0 ≤ (m 17 11) ∧ (m 17 11) ≤ 400000 := hB 17 11
  have he0 : wr (i : Int) = (i : Int) := wr_id (by omega) (by omega)
  have he1 : wr (nxC m) = (nxC m) := wr_id (by omega) (by omega)
  have he2 : wr (m 52 1) = (m 52 1) := wr_id (by omega) (by omega)
  have he3 : wr (m 2 3) = (m 2 3) := wr_id (by omega) (by omega)
  have he4 : wr (m 2 1) = (m 2 1) := wr_id (by omega) (by omega)
  have he5 : wr ((-1) - (m 2 3)) = ((-1) - (m 2 3)) := wr_id (by omega) (by omega)
  have he6 : wr ((nxC m) - 48) = ((nxC m) - 48) := wr_id (by omega) (by omega)
  have key := @zb181_40r T hT D κ m p i lo hlo
  simp only [he0, he1, he2, he3, he4, he5, he6, Int.toNat_natCast] at key
  exact key
    (fun x0 x1 => k1 x0 x1 (zB_u hB (show 0 ≤ 0 ∧ 0 ≤ 80 from ⟨by omega, by omega⟩)))
    (fun x0 x1 x2 => k2 x0 x1 x2 (zB_u hB (show 0 ≤ 0 ∧ 0 ≤ 80 from ⟨by omega, by omega⟩)))
    (fun x0 x1 x2 => k3 x0 x1 x2 (zB_u hB (show 0 ≤ 0 ∧ 0 ≤ 80 from ⟨by omega, by omega⟩)))
    (fun x0 => fun j => hB 3 j)
    k4
    (fun x0 => by refine ⟨?_, ?_⟩ <;> omega)
    (fun x0 x1 x2 => k5 x0 x1 x2 (zB_u hB (show 0 ≤ 0 ∧ 0 ≤ 80 from ⟨by omega, by omega⟩)))
    (fun x0 x1 x2 x3 => k6 x0 x1 x2 x3 (zB_u hB (show 0 ≤ 0 ∧ 0 ≤ 80 from ⟨by omega, by omega⟩)))
    (fun x0 x1 x2 x3 => k7 x0 x1 x2 x3 (zB_u hB (show 0 ≤ 0 ∧ 0 ≤ 80 from ⟨by omega, by omega⟩)))
    (fun x0 x1 x2 x3 => k8 x0 x1 x2)
    (fun x0 x1 x2 x3 => by omega)
    (fun x0 x1 x2 x3 => k9 x0 x1 x2 x3 (zB_u hB (show 0 ≤ 0 ∧ 0 ≤ 80 from ⟨by omega, by omega⟩)))
    (fun x0 x1 x2 x3 x4 => k10 x0 x1 x2 x3 x4 (zB_u hB (show 0 ≤ 0 ∧ 0 ≤ 80 from ⟨by omega, by omega⟩)))
    (fun x0 x1 x2 x3 x4 => k11 x0 x1 x2 x3 x4 (zB_u hB (show 0 ≤ 0 ∧ 0 ≤ 80 from ⟨by omega, by omega⟩)))
theorem zb181_83r (hT : zRules T) {D : Nat} {κ : Option zA → zM → Prop} {m : zM} {p : Nat} {i : Nat} {v : Int} {lo : zL} (hlo : z_keep [0, 1, 2] lo = [(0, zr 1), (1, zi (p : Int)), (2, zi (i : Int))]) 
    (o1 : ¬ wr (m 52 1) < 60 → T (D + 6) 181 (40, [(0, zr 1), (1, zi (p : Int)), (2, zi ((i : Int) + 1))], [], m) κ)
    (o2 : wr (m 52 1) < 60 → (0 ≤ wr (m 52 1) ∧ wr (m 52 1) < 60))
    (o3 : wr (m 52 1) < 60 → T (D + 6) 181 (40, [(0, zr 1), (1, zi (p : Int)), (2, zi ((i : Int) + 1))], [], (zu (zu m 53 ((wr (m 52 1)).toNat) v) 52 1 ((m 52 1) + 1))) κ) :
    T (D + 6) 181 (83, lo, [zi v, zr 52], m) κ :=
  zkeep hT hlo (hT.1 [(40, [0, 1, 2])] 6 (D + 6) 181 _ κ (hT.1 [] 6 (D + 5) 75 _ _ (And.intro (fun a1 => (hT.1 [(40, [0, 1, 2])] 6 (D + 6) 181 _ _ (o1 a1))) (fun a2 => (hT.1 [] 6 (D + 5) 75 (13, [(0, zr 52), (1, zi v)], [zr 53], m) _ (And.intro (And.intro (o2 (Classical.byContradiction a2)) trivial) (hT.1 [] 6 (D + 5) 75 (21, [(0, zr 52), (1, zi v)], [zr 52, zr 52], (zu m 53 ((wr (m 52 1)).toNat) v)) _ (And.intro trivial (hT.1 [(40, [0, 1, 2])] 6 (D + 6) 181 _ _ (o3 (Classical.byContradiction a2)))))))))))
theorem zb181_83 (hT : zRules T) {D : Nat} {κ : Option zA → zM → Prop} {m : zM} {p : Nat} {i : Nat} {v : Int} {lo : zL} (hlo : z_keep [0, 1, 2] lo = [(0, zr 1), (1, zi (p : Int)), (2, zi (i : Int))])  (hB : zB m) (h_p : p ≤ 5) (h_i : i ≤ 25) (h_v : 0 ≤ v ∧ v ≤ 99) 
    (k1 : ¬ (m 52 1) < 60 → T (D + 6) 181 (40, [(0, zr 1), (1, zi (p : Int)), (2, zi ((i : Int) + 1))], [], m) κ)
    (k2 : (m 52 1) < 60 → zB (zu (zu m 53 ((m 52 1).toNat) v) 52 1 ((m 52 1) + 1)) → T (D + 6) 181 (40, [(0, zr 1), (1, zi (p : Int)), (2, zi ((i : Int) + 1))], [], (zu (zu m 53 ((m 52 1).toNat) v) 52 1 ((m 52 1) + 1))) κ) :
    T (D + 6) 181 (83, lo, [zi v, zr 52], m) κ := by
  have hb3 : 0 ≤ (m 52 1) ∧ (m 52 1) ≤ 60 := hB 52 1
  have he0 : wr (m 52 1) = (m 52 1) := wr_id (by omega) (by omega)
  have key := @zb181_83r T hT D κ m p i v lo hlo
  simp only [he0, Int.toNat_natCast] at key
  exact key
    k1
    (fun x0 => by refine ⟨?_, ?_⟩ <;> omega)
    (fun x0 => k2 x0 (zB_u (zB_u hB (show 0 ≤ v ∧ v ≤ 99 from ⟨by omega, by omega⟩)) (show 0 ≤ ((m 52 1) + 1) ∧ ((m 52 1) + 1) ≤ 60 from ⟨by omega, by omega⟩)))
theorem zb267_0r (hT : zRules T) {D : Nat} {κ : Option zA → zM → Prop} {m : zM} {p : Int} 
    (o1 : wr p < 0 → κ (some (zi (-100))) (zu m 74 9 0))
    (o2 : ¬ wr p < 0 → wr ((m 74 4) - 1) < wr p → κ (some (zi (-100))) (zu m 74 9 0))
    (o3 : ¬ wr p < 0 → ¬ wr ((m 74 4) - 1) < wr p → T (D + 5) 267 (23, [(0, zr 74), (1, zi p), (2, zi (m 74 9)), (3, zi 0)], [], (zu m 74 9 0)) κ) :
    T (D + 5) 267 (0, [(0, zr 74), (1, zi p)], [], m) κ :=
  hT.1 [(23, [0, 1, 2, 3]), (68, [0, 1, 2, 3])] 6 (D + 5) 267 _ κ (And.intro trivial (hT.1 [(23, [0, 1, 2, 3]), (68, [0, 1, 2, 3])] 6 (D + 5) 267 (10, [(0, zr 74), (1, zi p), (2, zi (m 74 9))], [], (zu m 74 9 0)) _ (hT.1 [] 6 (D + 4) 190 _ _ (hT.1 [] 6 (D + 4) 190 (8, [(0, zr 74), (1, zi p)], [zi ((m 74 4) - 1), zi 0, zi p], (zu m 74 9 0)) _ (hT.1 [] 6 (D + 3) 186 _ _ (And.intro (fun a1 => (And.intro (z_b01L rfl) (hT.1 [] 6 (D + 4) 190 _ _ (And.intro (z_b01L rfl) (hT.1 [(23, [0, 1, 2, 3]), (68, [0, 1, 2, 3])] 6 (D + 5) 267 _ _ (And.intro (fun a3 => (z_litF a3 rfl).elim) (fun _ => (o1 a1)))))))) (fun a2 => (And.intro (fun a4 => (hT.1 [] 6 (D + 3) 186 (14, [(0, zi p), (1, zi 0), (2, zi ((m 74 4) - 1))], [], (zu m 74 9 0)) _ (And.intro (z_b01L rfl) (hT.1 [] 6 (D + 4) 190 _ _ (And.intro (z_b01L rfl) (hT.1 [(23, [0, 1, 2, 3]), (68, [0, 1, 2, 3])] 6 (D + 5) 267 _ _ (And.intro (fun a6 => (z_litF a6 rfl).elim) (fun _ => (o2 a2 a4))))))))) (fun a5 => (hT.1 [] 6 (D + 3) 186 (10, [(0, zi p), (1, zi 0), (2, zi ((m 74 4) - 1))], [], (zu m 74 9 0)) _ (And.intro (z_b01L rfl) (hT.1 [] 6 (D + 4) 190 _ _ (And.intro (z_b01L rfl) (hT.1 [(23, [0, 1, 2, 3]), (68, [0, 1, 2, 3])] 6 (D + 5) 267 _ _ (And.intro (fun _ => (o3 a2 a5)) (fun a7 => (a7 (z_litT rfl)).elim))))))))))))))))
theorem zb267_0 (hT : zRules T) {D : Nat} {κ : Option zA → zM → Prop} {m : zM} {p : Int}  (hB : zB m) (h_p : (-2147483648) ≤ p ∧ p ≤ 2147483647) 
    (k1 : p < 0 → zB (zu m 74 9 0) → κ (some (zi (-100))) (zu m 74 9 0))
    (k2 : ¬ p < 0 → ((m 74 4) - 1) < p → zB (zu m 74 9 0) → κ (some (zi (-100))) (zu m 74 9 0))
    (k3 : ¬ p < 0 → ¬ ((m 74 4) - 1) < p → zB (zu m 74 9 0) → T (D + 5) 267 (23, [(0, zr 74), (1, zi p), (2, zi (m 74 9)), (3, zi 0)], [], (zu m 74 9 0)) κ) :
    T (D + 5) 267 (0, [(0, zr 74), (1, zi p)], [], m) κ := by
  have hb1 : 0 ≤ (m 74 9) ∧ (m 74 9) ≤ 80 := hB 74 9
  have hb2 : 0 ≤ (m 74 4) ∧ (m 74 4) ≤ 6 := hB 74 4
  have he0 : wr p = p := wr_id (by omega) (by omega)
  have he1 : wr ((m 74 4) - 1) = ((m 74 4) - 1) := wr_id (by omega) (by omega)
  have key := @zb267_0r T hT D κ m p
  simp only [he0, he1, Int.toNat_natCast] at key
  exact key
    (fun x0 => k1 x0 (zB_u hB (show 0 ≤ 0 ∧ 0 ≤ 80 from ⟨by omega, by omega⟩)))
    (fun x0 x1 => k2 x0 x1 (zB_u hB (show 0 ≤ 0 ∧ 0 ≤ 80 from ⟨by omega, by omega⟩)))
    (fun x0 x1 => k3 x0 x1 (zB_u hB (show 0 ≤ 0 ∧ 0 ≤ 80 from ⟨by omega, by omega⟩)))
theorem zb267_23r (hT : zRules T) {D : Nat} {κ : Option zA → zM → Prop} {m : zM} {p : Nat} {n : Nat} {i : Nat} {lo : zL} (hlo : z_keep [0, 1, 2, 3] lo = [(0, zr 74), (1, zi (p : Int)), (2, zi (n : Int)), (3, zi (i : Int))]) 
    (o1 : ¬ wr (i : Int) < wr (n : Int) → ¬ wr (n : Int) = 0 → T (D + 5) 267 (68, [(0, zr 74), (1, zi (p : Int)), (2, zi (n : Int)), (3, zi 0)], [], m) κ)
    (o2 : ¬ wr (i : Int) < wr (n : Int) → wr (n : Int) = 0 → κ (some (zi (-1))) m)
    (o3 : wr (i : Int) < wr (n : Int) → wr (i : Int) = 26 → κ (some (zi (wr ((-1) - (i : Int))))) m)
    (o4 : wr (i : Int) < wr (n : Int) → ¬ wr (i : Int) = 26 → (0 ≤ wr (i : Int) ∧ wr (i : Int) < 80))
    (o5 : wr (i : Int) < wr (n : Int) → ¬ wr (i : Int) = 26 → wr (m 80 ((wr (i : Int)).toNat)) < 48 → κ (some (zi (wr ((-1) - (i : Int))))) m)
    (o6 : wr (i : Int) < wr (n : Int) → ¬ wr (i : Int) = 26 → ¬ wr (m 80 ((wr (i : Int)).toNat)) < 48 → 51 < wr (m 80 ((wr (i : Int)).toNat)) → κ (some (zi (wr ((-1) - (i : Int))))) m)
    (o7 : wr (i : Int) < wr (n : Int) → ¬ wr (i : Int) = 26 → ¬ wr (m 80 ((wr (i : Int)).toNat)) < 48 → ¬ 51 < wr (m 80 ((wr (i : Int)).toNat)) → T (D + 5) 267 (23, [(0, zr 74), (1, zi (p : Int)), (2, zi (n : Int)), (3, zi ((i : Int) + 1))], [], m) κ) :
    T (D + 5) 267 (23, lo, [], m) κ :=
  zkeep hT hlo (hT.1 [(23, [0, 1, 2, 3]), (68, [0, 1, 2, 3])] 6 (D + 5) 267 _ κ (And.intro (fun a1 => (And.intro (fun a3 => (hT.1 [(23, [0, 1, 2, 3]), (68, [0, 1, 2, 3])] 6 (D + 5) 267 (67, [(0, zr 74), (1, zi (p : Int)), (2, zi (n : Int)), (3, zi (i : Int))], [zi 0], m) _ (o1 a1 a3))) (fun a4 => (hT.1 [(23, [0, 1, 2, 3]), (68, [0, 1, 2, 3])] 6 (D + 5) 267 (65, [(0, zr 74), (1, zi (p : Int)), (2, zi (n : Int)), (3, zi (i : Int))], [zi (-1)], m) _ (o2 a1 (Classical.byContradiction a4)))))) (fun a2 => (And.intro (fun a5 => (hT.1 [(23, [0, 1, 2, 3]), (68, [0, 1, 2, 3])] 6 (D + 5) 267 (50, [(0, zr 74), (1, zi (p : Int)), (2, zi (n : Int)), (3, zi (i : Int))], [], m) _ (o3 (Classical.byContradiction a2) a5))) (fun a6 => (hT.1 [(23, [0, 1, 2, 3]), (68, [0, 1, 2, 3])] 6 (D + 5) 267 (34, [(0, zr 74), (1, zi (p : Int)), (2, zi (n : Int)), (3, zi (i : Int))], [], m) _ (And.intro (o4 (Classical.byContradiction a2) a6) (hT.1 [(23, [0, 1, 2, 3]), (68, [0, 1, 2, 3])] 6 (D + 5) 267 (44, [(0, zr 74), (1, zi (p : Int)), (2, zi (n : Int)), (3, zi (i : Int))], [zi 51, zi 48, zi (m 80 ((wr (i : Int)).toNat))], m) _ (hT.1 [] 6 (D + 4) 186 _ _ (And.intro (fun a7 => (And.intro (z_b01L rfl) (hT.1 [(23, [0, 1, 2, 3]), (68, [0, 1, 2, 3])] 6 (D + 5) 267 _ _ (And.intro (fun a9 => (z_litF a9 rfl).elim) (fun _ => (o5 (Classical.byContradiction a2) a6 a7)))))) (fun a8 => (And.intro (fun a10 => (hT.1 [] 6 (D + 4) 186 (14, [(0, zi (m 80 ((wr (i : Int)).toNat))), (1, zi 48), (2, zi 51)], [], m) _ (And.intro (z_b01L rfl) (hT.1 [(23, [0, 1, 2, 3]), (68, [0, 1, 2, 3])] 6 (D + 5) 267 _ _ (And.intro (fun a12 => (z_litF a12 rfl).elim) (fun _ => (o6 (Classical.byContradiction a2) a6 a8 a10))))))) (fun a11 => (hT.1 [] 6 (D + 4) 186 (10, [(0, zi (m 80 ((wr (i : Int)).toNat))), (1, zi 48), (2, zi 51)], [], m) _ (And.intro (z_b01L rfl) (hT.1 [(23, [0, 1, 2, 3]), (68, [0, 1, 2, 3])] 6 (D + 5) 267 _ _ (And.intro (fun _ => (o7 (Classical.byContradiction a2) a6 a8 a11)) (fun a13 => (a13 (z_litT rfl)).elim))))))))))))))))))
theorem zb267_23 (hT : zRules T) {D : Nat} {κ : Option zA → zM → Prop} {m : zM} {p : Nat} {n : Nat} {i : Nat} {lo : zL} (hlo : z_keep [0, 1, 2, 3] lo = [(0, zr 74), (1, zi (p : Int)), (2, zi (n : Int)), (3, zi (i : Int))])  (hB : zB m) (h_p : p ≤ 5) (h_n : n ≤ 80) (h_i : i ≤ 80) 
    (k1 : ¬ (i : Int) < (n : Int) → ¬ (n : Int) = 0 → T (D + 5) 267 (68, [(0, zr 74), (1, zi (p : Int)), (2, zi (n : Int)), (3, zi 0)], [], m) κ)
    (k2 : ¬ (i : Int) < (n : Int) → (n : Int) = 0 → κ (some (zi (-1))) m)
    (k3 : (i : Int) < (n : Int) → (i : Int) = 26 → κ (some (zi ((-1) - (i : Int)))) m)
    (k4 : (i : Int) < (n : Int) → ¬ (i : Int) = 26 → (m 80 i) < 48 → κ (some (zi ((-1) - (i : Int)))) m)
    (k5 : (i : Int) < (n : Int) → ¬ (i : Int) = 26 → ¬ (m 80 i) < 48 → 51 < (m 80 i) → κ (some (zi ((-1) - (i : Int)))) m)
    (k6 : (i : Int) < (n : Int) → ¬ (i : Int) = 26 → ¬ (m 80 i) < 48 → ¬ 51 < (m 80 i) → T (D + 5) 267 (23, [(0, zr 74), (1, zi (p : Int)), (2, zi (n : Int)), (3, zi ((i : Int) + 1))], [], m) κ) :
    T (D + 5) 267 (23, lo, [], m) κ := by
  have hb3 : (-128) ≤ (m 80 i) ∧ (m 80 i) ≤ 127 := hB 80 i
  have he0 : wr (i : Int) = (i : Int) := wr_id (by omega) (by omega)
  have he1 : wr (n : Int) = (n : Int) := wr_id (by omega) (by omega)
  have he2 : wr ((-1) - (i : Int)) = ((-1) - (i : Int)) := wr_id (by omega) (by omega)
  have he3 : (i : Int).toNat = i := by omega
  have he4 : wr (m 80 i) = (m 80 i) := wr_id (by omega) (by omega)
  have key := @zb267_23r T hT D κ m p n i lo hlo
  simp only [he0, he1, he2, he3, he4, Int.toNat_natCast] at key
  exact key
    k1
    k2
    k3
    (fun x0 x1 => by refine ⟨?_, ?_⟩ <;> omega)
    k4
    k5
    k6
theorem zb267_68r (hT : zRules T) {D : Nat} {κ : Option zA → zM → Prop} {m : zM} {p : Nat} {n : Nat} {i : Nat} {lo : zL} (hlo : z_keep [0, 1, 2, 3] lo = [(0, zr 74), (1, zi (p : Int)), (2, zi (n : Int)), (3, zi (i : Int))]) 
    (o1 : ¬ wr (i : Int) < wr (n : Int) → κ (some (zi 0)) (zu m 74 49 (n : Int)))
    (o2 : wr (i : Int) < wr (n : Int) → (0 ≤ wr (i : Int) ∧ wr (i : Int) < 80))
    (o3 : wr (i : Int) < wr (n : Int) → T (D + 4) 215 (0, [(0, zr 74), (1, zi (p : Int)), (2, zi ((m 80 ((wr (i : Int)).toNat)) - 48)), (3, zi ((m 75 57) + (i : Int)))], [], m) (fun r m1 => T (D + 5) 267 (101, [(0, zr 74), (1, zi (p : Int)), (2, zi (n : Int)), (3, zi (i : Int))], r.toList ++ [zi (i : Int), zr 97], m1) κ)) :
    T (D + 5) 267 (68, lo, [], m) κ :=
  zkeep hT hlo (hT.1 [(23, [0, 1, 2, 3]), (68, [0, 1, 2, 3])] 6 (D + 5) 267 _ κ (And.intro (fun a1 => (And.intro trivial (hT.1 [(23, [0, 1, 2, 3]), (68, [0, 1, 2, 3])] 6 (D + 5) 267 (113, [(0, zr 74), (1, zi (p : Int)), (2, zi (n : Int)), (3, zi (i : Int))], [], (zu m 74 49 (n : Int))) _ (o1 a1)))) (fun a2 => (hT.1 [(23, [0, 1, 2, 3]), (68, [0, 1, 2, 3])] 6 (D + 5) 267 (78, [(0, zr 74), (1, zi (p : Int)), (2, zi (n : Int)), (3, zi (i : Int))], [zi (i : Int), zr 97], m) _ (And.intro (o2 (Classical.byContradiction a2)) (hT.1 [(23, [0, 1, 2, 3]), (68, [0, 1, 2, 3])] 6 (D + 5) 267 (86, [(0, zr 74), (1, zi (p : Int)), (2, zi (n : Int)), (3, zi (i : Int))], [zi (m 80 ((wr (i : Int)).toNat)), zi (p : Int), zr 74, zi (i : Int), zr 97], m) _ (And.intro (z_ixL rfl) (hT.1 [(23, [0, 1, 2, 3]), (68, [0, 1, 2, 3])] 6 (D + 5) 267 (96, [(0, zr 74), (1, zi (p : Int)), (2, zi (n : Int)), (3, zi (i : Int))], [zi (m 75 57), zi ((m 80 ((wr (i : Int)).toNat)) - 48), zi (p : Int), zr 74, zi (i : Int), zr 97], m) _ (o3 (Classical.byContradiction a2))))))))))
theorem zb267_68 (hT : zRules T) {D : Nat} {κ : Option zA → zM → Prop} {m : zM} {p : Nat} {n : Nat} {i : Nat} {lo : zL} (hlo : z_keep [0, 1, 2, 3] lo = [(0, zr 74), (1, zi (p : Int)), (2, zi (n : Int)), (3, zi (i : Int))])  (hB : zB m) (h_p : p ≤ 5) (h_n : n ≤ 26) (h_i : i ≤ 26) 
    (k1 : ¬ (i : Int) < (n : Int) → zB (zu m 74 49 (n : Int)) → κ (some (zi 0)) (zu m 74 49 (n : Int)))
    (k2 : (i : Int) < (n : Int) → T (D + 4) 215 (0, [(0, zr 74), (1, zi (p : Int)), (2, zi ((m 80 i) - 48)), (3, zi ((m 75 57) + (i : Int)))], [], m) (fun r m1 => T (D + 5) 267 (101, [(0, zr 74), (1, zi (p : Int)), (2, zi (n : Int)), (3, zi (i : Int))], r.toList ++ [zi (i : Int), zr 97], m1) κ)) :
    T (D + 5) 267 (68, lo, [], m) κ := by
  have hb3 : (-128) ≤ (m 80 i) ∧ (m 80 i) ≤ 127 := hB 80 i
  have hb4 : 0 ≤ (m 75 57) ∧ (m 75 57) ≤ 400000 := hB 75 57
  have he0 : wr (i : Int) = (i : Int) := wr_id (by omega) (by omega)
  have he1 : wr (n : Int) = (n : Int) := wr_id (by omega) (by omega)
  have he2 : (i : Int).toNat = i := by omega
  have key := @zb267_68r T hT D κ m p n i lo hlo
  simp only [he0, he1, he2, Int.toNat_natCast] at key
  exact key
    (fun x0 => k1 x0 (zB_u hB (show 0 ≤ (n : Int) ∧ (n : Int) ≤ 26 from ⟨by omega, by omega⟩)))
    (fun x0 => by refine ⟨?_, ?_⟩ <;> omega)
    k2
theorem zb267_101r (hT : zRules T) {D : Nat} {κ : Option zA → zM → Prop} {m : zM} {p : Nat} {n : Nat} {i : Nat} {v : Int} {d : Nat} {lo : zL} (hlo : z_keep [0, 1, 2, 3] lo = [(0, zr 74), (1, zi (p : Int)), (2, zi (n : Int)), (3, zi (i : Int))]) 
    (o1 : (0 ≤ wr (d : Int) ∧ wr (d : Int) < 26))
    (o2 : T (D + 5) 267 (68, [(0, zr 74), (1, zi (p : Int)), (2, zi (n : Int)), (3, zi ((i : Int) + 1))], [], (zu m 97 ((wr (d : Int)).toNat) v)) κ) :
    T (D + 5) 267 (101, lo, [zi v, zi (d : Int), zr 97], m) κ :=
  zkeep hT hlo (hT.1 [(23, [0, 1, 2, 3]), (68, [0, 1, 2, 3])] 6 (D + 5) 267 _ κ (And.intro (And.intro (o1) trivial) (o2)))
theorem zb267_101 (hT : zRules T) {D : Nat} {κ : Option zA → zM → Prop} {m : zM} {p : Nat} {n : Nat} {i : Nat} {v : Int} {d : Nat} {lo : zL} (hlo : z_keep [0, 1, 2, 3] lo = [(0, zr 74), (1, zi (p : Int)), (2, zi (n : Int)), (3, zi (i : Int))])  (hB : zB m) (h_p : p ≤ 5) (h_n : n ≤ 26) (h_i : i ≤ 25) (h_v : 0 ≤ v ∧ v ≤ 99) (h_d : d ≤ 25) 
    (k1 : zB (zu m 97 d v) → T (D + 5) 267 (68, [(0, zr 74), (1, zi (p : Int)), (2, zi (n : Int)), (3, zi ((i : Int) + 1))], [], (zu m 97 d v)) κ) :
    T (D + 5) 267 (101, lo, [zi v, zi (d : Int), zr 97], m) κ := by
  have he0 : wr (d : Int) = (d : Int) := wr_id (by omega) (by omega)
  have he1 : (d : Int).toNat = d := by omega
  have key := @zb267_101r T hT D κ m p n i v d lo hlo
  simp only [he0, he1, Int.toNat_natCast] at key
  exact key
    (by refine ⟨?_, ?_⟩ <;> omega)
    (k1  (zB_u hB (show 0 ≤ v ∧ v ≤ 99 from ⟨by omega, by omega⟩)))
end ZBlocks
