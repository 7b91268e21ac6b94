-- a4.b30.lean.txt
section
section ZBlocks
variable {T : Nat → Nat → zG → (Option zA → zM → Prop) → Prop}
theorem zb115_0r (hT : zRules T) {D : Nat} {κ : Option zA → zM → Prop} {m : zM} 
    (o1 : 76 < wr (m 2 1) → ¬ wr (m 2 1) = 0 → T (D + 6) 39 (0, [(0, zr 17), (1, zr 2)], [], (zu (zu m 2 3 0) 2 2 76)) (fun r m1 => T (D + 7) 115 (34, [(0, zr 1)], r.toList ++ [], m1) κ))
    (o2 : 76 < wr (m 2 1) → wr (m 2 1) = 0 → False)
    (o3 : ¬ 76 < wr (m 2 1) → ¬ wr (m 2 1) = 0 → T (D + 6) 39 (0, [(0, zr 17), (1, zr 2)], [], (zu (zu m 2 3 0) 2 2 (wr (m 2 1)))) (fun r m1 => T (D + 7) 115 (34, [(0, zr 1)], r.toList ++ [], m1) κ))
    (o4 : ¬ 76 < wr (m 2 1) → wr (m 2 1) = 0 → κ (some (zi 0)) (zu (zu (zu m 2 3 0) 2 2 (wr (m 2 1))) 2 1 0)) :
    T (D + 7) 115 (0, [(0, zr 1)], [], m) κ :=
  hT.1 [] 6 (D + 7) 115 _ κ (hT.1 [] 6 (D + 6) 66 _ _ (And.intro trivial (hT.1 [] 6 (D + 6) 66 (10, [(0, zr 2), (1, zi 76)], [zi (m 2 1), zr 2], (zu m 2 3 0)) _ (hT.1 [] 6 (D + 5) 294 _ _ (And.intro (fun a1 => (hT.1 [] 6 (D + 6) 66 _ _ (And.intro trivial (hT.1 [] 6 (D + 7) 115 _ _ (hT.1 [] 6 (D + 6) 65 _ _ (And.intro (fun a3 => (And.intro (z_b01L rfl) (hT.1 [] 6 (D + 7) 115 _ _ (And.intro (fun _ => (o1 a1 a3)) (fun a5 => (a5 (z_litT rfl)).elim))))) (fun a4 => (o2 a1 (Classical.byContradiction a4)).elim))))))) (fun a2 => (hT.1 [] 6 (D + 6) 66 _ _ (And.intro trivial (hT.1 [] 6 (D + 7) 115 _ _ (hT.1 [] 6 (D + 6) 65 _ _ (And.intro (fun a6 => (And.intro (z_b01L rfl) (hT.1 [] 6 (D + 7) 115 _ _ (And.intro (fun _ => (o3 a2 a6)) (fun a8 => (a8 (z_litT rfl)).elim))))) (fun a7 => (And.intro (z_b01L rfl) (hT.1 [] 6 (D + 7) 115 _ _ (And.intro (fun a9 => (z_litF a9 rfl).elim) (fun _ => (And.intro (fun _ => (hT.1 [] 6 (D + 7) 115 (46, [(0, zr 1), (1, zi 0)], [], (zu (zu m 2 3 0) 2 2 (wr (m 2 1)))) _ (hT.1 [] 6 (D + 6) 168 _ _ (And.intro (fun _ => (hT.1 [] 6 (D + 6) 168 (22, [(0, zr 1), (1, zi 0), (2, zi 0)], [zr 2], (zu (zu m 2 3 0) 2 2 (wr (m 2 1)))) _ (And.intro trivial (hT.1 [] 6 (D + 7) 115 _ _ (o4 a2 (Classical.byContradiction a7)))))) (fun a11 => (a11 (z_litT rfl)).elim))))) (fun a10 => (a10 (z_litT rfl)).elim))))))))))))))))))
theorem zb115_0 (hT : zRules T) {D : Nat} {κ : Option zA → zM → Prop} {m : zM}  (hB : zB m) 
    (k1 : 76 < (m 2 1) → zB (zu (zu m 2 3 0) 2 2 76) → T (D + 6) 39 (0, [(0, zr 17), (1, zr 2)], [], (zu (zu m 2 3 0) 2 2 76)) (fun r m1 => T (D + 7) 115 (34, [(0, zr 1)], r.toList ++ [], m1) κ))
    (k2 : ¬ 76 < (m 2 1) → ¬ (m 2 1) = 0 → zB (zu (zu m 2 3 0) 2 2 (m 2 1)) → T (D + 6) 39 (0, [(0, zr 17), (1, zr 2)], [], (zu (zu m 2 3 0) 2 2 (m 2 1))) (fun r m1 => T (D + 7) 115 (34, [(0, zr 1)], r.toList ++ [], m1) κ))
    (k3 : ¬ 76 < (m 2 1) → (m 2 1) = 0 → zB (zu (zu (zu m 2 3 0) 2 2 (m 2 1)) 2 1 0) → κ (some (zi 0)) (zu (zu (zu m 2 3 0) 2 2 (m 2 1)) 2 1 0)) :
    T (D + 7) 115 (0, [(0, zr 1)], [], m) κ := by
  have hb0 : 0 ≤ (m 2 1) ∧ (m 2 1) ≤ 80 := hB 2 1
  have he0 : wr (m 2 1) = (m 2 1) := wr_id (by omega) (by omega)
  have key := @zb115_0r T hT D κ m 
  simp only [he0, Int.toNat_natCast] at key
  exact key
    (fun x0 x1 => k1 x0 (zB_u (zB_u hB (show (-1) ≤ 0 ∧ 0 ≤ 100 from ⟨by omega, by omega⟩)) (show 0 ≤ 76 ∧ 76 ≤ 80 from ⟨by omega, by omega⟩)))
    (fun x0 x1 => by omega)
    (fun x0 x1 => k2 x0 x1 (zB_u (zB_u hB (show (-1) ≤ 0 ∧ 0 ≤ 100 from ⟨by omega, by omega⟩)) (show 0 ≤ (m 2 1) ∧ (m 2 1) ≤ 80 from ⟨by omega, by omega⟩)))
    (fun x0 x1 => k3 x0 x1 (zB_u (zB_u (zB_u hB (show (-1) ≤ 0 ∧ 0 ≤ 100 from ⟨by omega, by omega⟩)) (show 0 ≤ (m 2 1) ∧ (m 2 1) ≤ 80 from ⟨by omega, by omega⟩)) (show 0 ≤ 0 ∧ 0 ≤ 80 from ⟨by omega, by omega⟩)))
theorem zb115_34r (hT : zRules T) {D : Nat} {κ : Option zA → zM → Prop} {m : zM} {v : Int} {lo : zL} (hlo : z_keep [0] lo = [(0, zr 1)]) 
    (o1 : ¬ 0 < wr v → ¬ wr v < 0 → κ (some (zi (wr (wr v)))) (zu m 2 1 0))
    (o2 : ¬ 0 < wr v → wr v < 0 → κ (some (zi (wr (wr ((-1) - (m 2 3)))))) (zu m 2 1 0))
    (o3 : 0 < wr v → ¬ wr v < 0 → κ (some (zi (wr (wr v)))) (zu (zu m 28 5 0) 2 1 0))
    (o4 : 0 < wr v → wr v < 0 → False) :
    T (D + 7) 115 (34, lo, [zi v], m) κ :=
  zkeep hT hlo (hT.1 [] 6 (D + 7) 115 _ κ (And.intro (fun a1 => (hT.1 [] 6 (D + 6) 168 _ _ (And.intro (fun a3 => (hT.1 [] 6 (D + 6) 168 (22, [(0, zr 1), (1, zi v), (2, zi v)], [zr 2], m) _ (And.intro trivial (hT.1 [] 6 (D + 7) 115 _ _ (o1 a1 a3))))) (fun a4 => (hT.1 [] 6 (D + 6) 168 (12, [(0, zr 1), (1, zi v)], [zi (m 2 3), zi (-1)], m) _ (hT.1 [] 6 (D + 6) 168 (23, [(0, zr 1), (1, zi v), (2, zi ((-1) - (m 2 3)))], [zi 0, zr 2], m) _ (And.intro trivial (hT.1 [] 6 (D + 7) 115 _ _ (o2 a1 (Classical.byContradiction a4)))))))))) (fun a2 => (hT.1 [] 6 (D + 6) 20 _ _ (And.intro trivial (hT.1 [] 6 (D + 7) 115 _ _ (hT.1 [] 6 (D + 6) 168 _ _ (And.intro (fun a5 => (hT.1 [] 6 (D + 6) 168 (22, [(0, zr 1), (1, zi v), (2, zi v)], [zr 2], (zu m 28 5 0)) _ (And.intro trivial (hT.1 [] 6 (D + 7) 115 _ _ (o3 (Classical.byContradiction a2) a5))))) (fun a6 => (o4 (Classical.byContradiction a2) (Classical.byContradiction a6)).elim)))))))))
theorem zb115_34 (hT : zRules T) {D : Nat} {κ : Option zA → zM → Prop} {m : zM} {v : Int} {lo : zL} (hlo : z_keep [0] lo = [(0, zr 1)])  (hB : zB m) (h_v : (-1) ≤ v ∧ v ≤ 14) 
    (k1 : ¬ 0 < v → ¬ v < 0 → zB (zu m 2 1 0) → κ (some (zi v)) (zu m 2 1 0))
    (k2 : ¬ 0 < v → v < 0 → zB (zu m 2 1 0) → κ (some (zi ((-1) - (m 2 3)))) (zu m 2 1 0))
    (k3 : 0 < v → zB (zu (zu m 28 5 0) 2 1 0) → κ (some (zi v)) (zu (zu m 28 5 0) 2 1 0)) :
    T (D + 7) 115 (34, lo, [zi v], m) κ := by
  have hb1 : (-1) ≤ (m 2 3) ∧ (m 2 3) ≤ 100 := hB 2 3
  have he0 : wr v = v := wr_id (by omega) (by omega)
  have he1 : wr ((-1) - (m 2 3)) = ((-1) - (m 2 3)) := wr_id (by omega) (by omega)
  have key := @zb115_34r T hT D κ m v lo hlo
  simp only [he0, he1, Int.toNat_natCast] at key
  exact key
    (fun x0 x1 => k1 x0 x1 (zB_u hB (show 0 ≤ 0 ∧ 0 ≤ 80 from ⟨by omega, by omega⟩)))
    (fun x0 x1 => k2 x0 x1 (zB_u hB (show 0 ≤ 0 ∧ 0 ≤ 80 from ⟨by omega, by omega⟩)))
    (fun x0 x1 => k3 x0 (zB_u (zB_u hB (show 0 ≤ 0 ∧ 0 ≤ 12 from ⟨by omega, by omega⟩)) (show 0 ≤ 0 ∧ 0 ≤ 80 from ⟨by omega, by omega⟩)))
    (fun x0 x1 => by omega)
theorem zb39_0r (hT : zRules T) {D : Nat} {κ : Option zA → zM → Prop} {m : zM} 
    (o1 : T (D + 6) 39 (13, [(0, zr 17), (1, zr 2), (2, zi (m 17 0)), (3, zi (m 17 1)), (4, zi 1)], [], m) κ) :
    T (D + 6) 39 (0, [(0, zr 17), (1, zr 2)], [], m) κ :=
  hT.1 [(13, [0, 1, 2, 3, 4])] 6 (D + 6) 39 _ κ (hT.1 [(13, [0, 1, 2, 3, 4])] 6 (D + 6) 39 (10, [(0, zr 17), (1, zr 2), (2, zi (m 17 0)), (3, zi (m 17 1))], [], m) _ (o1))
theorem zb39_0 (hT : zRules T) {D : Nat} {κ : Option zA → zM → Prop} {m : zM}  (hB : zB m) 
    (k1 : T (D + 6) 39 (13, [(0, zr 17), (1, zr 2), (2, zi (m 17 0)), (3, zi (m 17 1)), (4, zi 1)], [], m) κ) :
    T (D + 6) 39 (0, [(0, zr 17), (1, zr 2)], [], m) κ := by
  have hb0 : 0 ≤ (m 17 0) ∧ (m 17 0) ≤ 6 := hB 17 0
  have hb1 : 0 ≤ (m 17 1) ∧ (m 17 1) ≤ 8 := hB 17 1
  exact zb39_0r hT
    k1
theorem zb39_13r (hT : zRules T) {D : Nat} {κ : Option zA → zM → Prop} {m : zM} {p : Nat} {c : Nat} {i : Nat} {lo : zL} (hlo : z_keep [0, 1, 2, 3, 4] lo = [(0, zr 17), (1, zr 2), (2, zi (p : Int)), (3, zi (c : Int)), (4, zi (i : Int))]) 
    (o1 : 14 < wr (i : Int) → κ (some (zi (-1))) m)
    (o2 : ¬ 14 < wr (i : Int) → ¬ wr (p : Int) < 6 → ¬ wr (c : Int) < 8 → κ (some (zi (-1))) m)
    (o3 : ¬ 14 < wr (i : Int) → ¬ wr (p : Int) < 6 → wr (c : Int) < 8 → ∀ j, zbd 3 j (m 3 j))
    (o4 : ¬ 14 < wr (i : Int) → ¬ wr (p : Int) < 6 → wr (c : Int) < 8 → (0 ≤ (m 2 3) ∧ (m 2 3) ≤ 1000))
    (o5 : ¬ 14 < wr (i : Int) → ¬ wr (p : Int) < 6 → wr (c : Int) < 8 → (0 ≤ (m 2 2) ∧ (m 2 2) ≤ 80))
    (o6 : ¬ 14 < wr (i : Int) → ¬ wr (p : Int) < 6 → wr (c : Int) < 8 → wr (nxC m) = 99 → T (D + 5) 41 (0, [(0, zr 17), (1, zr 2), (2, zi (c : Int))], [], (zu m 2 3 ((m 2 3) + 1))) (fun r m1 => T (D + 6) 39 (73, [(0, zr 17), (1, zr 2), (2, zi (p : Int)), (3, zi (c : Int)), (4, zi (i : Int)), (5, zi 0)], r.toList ++ [], m1) κ))
    (o7 : ¬ 14 < wr (i : Int) → ¬ wr (p : Int) < 6 → wr (c : Int) < 8 → ¬ wr (nxC m) = 99 → κ (some (zi (-1))) m)
    (o8 : ¬ 14 < wr (i : Int) → wr (p : Int) < 6 → ∀ j, zbd 3 j (m 3 j))
    (o9 : ¬ 14 < wr (i : Int) → wr (p : Int) < 6 → (0 ≤ (m 2 3) ∧ (m 2 3) ≤ 1000))
    (o10 : ¬ 14 < wr (i : Int) → wr (p : Int) < 6 → (0 ≤ (m 2 2) ∧ (m 2 2) ≤ 80))
    (o11 : ¬ 14 < wr (i : Int) → wr (p : Int) < 6 → wr (nxC m) = 112 → T (D + 5) 40 (0, [(0, zr 17), (1, zr 2), (2, zi (p : Int))], [], (zu m 2 3 ((m 2 3) + 1))) (fun r m1 => T (D + 6) 39 (44, [(0, zr 17), (1, zr 2), (2, zi (p : Int)), (3, zi (c : Int)), (4, zi (i : Int)), (5, zi 0)], r.toList ++ [], m1) κ))
    (o12 : ¬ 14 < wr (i : Int) → wr (p : Int) < 6 → ¬ wr (nxC m) = 112 → ¬ wr (c : Int) < 8 → κ (some (zi (-1))) m)
    (o13 : ¬ 14 < wr (i : Int) → wr (p : Int) < 6 → ¬ wr (nxC m) = 112 → wr (c : Int) < 8 → ∀ j, zbd 3 j (m 3 j))
    (o14 : ¬ 14 < wr (i : Int) → wr (p : Int) < 6 → ¬ wr (nxC m) = 112 → wr (c : Int) < 8 → (0 ≤ (m 2 3) ∧ (m 2 3) ≤ 1000))
    (o15 : ¬ 14 < wr (i : Int) → wr (p : Int) < 6 → ¬ wr (nxC m) = 112 → wr (c : Int) < 8 → (0 ≤ (m 2 2) ∧ (m 2 2) ≤ 80))
    (o16 : ¬ 14 < wr (i : Int) → wr (p : Int) < 6 → ¬ wr (nxC m) = 112 → wr (c : Int) < 8 → wr (nxC m) = 99 → T (D + 5) 41 (0, [(0, zr 17), (1, zr 2), (2, zi (c : Int))], [], (zu m 2 3 ((m 2 3) + 1))) (fun r m1 => T (D + 6) 39 (73, [(0, zr 17), (1, zr 2), (2, zi (p : Int)), (3, zi (c : Int)), (4, zi (i : Int)), (5, zi 0)], r.toList ++ [], m1) κ))
    (o17 : ¬ 14 < wr (i : Int) → wr (p : Int) < 6 → ¬ wr (nxC m) = 112 → wr (c : Int) < 8 → ¬ wr (nxC m) = 99 → κ (some (zi (-1))) m) :
    T (D + 6) 39 (13, lo, [], m) κ :=
  zkeep hT hlo (hT.1 [(13, [0, 1, 2, 3, 4])] 6 (D + 6) 39 _ κ (And.intro (fun a1 => (o1 a1)) (fun a2 => (hT.1 [(13, [0, 1, 2, 3, 4])] 6 (D + 6) 39 (24, [(0, zr 17), (1, zr 2), (2, zi (p : Int)), (3, zi (c : Int)), (4, zi (i : Int)), (5, zi 0)], [zi (p : Int)], m) _ (And.intro (fun a3 => (And.intro (fun a5 => (hT.1 [(13, [0, 1, 2, 3, 4])] 6 (D + 6) 39 (80, [(0, zr 17), (1, zr 2), (2, zi (p : Int)), (3, zi (c : Int)), (4, zi (i : Int)), (5, zi 0)], [zi 0], m) _ (And.intro (fun _ => (And.intro (fun _ => (o2 a2 a3 a5)) (fun a8 => (a8 (z_litT rfl)).elim))) (fun a7 => (a7 (z_litT rfl)).elim)))) (fun a6 => (hT.1 [(13, [0, 1, 2, 3, 4])] 6 (D + 6) 39 (59, [(0, zr 17), (1, zr 2), (2, zi (p : Int)), (3, zi (c : Int)), (4, zi (i : Int)), (5, zi 0)], [zr 2], m) _ (hT.1 [] 6 (D + 5) 70 _ _ (z_next hT (o3 a2 a3 (Classical.byContradiction a6)) (o4 a2 a3 (Classical.byContradiction a6)) (o5 a2 a3 (Classical.byContradiction a6)) (hT.1 [] 6 (D + 5) 70 _ _ (And.intro (fun a9 => (hT.1 [] 6 (D + 5) 70 (16, [(0, zr 2), (1, zi 99)], [zi 1, zi (m 2 3), zr 2], m) _ (And.intro trivial (And.intro (z_b01L rfl) (hT.1 [(13, [0, 1, 2, 3, 4])] 6 (D + 6) 39 _ _ (And.intro (fun a11 => (z_litF a11 rfl).elim) (fun _ => (o6 a2 a3 (Classical.byContradiction a6) a9)))))))) (fun a10 => (And.intro (z_b01L rfl) (hT.1 [(13, [0, 1, 2, 3, 4])] 6 (D + 6) 39 _ _ (And.intro (fun _ => (And.intro (fun _ => (And.intro (fun _ => (hT.1 [(13, [0, 1, 2, 3, 4])] 6 (D + 6) 39 (118, [(0, zr 17), (1, zr 2), (2, zi (p : Int)), (3, zi (c : Int)), (4, zi (i : Int)), (5, zi 0)], [zi (-1)], m) _ (o7 a2 a3 (Classical.byContradiction a6) a10))) (fun a14 => (a14 (z_litT rfl)).elim))) (fun a13 => (a13 (z_litT rfl)).elim))) (fun a12 => (a12 (z_litT rfl)).elim))))))))))))) (fun a4 => (hT.1 [] 6 (D + 5) 70 _ _ (z_next hT (o8 a2 (Classical.byContradiction a4)) (o9 a2 (Classical.byContradiction a4)) (o10 a2 (Classical.byContradiction a4)) (hT.1 [] 6 (D + 5) 70 _ _ (And.intro (fun a15 => (hT.1 [] 6 (D + 5) 70 (16, [(0, zr 2), (1, zi 112)], [zi 1, zi (m 2 3), zr 2], m) _ (And.intro trivial (And.intro (z_b01L rfl) (hT.1 [(13, [0, 1, 2, 3, 4])] 6 (D + 6) 39 _ _ (And.intro (fun a17 => (z_litF a17 rfl).elim) (fun _ => (o11 a2 (Classical.byContradiction a4) a15)))))))) (fun a16 => (And.intro (z_b01L rfl) (hT.1 [(13, [0, 1, 2, 3, 4])] 6 (D + 6) 39 _ _ (And.intro (fun _ => (And.intro (fun a19 => (And.intro (fun _ => (hT.1 [(13, [0, 1, 2, 3, 4])] 6 (D + 6) 39 (103, [(0, zr 17), (1, zr 2), (2, zi (p : Int)), (3, zi (c : Int)), (4, zi (i : Int)), (5, zi 0)], [], m) _ (And.intro (fun _ => (o12 a2 (Classical.byContradiction a4) a16 a19)) (fun a22 => (a22 (z_litT rfl)).elim)))) (fun a21 => (a21 (z_litT rfl)).elim))) (fun a20 => (hT.1 [(13, [0, 1, 2, 3, 4])] 6 (D + 6) 39 (61, [(0, zr 17), (1, zr 2), (2, zi (p : Int)), (3, zi (c : Int)), (4, zi (i : Int)), (5, zi 0)], [zi 99, zr 2], m) _ (hT.1 [] 6 (D + 5) 70 _ _ (z_next hT (o13 a2 (Classical.byContradiction a4) a16 (Classical.byContradiction a20)) (o14 a2 (Classical.byContradiction a4) a16 (Classical.byContradiction a20)) (o15 a2 (Classical.byContradiction a4) a16 (Classical.byContradiction a20)) (hT.1 [] 6 (D + 5) 70 _ _ (And.intro (fun a23 => (hT.1 [] 6 (D + 5) 70 (16, [(0, zr 2), (1, zi 99)], [zi 1, zi (m 2 3), zr 2], m) _ (And.intro trivial (And.intro (z_b01L rfl) (hT.1 [(13, [0, 1, 2, 3, 4])] 6 (D + 6) 39 _ _ (And.intro (fun a25 => (z_litF a25 rfl).elim) (fun _ => (o16 a2 (Classical.byContradiction a4) a16 (Classical.byContradiction a20) a23)))))))) (fun a24 => (And.intro (z_b01L rfl) (hT.1 [(13, [0, 1, 2, 3, 4])] 6 (D + 6) 39 _ _ (And.intro (fun _ => (And.intro (fun _ => (And.intro (fun _ => (hT.1 [(13, [0, 1, 2, 3, 4])] 6 (D + 6) 39 (118, [(0, zr 17), (1, zr 2), (2, zi (p : Int)), (3, zi (c : Int)), (4, zi (i : Int)), (5, zi 0)], [zi (-1)], m) _ (o17 a2 (Classical.byContradiction a4) a16 (Classical.byContradiction a20) a24))) (fun a28 => (a28 (z_litT rfl)).elim))) (fun a27 => (a27 (z_litT rfl)).elim))) (fun a26 => (a26 (z_litT rfl)).elim))))))))))))) (fun a18 => (a18 (z_litT rfl)).elim)))))))))))))))
theorem zb39_13 (hT : zRules T) {D : Nat} {κ : Option zA → zM → Prop} {m : zM} {p : Nat} {c : Nat} {i : Nat} {lo : zL} (hlo : z_keep [0, 1, 2, 3, 4] lo = [(0, zr 17), (1, zr 2), (2, zi (p : Int)), (3, zi (c : Int)), (4, zi (i : Int))])  (hB : zB m) (h_p : p ≤ 6) (h_c : c ≤ 8) (h_i : i ≤ 15) (hf0 : 0 ≤ m 2 3 ∧ m 2 3 ≤ 80) 
    (k1 : 14 < (i : Int) → κ (some (zi (-1))) m)
    (k2 : ¬ 14 < (i : Int) → ¬ (p : Int) < 6 → ¬ (c : Int) < 8 → κ (some (zi (-1))) m)
    (k3 : ¬ 14 < (i : Int) → ¬ (p : Int) < 6 → (c : Int) < 8 → (nxC m) = 99 → zB (zu m 2 3 ((m 2 3) + 1)) → T (D + 5) 41 (0, [(0, zr 17), (1, zr 2), (2, zi (c : Int))], [], (zu m 2 3 ((m 2 3) + 1))) (fun r m1 => T (D + 6) 39 (73, [(0, zr 17), (1, zr 2), (2, zi (p : Int)), (3, zi (c : Int)), (4, zi (i : Int)), (5, zi 0)], r.toList ++ [], m1) κ))
    (k4 : ¬ 14 < (i : Int) → ¬ (p : Int) < 6 → (c : Int) < 8 → ¬ (nxC m) = 99 → κ (some (zi (-1))) m)
    (k5 : ¬ 14 < (i : Int) → (p : Int) < 6 → (nxC m) = 112 → zB (zu m 2 3 ((m 2 3) + 1)) → T (D + 5) 40 (0, [(0, zr 17), (1, zr 2), (2, zi (p : Int))], [], (zu m 2 3 ((m 2 3) + 1))) (fun r m1 => T (D + 6) 39 (44, [(0, zr 17), (1, zr 2), (2, zi (p : Int)), (3, zi (c : Int)), (4, zi (i : Int)), (5, zi 0)], r.toList ++ [], m1) κ))
    (k6 : ¬ 14 < (i : Int) → (p : Int) < 6 → ¬ (nxC m) = 112 → ¬ (c : Int) < 8 → κ (some (zi (-1))) m)
    (k7 : ¬ 14 < (i : Int) → (p : Int) < 6 → ¬ (nxC m) = 112 → (c : Int) < 8 → (nxC m) = 99 → zB (zu m 2 3 ((m 2 3) + 1)) → T (D + 5) 41 (0, [(0, zr 17), (1, zr 2), (2, zi (c : Int))], [], (zu m 2 3 ((m 2 3) + 1))) (fun r m1 => T (D + 6) 39 (73, [(0, zr 17), (1, zr 2), (2, zi (p : Int)), (3, zi (c : Int)), (4, zi (i : Int)), (5, zi 0)], r.toList ++ [], m1) κ))
    (k8 : ¬ 14 < (i : Int) → (p : Int) < 6 → ¬ (nxC m) = 112 → (c : Int) < 8 → ¬ (nxC m) = 99 → κ (some (zi (-1))) m) :
    T (D + 6) 39 (13, lo, [], m) κ := by
  have hb4 : 0 ≤ (m 2 2) ∧ (m 2 2) ≤ 80 := hB 2 2
  have hb5 : (-1) ≤ (nxC m) ∧ (nxC m) ≤ 65535 := nxCBo m (fun j => hB 3 j)
  have he0 : wr (i : Int) = (i : Int) := wr_id (by omega) (by omega)
  have he1 : wr (p : Int) = (p : Int) := wr_id (by omega) (by omega)
  have he2 : wr (nxC m) = (nxC m) := wr_id (by omega) (by omega)
  have he3 : wr (c : Int) = (c : Int) := wr_id (by omega) (by omega)
  have key := @zb39_13r T hT D κ m p c i lo hlo
  simp only [he0, he1, he2, he3, Int.toNat_natCast] at key
  exact key
    k1
    k2
    (fun x0 x1 x2 => fun j => hB 3 j)
    (fun x0 x1 x2 => by refine ⟨?_, ?_⟩ <;> omega)
    (fun x0 x1 x2 => by refine ⟨?_, ?_⟩ <;> omega)
    (fun x0 x1 x2 x3 => k3 x0 x1 x2 x3 (zB_u hB (show (-1) ≤ ((m 2 3) + 1) ∧ ((m 2 3) + 1) ≤ 100 from ⟨by omega, by omega⟩)))
    k4
    (fun x0 x1 => fun j => hB 3 j)
    (fun x0 x1 => by refine ⟨?_, ?_⟩ <;> omega)
    (fun x0 x1 => by refine ⟨?_, ?_⟩ <;> omega)
    (fun x0 x1 x2 => k5 x0 x1 x2 (zB_u hB (show (-1) ≤ ((m 2 3) + 1) ∧ ((m 2 3) + 1) ≤ 100 from ⟨by omega, by omega⟩)))
    k6
    (fun x0 x1 x2 x3 => fun j => hB 3 j)
    (fun x0 x1 x2 x3 => by refine ⟨?_, ?_⟩ <;> omega)
    (fun x0 x1 x2 x3 => by refine ⟨?_, ?_⟩ <;> omega)
    (fun x0 x1 x2 x3 x4 => k7 x0 x1 x2 x3 x4 (zB_u hB (show (-1) ≤ ((m 2 3) + 1) ∧ ((m 2 3) + 1) ≤ 100 from ⟨by omega, by omega⟩)))
    k8
theorem zb39_44r (hT : zRules T) {D : Nat} {κ : Option zA → zM → Prop} {m : zM} {p : Nat} {c : Nat} {i : Nat} {v : Int} {lo : zL} (hlo : z_keep [0, 1, 2, 3, 4] lo = [(0, zr 17), (1, zr 2), (2, zi (p : Int)), (3, zi (c : Int)), (4, zi (i : Int))]) 
    (o1 : wr v = 0 → wr v = 0 → κ (some (zi (-1))) m)
    (o2 : wr v = 0 → ¬ wr v = 0 → False)
    (o3 : ¬ wr v = 0 → ¬ wr (m 2 3) = wr (m 2 1) → wr v = 0 → False)
    (o4 : ¬ wr v = 0 → ¬ wr (m 2 3) = wr (m 2 1) → ¬ wr v = 0 → ∀ j, zbd 3 j (m 3 j))
    (o5 : ¬ wr v = 0 → ¬ wr (m 2 3) = wr (m 2 1) → ¬ wr v = 0 → (0 ≤ (m 2 3) ∧ (m 2 3) ≤ 1000))
    (o6 : ¬ wr v = 0 → ¬ wr (m 2 3) = wr (m 2 1) → ¬ wr v = 0 → (0 ≤ (m 2 2) ∧ (m 2 2) ≤ 80))
    (o7 : ¬ wr v = 0 → ¬ wr (m 2 3) = wr (m 2 1) → ¬ wr v = 0 → wr (nxC m) = 59 → T (D + 6) 39 (13, [(0, zr 17), (1, zr 2), (2, zi ((p : Int) + 1)), (3, zi (c : Int)), (4, zi ((i : Int) + 1))], [], (zu m 2 3 ((m 2 3) + 1))) κ)
    (o8 : ¬ wr v = 0 → ¬ wr (m 2 3) = wr (m 2 1) → ¬ wr v = 0 → ¬ wr (nxC m) = 59 → κ (some (zi (-1))) m)
    (o9 : ¬ wr v = 0 → wr (m 2 3) = wr (m 2 1) → κ (some (zi (wr (i : Int)))) (zu (zu m 17 0 ((p : Int) + 1)) 17 1 (c : Int))) :
    T (D + 6) 39 (44, lo, [zi v], m) κ :=
  zkeep hT hlo (hT.1 [(13, [0, 1, 2, 3, 4])] 6 (D + 6) 39 _ κ (And.intro (fun a1 => (hT.1 [(13, [0, 1, 2, 3, 4])] 6 (D + 6) 39 (105, [(0, zr 17), (1, zr 2), (2, zi ((p : Int) + 1)), (3, zi (c : Int)), (4, zi (i : Int)), (5, zi v)], [zi v], m) _ (And.intro (fun a3 => (o1 a1 a3)) (fun a4 => (o2 a1 a4).elim)))) (fun a2 => (hT.1 [(13, [0, 1, 2, 3, 4])] 6 (D + 6) 39 (84, [(0, zr 17), (1, zr 2), (2, zi ((p : Int) + 1)), (3, zi (c : Int)), (4, zi (i : Int)), (5, zi v)], [zr 2], m) _ (hT.1 [] 6 (D + 5) 68 _ _ (And.intro (fun a5 => (hT.1 [] 6 (D + 5) 68 (16, [(0, zr 2)], [zi 0], m) _ (And.intro (z_b01L rfl) (hT.1 [(13, [0, 1, 2, 3, 4])] 6 (D + 6) 39 _ _ (And.intro (fun _ => (And.intro (fun a8 => (o3 a2 a5 a8).elim) (fun a9 => (hT.1 [] 6 (D + 5) 70 _ _ (z_next hT (o4 a2 a5 a9) (o5 a2 a5 a9) (o6 a2 a5 a9) (hT.1 [] 6 (D + 5) 70 _ _ (And.intro (fun a10 => (hT.1 [] 6 (D + 5) 70 (16, [(0, zr 2), (1, zi 59)], [zi 1, zi (m 2 3), zr 2], m) _ (And.intro trivial (And.intro (z_b01L rfl) (hT.1 [(13, [0, 1, 2, 3, 4])] 6 (D + 6) 39 _ _ (And.intro (fun _ => (o7 a2 a5 a9 a10)) (fun a12 => (a12 (z_litT rfl)).elim))))))) (fun a11 => (And.intro (z_b01L rfl) (hT.1 [(13, [0, 1, 2, 3, 4])] 6 (D + 6) 39 _ _ (And.intro (fun a13 => (z_litF a13 rfl).elim) (fun _ => (o8 a2 a5 a9 a11))))))))))))) (fun a7 => (a7 (z_litT rfl)).elim)))))) (fun a6 => (hT.1 [] 6 (D + 5) 68 (12, [(0, zr 2)], [zi 1], m) _ (And.intro (z_b01L rfl) (hT.1 [(13, [0, 1, 2, 3, 4])] 6 (D + 6) 39 _ _ (And.intro (fun a14 => (z_litF a14 rfl).elim) (fun _ => (And.intro trivial (hT.1 [(13, [0, 1, 2, 3, 4])] 6 (D + 6) 39 (97, [(0, zr 17), (1, zr 2), (2, zi ((p : Int) + 1)), (3, zi (c : Int)), (4, zi (i : Int)), (5, zi v)], [zi (c : Int), zr 17], (zu m 17 0 ((p : Int) + 1))) _ (And.intro trivial (o9 a2 (Classical.byContradiction a6)))))))))))))))))
theorem zb39_44 (hT : zRules T) {D : Nat} {κ : Option zA → zM → Prop} {m : zM} {p : Nat} {c : Nat} {i : Nat} {v : Int} {lo : zL} (hlo : z_keep [0, 1, 2, 3, 4] lo = [(0, zr 17), (1, zr 2), (2, zi (p : Int)), (3, zi (c : Int)), (4, zi (i : Int))])  (hB : zB m) (h_p : p ≤ 5) (h_c : c ≤ 8) (h_i : i ≤ 14) (h_v : 0 ≤ v ∧ v ≤ 1) (hf0 : 0 ≤ m 2 3 ∧ m 2 3 ≤ 90) 
    (k1 : v = 0 → κ (some (zi (-1))) m)
    (k2 : ¬ v = 0 → ¬ (m 2 3) = (m 2 1) → (nxC m) = 59 → zB (zu m 2 3 ((m 2 3) + 1)) → T (D + 6) 39 (13, [(0, zr 17), (1, zr 2), (2, zi ((p : Int) + 1)), (3, zi (c : Int)), (4, zi ((i : Int) + 1))], [], (zu m 2 3 ((m 2 3) + 1))) κ)
    (k3 : ¬ v = 0 → ¬ (m 2 3) = (m 2 1) → ¬ (nxC m) = 59 → κ (some (zi (-1))) m)
    (k4 : ¬ v = 0 → (m 2 3) = (m 2 1) → zB (zu (zu m 17 0 ((p : Int) + 1)) 17 1 (c : Int)) → κ (some (zi (i : Int))) (zu (zu m 17 0 ((p : Int) + 1)) 17 1 (c : Int))) :
    T (D + 6) 39 (44, lo, [zi v], m) κ := by
  have hb5 : 0 ≤ (m 2 1) ∧ (m 2 1) ≤ 80 := hB 2 1
  have hb6 : 0 ≤ (m 2 2) ∧ (m 2 2) ≤ 80 := hB 2 2
  have hb7 : (-1) ≤ (nxC m) ∧ (nxC m) ≤ 65535 := nxCBo m (fun j => hB 3 j)
  have he0 : wr v = v := wr_id (by omega) (by omega)
  have he1 : wr (m 2 3) = (m 2 3) := wr_id (by omega) (by omega)
  have he2 : wr (m 2 1) = (m 2 1) := wr_id (by omega) (by omega)
  have he3 : wr (i : Int) = (i : Int) := wr_id (by omega) (by omega)
  have he4 : wr (nxC m) = (nxC m) := wr_id (by omega) (by omega)
  have key := @zb39_44r T hT D κ m p c i v lo hlo
  simp only [he0, he1, he2, he3, he4, Int.toNat_natCast] at key
  exact key
    (fun x0 x1 => k1 x0)
    (fun x0 x1 => by omega)
    (fun x0 x1 x2 => by omega)
    (fun x0 x1 x2 => fun j => hB 3 j)
    (fun x0 x1 x2 => by refine ⟨?_, ?_⟩ <;> omega)
    (fun x0 x1 x2 => by refine ⟨?_, ?_⟩ <;> omega)
    (fun x0 x1 x2 x3 => k2 x0 x1 x3 (zB_u hB (show (-1) ≤ ((m 2 3) + 1) ∧ ((m 2 3) + 1) ≤ 100 from ⟨by omega, by omega⟩)))
    (fun x0 x1 x2 x3 => k3 x0 x1 x3)
    (fun x0 x1 => k4 x0 x1 (zB_u (zB_u hB (show 0 ≤ ((p : Int) + 1) ∧ ((p : Int) + 1) ≤ 6 from ⟨by omega, by omega⟩)) (show 0 ≤ (c : Int) ∧ (c : Int) ≤ 8 from ⟨by omega, by omega⟩)))
theorem zb39_73r (hT : zRules T) {D : Nat} {κ : Option zA → zM → Prop} {m : zM} {p : Nat} {c : Nat} {i : Nat} {v : Int} {lo : zL} (hlo : z_keep [0, 1, 2, 3, 4] lo = [(0, zr 17), (1, zr 2), (2, zi (p : Int)), (3, zi (c : Int)), (4, zi (i : Int))]) 
    (o1 : wr v = 0 → wr v = 0 → κ (some (zi (-1))) m)
    (o2 : wr v = 0 → ¬ wr v = 0 → False)
    (o3 : ¬ wr v = 0 → ¬ wr (m 2 3) = wr (m 2 1) → wr v = 0 → False)
    (o4 : ¬ wr v = 0 → ¬ wr (m 2 3) = wr (m 2 1) → ¬ wr v = 0 → ∀ j, zbd 3 j (m 3 j))
    (o5 : ¬ wr v = 0 → ¬ wr (m 2 3) = wr (m 2 1) → ¬ wr v = 0 → (0 ≤ (m 2 3) ∧ (m 2 3) ≤ 1000))
    (o6 : ¬ wr v = 0 → ¬ wr (m 2 3) = wr (m 2 1) → ¬ wr v = 0 → (0 ≤ (m 2 2) ∧ (m 2 2) ≤ 80))
    (o7 : ¬ wr v = 0 → ¬ wr (m 2 3) = wr (m 2 1) → ¬ wr v = 0 → wr (nxC m) = 59 → T (D + 6) 39 (13, [(0, zr 17), (1, zr 2), (2, zi (p : Int)), (3, zi ((c : Int) + 1)), (4, zi ((i : Int) + 1))], [], (zu m 2 3 ((m 2 3) + 1))) κ)
    (o8 : ¬ wr v = 0 → ¬ wr (m 2 3) = wr (m 2 1) → ¬ wr v = 0 → ¬ wr (nxC m) = 59 → κ (some (zi (-1))) m)
    (o9 : ¬ wr v = 0 → wr (m 2 3) = wr (m 2 1) → κ (some (zi (wr (i : Int)))) (zu (zu m 17 0 (p : Int)) 17 1 ((c : Int) + 1))) :
    T (D + 6) 39 (73, lo, [zi v], m) κ :=
  zkeep hT hlo (hT.1 [(13, [0, 1, 2, 3, 4])] 6 (D + 6) 39 _ κ (And.intro (fun a1 => (And.intro (fun a3 => (hT.1 [(13, [0, 1, 2, 3, 4])] 6 (D + 6) 39 (117, [(0, zr 17), (1, zr 2), (2, zi (p : Int)), (3, zi ((c : Int) + 1)), (4, zi (i : Int)), (5, zi v)], [], m) _ (o1 a1 a3))) (fun a4 => (o2 a1 a4).elim))) (fun a2 => (hT.1 [] 6 (D + 5) 68 _ _ (And.intro (fun a5 => (hT.1 [] 6 (D + 5) 68 (16, [(0, zr 2)], [zi 0], m) _ (And.intro (z_b01L rfl) (hT.1 [(13, [0, 1, 2, 3, 4])] 6 (D + 6) 39 _ _ (And.intro (fun _ => (And.intro (fun a8 => (o3 a2 a5 a8).elim) (fun a9 => (hT.1 [] 6 (D + 5) 70 _ _ (z_next hT (o4 a2 a5 a9) (o5 a2 a5 a9) (o6 a2 a5 a9) (hT.1 [] 6 (D + 5) 70 _ _ (And.intro (fun a10 => (hT.1 [] 6 (D + 5) 70 (16, [(0, zr 2), (1, zi 59)], [zi 1, zi (m 2 3), zr 2], m) _ (And.intro trivial (And.intro (z_b01L rfl) (hT.1 [(13, [0, 1, 2, 3, 4])] 6 (D + 6) 39 _ _ (And.intro (fun _ => (o7 a2 a5 a9 a10)) (fun a12 => (a12 (z_litT rfl)).elim))))))) (fun a11 => (And.intro (z_b01L rfl) (hT.1 [(13, [0, 1, 2, 3, 4])] 6 (D + 6) 39 _ _ (And.intro (fun a13 => (z_litF a13 rfl).elim) (fun _ => (o8 a2 a5 a9 a11))))))))))))) (fun a7 => (a7 (z_litT rfl)).elim)))))) (fun a6 => (hT.1 [] 6 (D + 5) 68 (12, [(0, zr 2)], [zi 1], m) _ (And.intro (z_b01L rfl) (hT.1 [(13, [0, 1, 2, 3, 4])] 6 (D + 6) 39 _ _ (And.intro (fun a14 => (z_litF a14 rfl).elim) (fun _ => (And.intro trivial (hT.1 [(13, [0, 1, 2, 3, 4])] 6 (D + 6) 39 (97, [(0, zr 17), (1, zr 2), (2, zi (p : Int)), (3, zi ((c : Int) + 1)), (4, zi (i : Int)), (5, zi v)], [zi ((c : Int) + 1), zr 17], (zu m 17 0 (p : Int))) _ (And.intro trivial (o9 a2 (Classical.byContradiction a6))))))))))))))))
theorem zb39_73 (hT : zRules T) {D : Nat} {κ : Option zA → zM → Prop} {m : zM} {p : Nat} {c : Nat} {i : Nat} {v : Int} {lo : zL} (hlo : z_keep [0, 1, 2, 3, 4] lo = [(0, zr 17), (1, zr 2), (2, zi (p : Int)), (3, zi (c : Int)), (4, zi (i : Int))])  (hB : zB m) (h_p : p ≤ 6) (h_c : c ≤ 7) (h_i : i ≤ 14) (h_v : 0 ≤ v ∧ v ≤ 1) (hf0 : 0 ≤ m 2 3 ∧ m 2 3 ≤ 90) 
    (k1 : v = 0 → κ (some (zi (-1))) m)
    (k2 : ¬ v = 0 → ¬ (m 2 3) = (m 2 1) → (nxC m) = 59 → zB (zu m 2 3 ((m 2 3) + 1)) → T (D + 6) 39 (13, [(0, zr 17), (1, zr 2), (2, zi (p : Int)), (3, zi ((c : Int) + 1)), (4, zi ((i : Int) + 1))], [], (zu m 2 3 ((m 2 3) + 1))) κ)
    (k3 : ¬ v = 0 → ¬ (m 2 3) = (m 2 1) → ¬ (nxC m) = 59 → κ (some (zi (-1))) m)
    (k4 : ¬ v = 0 → (m 2 3) = (m 2 1) → zB (zu (zu m 17 0 (p : Int)) 17 1 ((c : Int) + 1)) → κ (some (zi (i : Int))) (zu (zu m 17 0 (p : Int)) 17 1 ((c : Int) + 1))) :
    T (D + 6) 39 (73, lo, [zi v], m) κ := by
  have hb5 : 0 ≤ (m 2 1) ∧ (m 2 1) ≤ 80 := hB 2 1
  have hb6 : 0 ≤ (m 2 2) ∧ (m 2 2) ≤ 80 := hB 2 2
  have hb7 : (-1) ≤ (nxC m) ∧ (nxC m) ≤ 65535 := nxCBo m (fun j => hB 3 j)
  have he0 : wr v = v := wr_id (by omega) (by omega)
  have he1 : wr (m 2 3) = (m 2 3) := wr_id (by omega) (by omega)
  have he2 : wr (m 2 1) = (m 2 1) := wr_id (by omega) (by omega)
  have he3 : wr (i : Int) = (i : Int) := wr_id (by omega) (by omega)
  have he4 : wr (nxC m) = (nxC m) := wr_id (by omega) (by omega)
  have key := @zb39_73r T hT D κ m p c i v lo hlo
  simp only [he0, he1, he2, he3, he4, Int.toNat_natCast] at key
  exact key
    (fun x0 x1 => k1 x0)
    (fun x0 x1 => by omega)
    (fun x0 x1 x2 => by omega)
    (fun x0 x1 x2 => fun j => hB 3 j)
    (fun x0 x1 x2 => by refine ⟨?_, ?_⟩ <;> omega)
    (fun x0 x1 x2 => by refine ⟨?_, ?_⟩ <;> omega)
    (fun x0 x1 x2 x3 => k2 x0 x1 x3 (zB_u hB (show (-1) ≤ ((m 2 3) + 1) ∧ ((m 2 3) + 1) ≤ 100 from ⟨by omega, by omega⟩)))
    (fun x0 x1 x2 x3 => k3 x0 x1 x3)
    (fun x0 x1 => k4 x0 x1 (zB_u (zB_u hB (show 0 ≤ (p : Int) ∧ (p : Int) ≤ 6 from ⟨by omega, by omega⟩)) (show 0 ≤ ((c : Int) + 1) ∧ ((c : Int) + 1) ≤ 8 from ⟨by omega, by omega⟩)))
theorem zb39_44br (hT : zRules T) {D : Nat} {κ : Option zA → zM → Prop} {m : zM} {p : Nat} {c : Nat} {i : Nat} {lo : zL} (hlo : z_keep [0, 1, 2, 3, 4] lo = [(0, zr 17), (1, zr 2), (2, zi (p : Int)), (3, zi (c : Int)), (4, zi (i : Int))]) 
    (o1 : κ (some (zi (-1))) m) :
    T (D + 6) 39 (44, lo, [zi 0], m) κ :=
  zkeep hT hlo (hT.1 [(13, [0, 1, 2, 3, 4])] 6 (D + 6) 39 _ κ (And.intro (fun _ => (hT.1 [(13, [0, 1, 2, 3, 4])] 6 (D + 6) 39 (105, [(0, zr 17), (1, zr 2), (2, zi ((p : Int) + 1)), (3, zi (c : Int)), (4, zi (i : Int)), (5, zi 0)], [zi 0], m) _ (And.intro (fun _ => (o1)) (fun a2 => (a2 (z_litT rfl)).elim)))) (fun a1 => (a1 (z_litT rfl)).elim)))
theorem zb39_44b (hT : zRules T) {D : Nat} {κ : Option zA → zM → Prop} {m : zM} {p : Nat} {c : Nat} {i : Nat} {lo : zL} (hlo : z_keep [0, 1, 2, 3, 4] lo = [(0, zr 17), (1, zr 2), (2, zi (p : Int)), (3, zi (c : Int)), (4, zi (i : Int))])  (hB : zB m) (h_p : p ≤ 5) (h_c : c ≤ 8) (h_i : i ≤ 14) 
    (k1 : κ (some (zi (-1))) m) :
    T (D + 6) 39 (44, lo, [zi 0], m) κ := by
  exact zb39_44br hT hlo
    k1
theorem zb39_73br (hT : zRules T) {D : Nat} {κ : Option zA → zM → Prop} {m : zM} {p : Nat} {c : Nat} {i : Nat} {lo : zL} (hlo : z_keep [0, 1, 2, 3, 4] lo = [(0, zr 17), (1, zr 2), (2, zi (p : Int)), (3, zi (c : Int)), (4, zi (i : Int))]) 
    (o1 : κ (some (zi (-1))) m) :
    T (D + 6) 39 (73, lo, [zi 0], m) κ :=
  zkeep hT hlo (hT.1 [(13, [0, 1, 2, 3, 4])] 6 (D + 6) 39 _ κ (And.intro (fun _ => (And.intro (fun _ => (hT.1 [(13, [0, 1, 2, 3, 4])] 6 (D + 6) 39 (117, [(0, zr 17), (1, zr 2), (2, zi (p : Int)), (3, zi ((c : Int) + 1)), (4, zi (i : Int)), (5, zi 0)], [], m) _ (o1))) (fun a2 => (a2 (z_litT rfl)).elim))) (fun a1 => (a1 (z_litT rfl)).elim)))
theorem zb39_73b (hT : zRules T) {D : Nat} {κ : Option zA → zM → Prop} {m : zM} {p : Nat} {c : Nat} {i : Nat} {lo : zL} (hlo : z_keep [0, 1, 2, 3, 4] lo = [(0, zr 17), (1, zr 2), (2, zi (p : Int)), (3, zi (c : Int)), (4, zi (i : Int))])  (hB : zB m) (h_p : p ≤ 6) (h_c : c ≤ 7) (h_i : i ≤ 14) 
    (k1 : κ (some (zi (-1))) m) :
    T (D + 6) 39 (73, lo, [zi 0], m) κ := by
  exact zb39_73br hT hlo
    k1
theorem zb40_0r (hT : zRules T) {D : Nat} {κ : Option zA → zM → Prop} {m : zM} {p : Nat} 
    (o1 : T (D + 3) 72 (0, [(0, zr 2), (1, zi 2)], [], m) (fun r m1 => T (D + 4) 40 (15, [(0, zr 17), (1, zr 2), (2, zi (p : Int)), (3, zi (m 2 3))], r.toList ++ [zi (p : Int), zr 18], m1) κ)) :
    T (D + 4) 40 (0, [(0, zr 17), (1, zr 2), (2, zi (p : Int))], [], m) κ :=
  hT.1 [] 6 (D + 4) 40 _ κ (hT.1 [] 6 (D + 4) 40 (10, [(0, zr 17), (1, zr 2), (2, zi (p : Int)), (3, zi (m 2 3))], [zi (p : Int), zr 18], m) _ (o1))
theorem zb40_0 (hT : zRules T) {D : Nat} {κ : Option zA → zM → Prop} {m : zM} {p : Nat}  (hB : zB m) (h_p : p ≤ 5) (hf0 : 0 ≤ m 2 3 ∧ m 2 3 ≤ 90) 
    (k1 : T (D + 3) 72 (0, [(0, zr 2), (1, zi 2)], [], m) (fun r m1 => T (D + 4) 40 (15, [(0, zr 17), (1, zr 2), (2, zi (p : Int)), (3, zi (m 2 3))], r.toList ++ [zi (p : Int), zr 18], m1) κ)) :
    T (D + 4) 40 (0, [(0, zr 17), (1, zr 2), (2, zi (p : Int))], [], m) κ := by
  exact zb40_0r hT
    k1
theorem zb40_15r (hT : zRules T) {D : Nat} {κ : Option zA → zM → Prop} {m : zM} {p : Nat} {f : Nat} {v : Int} {lo : zL} (hlo : z_keep [0, 1, 2, 3] lo = [(0, zr 17), (1, zr 2), (2, zi (p : Int)), (3, zi (f : Int))]) 
    (o1 : (0 ≤ wr (p : Int) ∧ wr (p : Int) < 6))
    (o2 : (0 ≤ wr (p : Int) ∧ wr (p : Int) < 6))
    (o3 : ¬ wr ((zu m 18 ((wr (p : Int)).toNat) v) 18 ((wr (p : Int)).toNat)) = 0 → (0 ≤ wr (p : Int) ∧ wr (p : Int) < 6))
    (o4 : ¬ wr ((zu m 18 ((wr (p : Int)).toNat) v) 18 ((wr (p : Int)).toNat)) = 0 → wr ((zu m 18 ((wr (p : Int)).toNat) v) 18 ((wr (p : Int)).toNat)) = (-1) → κ (some (zi 0)) (zu m 18 ((wr (p : Int)).toNat) v))
    (o5 : ¬ wr ((zu m 18 ((wr (p : Int)).toNat) v) 18 ((wr (p : Int)).toNat)) = 0 → ¬ wr ((zu m 18 ((wr (p : Int)).toNat) v) 18 ((wr (p : Int)).toNat)) = (-1) → ∀ j, zbd 3 j ((zu m 18 ((wr (p : Int)).toNat) v) 3 j))
    (o6 : ¬ wr ((zu m 18 ((wr (p : Int)).toNat) v) 18 ((wr (p : Int)).toNat)) = 0 → ¬ wr ((zu m 18 ((wr (p : Int)).toNat) v) 18 ((wr (p : Int)).toNat)) = (-1) → (0 ≤ (m 2 3) ∧ (m 2 3) ≤ 1000))
    (o7 : ¬ wr ((zu m 18 ((wr (p : Int)).toNat) v) 18 ((wr (p : Int)).toNat)) = 0 → ¬ wr ((zu m 18 ((wr (p : Int)).toNat) v) 18 ((wr (p : Int)).toNat)) = (-1) → (0 ≤ (m 2 2) ∧ (m 2 2) ≤ 80))
    (o8 : ¬ wr ((zu m 18 ((wr (p : Int)).toNat) v) 18 ((wr (p : Int)).toNat)) = 0 → ¬ wr ((zu m 18 ((wr (p : Int)).toNat) v) 18 ((wr (p : Int)).toNat)) = (-1) → wr (nxC (zu m 18 ((wr (p : Int)).toNat) v)) = 64 → ∀ j, zbd 3 j ((zu (zu m 18 ((wr (p : Int)).toNat) v) 2 3 ((m 2 3) + 1)) 3 j))
    (o9 : ¬ wr ((zu m 18 ((wr (p : Int)).toNat) v) 18 ((wr (p : Int)).toNat)) = 0 → ¬ wr ((zu m 18 ((wr (p : Int)).toNat) v) 18 ((wr (p : Int)).toNat)) = (-1) → wr (nxC (zu m 18 ((wr (p : Int)).toNat) v)) = 64 → (0 ≤ ((m 2 3) + 1) ∧ ((m 2 3) + 1) ≤ 1000))
    (o10 : ¬ wr ((zu m 18 ((wr (p : Int)).toNat) v) 18 ((wr (p : Int)).toNat)) = 0 → ¬ wr ((zu m 18 ((wr (p : Int)).toNat) v) 18 ((wr (p : Int)).toNat)) = (-1) → wr (nxC (zu m 18 ((wr (p : Int)).toNat) v)) = 64 → (0 ≤ (m 2 2) ∧ (m 2 2) ≤ 80))
    (o11 : ¬ wr ((zu m 18 ((wr (p : Int)).toNat) v) 18 ((wr (p : Int)).toNat)) = 0 → ¬ wr ((zu m 18 ((wr (p : Int)).toNat) v) 18 ((wr (p : Int)).toNat)) = (-1) → wr (nxC (zu m 18 ((wr (p : Int)).toNat) v)) = 64 → wr (nxC (zu (zu m 18 ((wr (p : Int)).toNat) v) 2 3 ((m 2 3) + 1))) < 48 → (0 ≤ wr (p : Int) ∧ wr (p : Int) < 6))
    (o12 : ¬ wr ((zu m 18 ((wr (p : Int)).toNat) v) 18 ((wr (p : Int)).toNat)) = 0 → ¬ wr ((zu m 18 ((wr (p : Int)).toNat) v) 18 ((wr (p : Int)).toNat)) = (-1) → wr (nxC (zu m 18 ((wr (p : Int)).toNat) v)) = 64 → wr (nxC (zu (zu m 18 ((wr (p : Int)).toNat) v) 2 3 ((m 2 3) + 1))) < 48 → (0 ≤ wr (p : Int) ∧ wr (p : Int) < 6))
    (o13 : ¬ wr ((zu m 18 ((wr (p : Int)).toNat) v) 18 ((wr (p : Int)).toNat)) = 0 → ¬ wr ((zu m 18 ((wr (p : Int)).toNat) v) 18 ((wr (p : Int)).toNat)) = (-1) → wr (nxC (zu m 18 ((wr (p : Int)).toNat) v)) = 64 → wr (nxC (zu (zu m 18 ((wr (p : Int)).toNat) v) 2 3 ((m 2 3) + 1))) < 48 → (0 ≤ wr (p : Int) ∧ wr (p : Int) < 6))
    (o14 : ¬ wr ((zu m 18 ((wr (p : Int)).toNat) v) 18 ((wr (p : Int)).toNat)) = 0 → ¬ wr ((zu m 18 ((wr (p : Int)).toNat) v) 18 ((wr (p : Int)).toNat)) = (-1) → wr (nxC (zu m 18 ((wr (p : Int)).toNat) v)) = 64 → wr (nxC (zu (zu m 18 ((wr (p : Int)).toNat) v) 2 3 ((m 2 3) + 1))) < 48 → wr ((zu (zu (zu (zu m 18 ((wr (p : Int)).toNat) v) 2 3 ((m 2 3) + 1)) 19 ((wr (p : Int)).toNat) (-1)) 20 ((wr (p : Int)).toNat) (-1)) 19 ((wr (p : Int)).toNat)) = (-1) → κ (some (zi 0)) (zu (zu (zu (zu m 18 ((wr (p : Int)).toNat) v) 2 3 ((m 2 3) + 1)) 19 ((wr (p : Int)).toNat) (-1)) 20 ((wr (p : Int)).toNat) (-1)))
    (o15 : ¬ wr ((zu m 18 ((wr (p : Int)).toNat) v) 18 ((wr (p : Int)).toNat)) = 0 → ¬ wr ((zu m 18 ((wr (p : Int)).toNat) v) 18 ((wr (p : Int)).toNat)) = (-1) → wr (nxC (zu m 18 ((wr (p : Int)).toNat) v)) = 64 → wr (nxC (zu (zu m 18 ((wr (p : Int)).toNat) v) 2 3 ((m 2 3) + 1))) < 48 → ¬ wr ((zu (zu (zu (zu m 18 ((wr (p : Int)).toNat) v) 2 3 ((m 2 3) + 1)) 19 ((wr (p : Int)).toNat) (-1)) 20 ((wr (p : Int)).toNat) (-1)) 19 ((wr (p : Int)).toNat)) = (-1) → False)
    (o16 : ¬ wr ((zu m 18 ((wr (p : Int)).toNat) v) 18 ((wr (p : Int)).toNat)) = 0 → ¬ wr ((zu m 18 ((wr (p : Int)).toNat) v) 18 ((wr (p : Int)).toNat)) = (-1) → wr (nxC (zu m 18 ((wr (p : Int)).toNat) v)) = 64 → ¬ wr (nxC (zu (zu m 18 ((wr (p : Int)).toNat) v) 2 3 ((m 2 3) + 1))) < 48 → ¬ 51 < wr (nxC (zu (zu m 18 ((wr (p : Int)).toNat) v) 2 3 ((m 2 3) + 1))) → (0 ≤ wr (p : Int) ∧ wr (p : Int) < 6))
    (o17 : ¬ wr ((zu m 18 ((wr (p : Int)).toNat) v) 18 ((wr (p : Int)).toNat)) = 0 → ¬ wr ((zu m 18 ((wr (p : Int)).toNat) v) 18 ((wr (p : Int)).toNat)) = (-1) → wr (nxC (zu m 18 ((wr (p : Int)).toNat) v)) = 64 → ¬ wr (nxC (zu (zu m 18 ((wr (p : Int)).toNat) v) 2 3 ((m 2 3) + 1))) < 48 → ¬ 51 < wr (nxC (zu (zu m 18 ((wr (p : Int)).toNat) v) 2 3 ((m 2 3) + 1))) → (0 ≤ wr (p : Int) ∧ wr (p : Int) < 6))
    (o18 : ¬ wr ((zu m 18 ((wr (p : Int)).toNat) v) 18 ((wr (p : Int)).toNat)) = 0 → ¬ wr ((zu m 18 ((wr (p : Int)).toNat) v) 18 ((wr (p : Int)).toNat)) = (-1) → wr (nxC (zu m 18 ((wr (p : Int)).toNat) v)) = 64 → ¬ wr (nxC (zu (zu m 18 ((wr (p : Int)).toNat) v) 2 3 ((m 2 3) + 1))) < 48 → ¬ 51 < wr (nxC (zu (zu m 18 ((wr (p : Int)).toNat) v) 2 3 ((m 2 3) + 1))) → (0 ≤ wr (p : Int) ∧ wr (p : Int) < 6))
    (o19 : ¬ wr ((zu m 18 ((wr (p : Int)).toNat) v) 18 ((wr (p : Int)).toNat)) = 0 → ¬ wr ((zu m 18 ((wr (p : Int)).toNat) v) 18 ((wr (p : Int)).toNat)) = (-1) → wr (nxC (zu m 18 ((wr (p : Int)).toNat) v)) = 64 → ¬ wr (nxC (zu (zu m 18 ((wr (p : Int)).toNat) v) 2 3 ((m 2 3) + 1))) < 48 → ¬ 51 < wr (nxC (zu (zu m 18 ((wr (p : Int)).toNat) v) 2 3 ((m 2 3) + 1))) → wr ((zu (zu (zu (zu (zu m 18 ((wr (p : Int)).toNat) v) 2 3 ((m 2 3) + 1)) 2 3 (((m 2 3) + 1) + 1)) 19 ((wr (p : Int)).toNat) (wr ((nxC (zu (zu m 18 ((wr (p : Int)).toNat) v) 2 3 ((m 2 3) + 1))) - 48))) 20 ((wr (p : Int)).toNat) (-1)) 19 ((wr (p : Int)).toNat)) = (-1) → False)
    (o20 : ¬ wr ((zu m 18 ((wr (p : Int)).toNat) v) 18 ((wr (p : Int)).toNat)) = 0 → ¬ wr ((zu m 18 ((wr (p : Int)).toNat) v) 18 ((wr (p : Int)).toNat)) = (-1) → wr (nxC (zu m 18 ((wr (p : Int)).toNat) v)) = 64 → ¬ wr (nxC (zu (zu m 18 ((wr (p : Int)).toNat) v) 2 3 ((m 2 3) + 1))) < 48 → ¬ 51 < wr (nxC (zu (zu m 18 ((wr (p : Int)).toNat) v) 2 3 ((m 2 3) + 1))) → ¬ wr ((zu (zu (zu (zu (zu m 18 ((wr (p : Int)).toNat) v) 2 3 ((m 2 3) + 1)) 2 3 (((m 2 3) + 1) + 1)) 19 ((wr (p : Int)).toNat) (wr ((nxC (zu (zu m 18 ((wr (p : Int)).toNat) v) 2 3 ((m 2 3) + 1))) - 48))) 20 ((wr (p : Int)).toNat) (-1)) 19 ((wr (p : Int)).toNat)) = (-1) → κ (some (zi 1)) (zu (zu (zu (zu (zu m 18 ((wr (p : Int)).toNat) v) 2 3 ((m 2 3) + 1)) 2 3 (((m 2 3) + 1) + 1)) 19 ((wr (p : Int)).toNat) (wr ((nxC (zu (zu m 18 ((wr (p : Int)).toNat) v) 2 3 ((m 2 3) + 1))) - 48))) 20 ((wr (p : Int)).toNat) (-1)))
    (o21 : ¬ wr ((zu m 18 ((wr (p : Int)).toNat) v) 18 ((wr (p : Int)).toNat)) = 0 → ¬ wr ((zu m 18 ((wr (p : Int)).toNat) v) 18 ((wr (p : Int)).toNat)) = (-1) → wr (nxC (zu m 18 ((wr (p : Int)).toNat) v)) = 64 → ¬ wr (nxC (zu (zu m 18 ((wr (p : Int)).toNat) v) 2 3 ((m 2 3) + 1))) < 48 → 51 < wr (nxC (zu (zu m 18 ((wr (p : Int)).toNat) v) 2 3 ((m 2 3) + 1))) → (0 ≤ wr (p : Int) ∧ wr (p : Int) < 6))
    (o22 : ¬ wr ((zu m 18 ((wr (p : Int)).toNat) v) 18 ((wr (p : Int)).toNat)) = 0 → ¬ wr ((zu m 18 ((wr (p : Int)).toNat) v) 18 ((wr (p : Int)).toNat)) = (-1) → wr (nxC (zu m 18 ((wr (p : Int)).toNat) v)) = 64 → ¬ wr (nxC (zu (zu m 18 ((wr (p : Int)).toNat) v) 2 3 ((m 2 3) + 1))) < 48 → 51 < wr (nxC (zu (zu m 18 ((wr (p : Int)).toNat) v) 2 3 ((m 2 3) + 1))) → (0 ≤ wr (p : Int) ∧ wr (p : Int) < 6))
    (o23 : ¬ wr ((zu m 18 ((wr (p : Int)).toNat) v) 18 ((wr (p : Int)).toNat)) = 0 → ¬ wr ((zu m 18 ((wr (p : Int)).toNat) v) 18 ((wr (p : Int)).toNat)) = (-1) → wr (nxC (zu m 18 ((wr (p : Int)).toNat) v)) = 64 → ¬ wr (nxC (zu (zu m 18 ((wr (p : Int)).toNat) v) 2 3 ((m 2 3) + 1))) < 48 → 51 < wr (nxC (zu (zu m 18 ((wr (p : Int)).toNat) v) 2 3 ((m 2 3) + 1))) → (0 ≤ wr (p : Int) ∧ wr (p : Int) < 6))
    (o24 : ¬ wr ((zu m 18 ((wr (p : Int)).toNat) v) 18 ((wr (p : Int)).toNat)) = 0 → ¬ wr ((zu m 18 ((wr (p : Int)).toNat) v) 18 ((wr (p : Int)).toNat)) = (-1) → wr (nxC (zu m 18 ((wr (p : Int)).toNat) v)) = 64 → ¬ wr (nxC (zu (zu m 18 ((wr (p : Int)).toNat) v) 2 3 ((m 2 3) + 1))) < 48 → 51 < wr (nxC (zu (zu m 18 ((wr (p : Int)).toNat) v) 2 3 ((m 2 3) + 1))) → wr ((zu (zu (zu (zu m 18 ((wr (p : Int)).toNat) v) 2 3 ((m 2 3) + 1)) 19 ((wr (p : Int)).toNat) (-1)) 20 ((wr (p : Int)).toNat) (-1)) 19 ((wr (p : Int)).toNat)) = (-1) → κ (some (zi 0)) (zu (zu (zu (zu m 18 ((wr (p : Int)).toNat) v) 2 3 ((m 2 3) + 1)) 19 ((wr (p : Int)).toNat) (-1)) 20 ((wr (p : Int)).toNat) (-1)))
    (o25 : ¬ wr ((zu m 18 ((wr (p : Int)).toNat) v) 18 ((wr (p : Int)).toNat)) = 0 → ¬ wr ((zu m 18 ((wr (p : Int)).toNat) v) 18 ((wr (p : Int)).toNat)) = (-1) → wr (nxC (zu m 18 ((wr (p : Int)).toNat) v)) = 64 → ¬ wr (nxC (zu (zu m 18 ((wr (p : Int)).toNat) v) 2 3 ((m 2 3) + 1))) < 48 → 51 < wr (nxC (zu (zu m 18 ((wr (p : Int)).toNat) v) 2 3 ((m 2 3) + 1))) → ¬ wr ((zu (zu (zu (zu m 18 ((wr (p : Int)).toNat) v) 2 3 ((m 2 3) + 1)) 19 ((wr (p : Int)).toNat) (-1)) 20 ((wr (p : Int)).toNat) (-1)) 19 ((wr (p : Int)).toNat)) = (-1) → False)
    (o26 : ¬ wr ((zu m 18 ((wr (p : Int)).toNat) v) 18 ((wr (p : Int)).toNat)) = 0 → ¬ wr ((zu m 18 ((wr (p : Int)).toNat) v) 18 ((wr (p : Int)).toNat)) = (-1) → ¬ wr (nxC (zu m 18 ((wr (p : Int)).toNat) v)) = 64 → κ (some (zi 0)) (zu m 18 ((wr (p : Int)).toNat) v))
    (o27 : wr ((zu m 18 ((wr (p : Int)).toNat) v) 18 ((wr (p : Int)).toNat)) = 0 → ¬ wr (m 2 3) = wr ((f : Int) + 1) → κ (some (zi 0)) (zu (zu m 18 ((wr (p : Int)).toNat) v) 2 3 ((m 2 3) - 1)))
    (o28 : wr ((zu m 18 ((wr (p : Int)).toNat) v) 18 ((wr (p : Int)).toNat)) = 0 → wr (m 2 3) = wr ((f : Int) + 1) → ¬ wr (m 2 3) = wr (m 2 2) → κ (some (zi 0)) (zu (zu m 18 ((wr (p : Int)).toNat) v) 2 3 ((m 2 3) - 1)))
    (o29 : wr ((zu m 18 ((wr (p : Int)).toNat) v) 18 ((wr (p : Int)).toNat)) = 0 → wr (m 2 3) = wr ((f : Int) + 1) → wr (m 2 3) = wr (m 2 2) → ¬ wr (m 2 2) < wr (m 2 1) → κ (some (zi 0)) (zu (zu m 18 ((wr (p : Int)).toNat) v) 2 3 ((m 2 3) - 1)))
    (o30 : wr ((zu m 18 ((wr (p : Int)).toNat) v) 18 ((wr (p : Int)).toNat)) = 0 → wr (m 2 3) = wr ((f : Int) + 1) → wr (m 2 3) = wr (m 2 2) → wr (m 2 2) < wr (m 2 1) → (0 ≤ wr (p : Int) ∧ wr (p : Int) < 6))
    (o31 : wr ((zu m 18 ((wr (p : Int)).toNat) v) 18 ((wr (p : Int)).toNat)) = 0 → wr (m 2 3) = wr ((f : Int) + 1) → wr (m 2 3) = wr (m 2 2) → wr (m 2 2) < wr (m 2 1) → wr ((zu m 18 ((wr (p : Int)).toNat) v) 18 ((wr (p : Int)).toNat)) = (-1) → False)
    (o32 : wr ((zu m 18 ((wr (p : Int)).toNat) v) 18 ((wr (p : Int)).toNat)) = 0 → wr (m 2 3) = wr ((f : Int) + 1) → wr (m 2 3) = wr (m 2 2) → wr (m 2 2) < wr (m 2 1) → ¬ wr ((zu m 18 ((wr (p : Int)).toNat) v) 18 ((wr (p : Int)).toNat)) = (-1) → ∀ j, zbd 3 j ((zu m 18 ((wr (p : Int)).toNat) v) 3 j))
    (o33 : wr ((zu m 18 ((wr (p : Int)).toNat) v) 18 ((wr (p : Int)).toNat)) = 0 → wr (m 2 3) = wr ((f : Int) + 1) → wr (m 2 3) = wr (m 2 2) → wr (m 2 2) < wr (m 2 1) → ¬ wr ((zu m 18 ((wr (p : Int)).toNat) v) 18 ((wr (p : Int)).toNat)) = (-1) → (0 ≤ (m 2 3) ∧ (m 2 3) ≤ 1000))
    (o34 : wr ((zu m 18 ((wr (p : Int)).toNat) v) 18 ((wr (p : Int)).toNat)) = 0 → wr (m 2 3) = wr ((f : Int) + 1) → wr (m 2 3) = wr (m 2 2) → wr (m 2 2) < wr (m 2 1) → ¬ wr ((zu m 18 ((wr (p : Int)).toNat) v) 18 ((wr (p : Int)).toNat)) = (-1) → (0 ≤ (m 2 2) ∧ (m 2 2) ≤ 80))
    (o35 : wr ((zu m 18 ((wr (p : Int)).toNat) v) 18 ((wr (p : Int)).toNat)) = 0 → wr (m 2 3) = wr ((f : Int) + 1) → wr (m 2 3) = wr (m 2 2) → wr (m 2 2) < wr (m 2 1) → ¬ wr ((zu m 18 ((wr (p : Int)).toNat) v) 18 ((wr (p : Int)).toNat)) = (-1) → wr (nxC (zu m 18 ((wr (p : Int)).toNat) v)) = 64 → ∀ j, zbd 3 j ((zu (zu m 18 ((wr (p : Int)).toNat) v) 2 3 ((m 2 3) + 1)) 3 j))
    (o36 : wr ((zu m 18 ((wr (p : Int)).toNat) v) 18 ((wr (p : Int)).toNat)) = 0 → wr (m 2 3) = wr ((f : Int) + 1) → wr (m 2 3) = wr (m 2 2) → wr (m 2 2) < wr (m 2 1) → ¬ wr ((zu m 18 ((wr (p : Int)).toNat) v) 18 ((wr (p : Int)).toNat)) = (-1) → wr (nxC (zu m 18 ((wr (p : Int)).toNat) v)) = 64 → (0 ≤ ((m 2 3) + 1) ∧ ((m 2 3) + 1) ≤ 1000))
    (o37 : wr ((zu m 18 ((wr (p : Int)).toNat) v) 18 ((wr (p : Int)).toNat)) = 0 → wr (m 2 3) = wr ((f : Int) + 1) → wr (m 2 3) = wr (m 2 2) → wr (m 2 2) < wr (m 2 1) → ¬ wr ((zu m 18 ((wr (p : Int)).toNat) v) 18 ((wr (p : Int)).toNat)) = (-1) → wr (nxC (zu m 18 ((wr (p : Int)).toNat) v)) = 64 → (0 ≤ (m 2 2) ∧ (m 2 2) ≤ 80))
    (o38 : wr ((zu m 18 ((wr (p : Int)).toNat) v) 18 ((wr (p : Int)).toNat)) = 0 → wr (m 2 3) = wr ((f : Int) + 1) → wr (m 2 3) = wr (m 2 2) → wr (m 2 2) < wr (m 2 1) → ¬ wr ((zu m 18 ((wr (p : Int)).toNat) v) 18 ((wr (p : Int)).toNat)) = (-1) → wr (nxC (zu m 18 ((wr (p : Int)).toNat) v)) = 64 → wr (nxC (zu (zu m 18 ((wr (p : Int)).toNat) v) 2 3 ((m 2 3) + 1))) < 48 → (0 ≤ wr (p : Int) ∧ wr (p : Int) < 6))
    (o39 : wr ((zu m 18 ((wr (p : Int)).toNat) v) 18 ((wr (p : Int)).toNat)) = 0 → wr (m 2 3) = wr ((f : Int) + 1) → wr (m 2 3) = wr (m 2 2) → wr (m 2 2) < wr (m 2 1) → ¬ wr ((zu m 18 ((wr (p : Int)).toNat) v) 18 ((wr (p : Int)).toNat)) = (-1) → wr (nxC (zu m 18 ((wr (p : Int)).toNat) v)) = 64 → wr (nxC (zu (zu m 18 ((wr (p : Int)).toNat) v) 2 3 ((m 2 3) + 1))) < 48 → (0 ≤ wr (p : Int) ∧ wr (p : Int) < 6))
    (o40 : wr ((zu m 18 ((wr (p : Int)).toNat) v) 18 ((wr (p : Int)).toNat)) = 0 → wr (m 2 3) = wr ((f : Int) + 1) → wr (m 2 3) = wr (m 2 2) → wr (m 2 2) < wr (m 2 1) → ¬ wr ((zu m 18 ((wr (p : Int)).toNat) v) 18 ((wr (p : Int)).toNat)) = (-1) → wr (nxC (zu m 18 ((wr (p : Int)).toNat) v)) = 64 → wr (nxC (zu (zu m 18 ((wr (p : Int)).toNat) v) 2 3 ((m 2 3) + 1))) < 48 → (0 ≤ wr (p : Int) ∧ wr (p : Int) < 6))
    (o41 : wr ((zu m 18 ((wr (p : Int)).toNat) v) 18 ((wr (p : Int)).toNat)) = 0 → wr (m 2 3) = wr ((f : Int) + 1) → wr (m 2 3) = wr (m 2 2) → wr (m 2 2) < wr (m 2 1) → ¬ wr ((zu m 18 ((wr (p : Int)).toNat) v) 18 ((wr (p : Int)).toNat)) = (-1) → wr (nxC (zu m 18 ((wr (p : Int)).toNat) v)) = 64 → wr (nxC (zu (zu m 18 ((wr (p : Int)).toNat) v) 2 3 ((m 2 3) + 1))) < 48 → wr ((zu (zu (zu (zu m 18 ((wr (p : Int)).toNat) v) 2 3 ((m 2 3) + 1)) 19 ((wr (p : Int)).toNat) (-1)) 20 ((wr (p : Int)).toNat) (-1)) 19 ((wr (p : Int)).toNat)) = (-1) → κ (some (zi 0)) (zu (zu (zu (zu m 18 ((wr (p : Int)).toNat) v) 2 3 ((m 2 3) + 1)) 19 ((wr (p : Int)).toNat) (-1)) 20 ((wr (p : Int)).toNat) (-1)))
    (o42 : wr ((zu m 18 ((wr (p : Int)).toNat) v) 18 ((wr (p : Int)).toNat)) = 0 → wr (m 2 3) = wr ((f : Int) + 1) → wr (m 2 3) = wr (m 2 2) → wr (m 2 2) < wr (m 2 1) → ¬ wr ((zu m 18 ((wr (p : Int)).toNat) v) 18 ((wr (p : Int)).toNat)) = (-1) → wr (nxC (zu m 18 ((wr (p : Int)).toNat) v)) = 64 → wr (nxC (zu (zu m 18 ((wr (p : Int)).toNat) v) 2 3 ((m 2 3) + 1))) < 48 → ¬ wr ((zu (zu (zu (zu m 18 ((wr (p : Int)).toNat) v) 2 3 ((m 2 3) + 1)) 19 ((wr (p : Int)).toNat) (-1)) 20 ((wr (p : Int)).toNat) (-1)) 19 ((wr (p : Int)).toNat)) = (-1) → False)
    (o43 : wr ((zu m 18 ((wr (p : Int)).toNat) v) 18 ((wr (p : Int)).toNat)) = 0 → wr (m 2 3) = wr ((f : Int) + 1) → wr (m 2 3) = wr (m 2 2) → wr (m 2 2) < wr (m 2 1) → ¬ wr ((zu m 18 ((wr (p : Int)).toNat) v) 18 ((wr (p : Int)).toNat)) = (-1) → wr (nxC (zu m 18 ((wr (p : Int)).toNat) v)) = 64 → ¬ wr (nxC (zu (zu m 18 ((wr (p : Int)).toNat) v) 2 3 ((m 2 3) + 1))) < 48 → ¬ 51 < wr (nxC (zu (zu m 18 ((wr (p : Int)).toNat) v) 2 3 ((m 2 3) + 1))) → (0 ≤ wr (p : Int) ∧ wr (p : Int) < 6))
    (o44 : wr ((zu m 18 ((wr (p : Int)).toNat) v) 18 ((wr (p : Int)).toNat)) = 0 → wr (m 2 3) = wr ((f : Int) + 1) → wr (m 2 3) = wr (m 2 2) → wr (m 2 2) < wr (m 2 1) → ¬ wr ((zu m 18 ((wr (p : Int)).toNat) v) 18 ((wr (p : Int)).toNat)) = (-1) → wr (nxC (zu m 18 ((wr (p : Int)).toNat) v)) = 64 → ¬ wr (nxC (zu (zu m 18 ((wr (p : Int)).toNat) v) 2 3 ((m 2 3) + 1))) < 48 → ¬ 51 < wr (nxC (zu (zu m 18 ((wr (p : Int)).toNat) v) 2 3 ((m 2 3) + 1))) → (0 ≤ wr (p : Int) ∧ wr (p : Int) < 6))
    (o45 : wr ((zu m 18 ((wr (p : Int)).toNat) v) 18 ((wr (p : Int)).toNat)) = 0 → wr (m 2 3) = wr ((f : Int) + 1) → wr (m 2 3) = wr (m 2 2) → wr (m 2 2) < wr (m 2 1) → ¬ wr ((zu m 18 ((wr (p : Int)).toNat) v) 18 ((wr (p : Int)).toNat)) = (-1) → wr (nxC (zu m 18 ((wr (p : Int)).toNat) v)) = 64 → ¬ wr (nxC (zu (zu m 18 ((wr (p : Int)).toNat) v) 2 3 ((m 2 3) + 1))) < 48 → ¬ 51 < wr (nxC (zu (zu m 18 ((wr (p : Int)).toNat) v) 2 3 ((m 2 3) + 1))) → (0 ≤ wr (p : Int) ∧ wr (p : Int) < 6))
    (o46 : wr ((zu m 18 ((wr (p : Int)).toNat) v) 18 ((wr (p : Int)).toNat)) = 0 → wr (m 2 3) = wr ((f : Int) + 1) → wr (m 2 3) = wr (m 2 2) → wr (m 2 2) < wr (m 2 1) → ¬ wr ((zu m 18 ((wr (p : Int)).toNat) v) 18 ((wr (p : Int)).toNat)) = (-1) → wr (nxC (zu m 18 ((wr (p : Int)).toNat) v)) = 64 → ¬ wr (nxC (zu (zu m 18 ((wr (p : Int)).toNat) v) 2 3 ((m 2 3) + 1))) < 48 → ¬ 51 < wr (nxC (zu (zu m 18 ((wr (p : Int)).toNat) v) 2 3 ((m 2 3) + 1))) → wr ((zu (zu (zu (zu (zu m 18 ((wr (p : Int)).toNat) v) 2 3 ((m 2 3) + 1)) 2 3 (((m 2 3) + 1) + 1)) 19 ((wr (p : Int)).toNat) (wr ((nxC (zu (zu m 18 ((wr (p : Int)).toNat) v) 2 3 ((m 2 3) + 1))) - 48))) 20 ((wr (p : Int)).toNat) (-1)) 19 ((wr (p : Int)).toNat)) = (-1) → False)
    (o47 : wr ((zu m 18 ((wr (p : Int)).toNat) v) 18 ((wr (p : Int)).toNat)) = 0 → wr (m 2 3) = wr ((f : Int) + 1) → wr (m 2 3) = wr (m 2 2) → wr (m 2 2) < wr (m 2 1) → ¬ wr ((zu m 18 ((wr (p : Int)).toNat) v) 18 ((wr (p : Int)).toNat)) = (-1) → wr (nxC (zu m 18 ((wr (p : Int)).toNat) v)) = 64 → ¬ wr (nxC (zu (zu m 18 ((wr (p : Int)).toNat) v) 2 3 ((m 2 3) + 1))) < 48 → ¬ 51 < wr (nxC (zu (zu m 18 ((wr (p : Int)).toNat) v) 2 3 ((m 2 3) + 1))) → ¬ wr ((zu (zu (zu (zu (zu m 18 ((wr (p : Int)).toNat) v) 2 3 ((m 2 3) + 1)) 2 3 (((m 2 3) + 1) + 1)) 19 ((wr (p : Int)).toNat) (wr ((nxC (zu (zu m 18 ((wr (p : Int)).toNat) v) 2 3 ((m 2 3) + 1))) - 48))) 20 ((wr (p : Int)).toNat) (-1)) 19 ((wr (p : Int)).toNat)) = (-1) → κ (some (zi 1)) (zu (zu (zu (zu (zu m 18 ((wr (p : Int)).toNat) v) 2 3 ((m 2 3) + 1)) 2 3 (((m 2 3) + 1) + 1)) 19 ((wr (p : Int)).toNat) (wr ((nxC (zu (zu m 18 ((wr (p : Int)).toNat) v) 2 3 ((m 2 3) + 1))) - 48))) 20 ((wr (p : Int)).toNat) (-1)))
    (o48 : wr ((zu m 18 ((wr (p : Int)).toNat) v) 18 ((wr (p : Int)).toNat)) = 0 → wr (m 2 3) = wr ((f : Int) + 1) → wr (m 2 3) = wr (m 2 2) → wr (m 2 2) < wr (m 2 1) → ¬ wr ((zu m 18 ((wr (p : Int)).toNat) v) 18 ((wr (p : Int)).toNat)) = (-1) → wr (nxC (zu m 18 ((wr (p : Int)).toNat) v)) = 64 → ¬ wr (nxC (zu (zu m 18 ((wr (p : Int)).toNat) v) 2 3 ((m 2 3) + 1))) < 48 → 51 < wr (nxC (zu (zu m 18 ((wr (p : Int)).toNat) v) 2 3 ((m 2 3) + 1))) → (0 ≤ wr (p : Int) ∧ wr (p : Int) < 6))
    (o49 : wr ((zu m 18 ((wr (p : Int)).toNat) v) 18 ((wr (p : Int)).toNat)) = 0 → wr (m 2 3) = wr ((f : Int) + 1) → wr (m 2 3) = wr (m 2 2) → wr (m 2 2) < wr (m 2 1) → ¬ wr ((zu m 18 ((wr (p : Int)).toNat) v) 18 ((wr (p : Int)).toNat)) = (-1) → wr (nxC (zu m 18 ((wr (p : Int)).toNat) v)) = 64 → ¬ wr (nxC (zu (zu m 18 ((wr (p : Int)).toNat) v) 2 3 ((m 2 3) + 1))) < 48 → 51 < wr (nxC (zu (zu m 18 ((wr (p : Int)).toNat) v) 2 3 ((m 2 3) + 1))) → (0 ≤ wr (p : Int) ∧ wr (p : Int) < 6))
    (o50 : wr ((zu m 18 ((wr (p : Int)).toNat) v) 18 ((wr (p : Int)).toNat)) = 0 → wr (m 2 3) = wr ((f : Int) + 1) → wr (m 2 3) = wr (m 2 2) → wr (m 2 2) < wr (m 2 1) → ¬ wr ((zu m 18 ((wr (p : Int)).toNat) v) 18 ((wr (p : Int)).toNat)) = (-1) → wr (nxC (zu m 18 ((wr (p : Int)).toNat) v)) = 64 → ¬ wr (nxC (zu (zu m 18 ((wr (p : Int)).toNat) v) 2 3 ((m 2 3) + 1))) < 48 → 51 < wr (nxC (zu (zu m 18 ((wr (p : Int)).toNat) v) 2 3 ((m 2 3) + 1))) → (0 ≤ wr (p : Int) ∧ wr (p : Int) < 6))
    (o51 : wr ((zu m 18 ((wr (p : Int)).toNat) v) 18 ((wr (p : Int)).toNat)) = 0 → wr (m 2 3) = wr ((f : Int) + 1) → wr (m 2 3) = wr (m 2 2) → wr (m 2 2) < wr (m 2 1) → ¬ wr ((zu m 18 ((wr (p : Int)).toNat) v) 18 ((wr (p : Int)).toNat)) = (-1) → wr (nxC (zu m 18 ((wr (p : Int)).toNat) v)) = 64 → ¬ wr (nxC (zu (zu m 18 ((wr (p : Int)).toNat) v) 2 3 ((m 2 3) + 1))) < 48 → 51 < wr (nxC (zu (zu m 18 ((wr (p : Int)).toNat) v) 2 3 ((m 2 3) + 1))) → wr ((zu (zu (zu (zu m 18 ((wr (p : Int)).toNat) v) 2 3 ((m 2 3) + 1)) 19 ((wr (p : Int)).toNat) (-1)) 20 ((wr (p : Int)).toNat) (-1)) 19 ((wr (p : Int)).toNat)) = (-1) → κ (some (zi 0)) (zu (zu (zu (zu m 18 ((wr (p : Int)).toNat) v) 2 3 ((m 2 3) + 1)) 19 ((wr (p : Int)).toNat) (-1)) 20 ((wr (p : Int)).toNat) (-1)))
    (o52 : wr ((zu m 18 ((wr (p : Int)).toNat) v) 18 ((wr (p : Int)).toNat)) = 0 → wr (m 2 3) = wr ((f : Int) + 1) → wr (m 2 3) = wr (m 2 2) → wr (m 2 2) < wr (m 2 1) → ¬ wr ((zu m 18 ((wr (p : Int)).toNat) v) 18 ((wr (p : Int)).toNat)) = (-1) → wr (nxC (zu m 18 ((wr (p : Int)).toNat) v)) = 64 → ¬ wr (nxC (zu (zu m 18 ((wr (p : Int)).toNat) v) 2 3 ((m 2 3) + 1))) < 48 → 51 < wr (nxC (zu (zu m 18 ((wr (p : Int)).toNat) v) 2 3 ((m 2 3) + 1))) → ¬ wr ((zu (zu (zu (zu m 18 ((wr (p : Int)).toNat) v) 2 3 ((m 2 3) + 1)) 19 ((wr (p : Int)).toNat) (-1)) 20 ((wr (p : Int)).toNat) (-1)) 19 ((wr (p : Int)).toNat)) = (-1) → False)
    (o53 : wr ((zu m 18 ((wr (p : Int)).toNat) v) 18 ((wr (p : Int)).toNat)) = 0 → wr (m 2 3) = wr ((f : Int) + 1) → wr (m 2 3) = wr (m 2 2) → wr (m 2 2) < wr (m 2 1) → ¬ wr ((zu m 18 ((wr (p : Int)).toNat) v) 18 ((wr (p : Int)).toNat)) = (-1) → ¬ wr (nxC (zu m 18 ((wr (p : Int)).toNat) v)) = 64 → κ (some (zi 0)) (zu m 18 ((wr (p : Int)).toNat) v)) :
    T (D + 4) 40 (15, lo, [zi v, zi (p : Int), zr 18], m) κ :=
  zkeep hT hlo (hT.1 [] 6 (D + 4) 40 _ κ (And.intro (And.intro (o1) trivial) (And.intro (o2) (And.intro (fun a1 => (hT.1 [] 6 (D + 4) 40 (54, [(0, zr 17), (1, zr 2), (2, zi (p : Int)), (3, zi (f : Int))], [], (zu m 18 ((wr (p : Int)).toNat) v)) _ (And.intro (o3 a1) (And.intro (fun a3 => (hT.1 [] 6 (D + 4) 40 (73, [(0, zr 17), (1, zr 2), (2, zi (p : Int)), (3, zi (f : Int))], [], (zu m 18 ((wr (p : Int)).toNat) v)) _ (And.intro (z_b01L rfl) (o4 a1 a3)))) (fun a4 => (hT.1 [] 6 (D + 4) 40 (64, [(0, zr 17), (1, zr 2), (2, zi (p : Int)), (3, zi (f : Int))], [], (zu m 18 ((wr (p : Int)).toNat) v)) _ (hT.1 [] 6 (D + 3) 70 _ _ (z_next hT (o5 a1 a4) (o6 a1 a4) (o7 a1 a4) (hT.1 [] 6 (D + 3) 70 _ _ (And.intro (fun a5 => (hT.1 [] 6 (D + 3) 70 (16, [(0, zr 2), (1, zi 64)], [zi 1, zi (m 2 3), zr 2], (zu m 18 ((wr (p : Int)).toNat) v)) _ (And.intro trivial (And.intro (z_b01L rfl) (hT.1 [] 6 (D + 4) 40 _ _ (And.intro (fun _ => (hT.1 [] 6 (D + 4) 40 (82, [(0, zr 17), (1, zr 2), (2, zi (p : Int)), (3, zi (f : Int))], [zi 0, zr 2, zi (p : Int), zr 19], (zu (zu m 18 ((wr (p : Int)).toNat) v) 2 3 ((m 2 3) + 1))) _ (hT.1 [] 6 (D + 3) 71 _ _ (z_next hT (o8 a1 a4 a5) (o9 a1 a4 a5) (o10 a1 a4 a5) (hT.1 [] 6 (D + 3) 71 _ _ (And.intro (fun a8 => (hT.1 [] 6 (D + 3) 71 (21, [(0, zr 2), (1, zi 0), (2, zi 3), (3, zi (nxC (zu (zu m 18 ((wr (p : Int)).toNat) v) 2 3 ((m 2 3) + 1))))], [], (zu (zu m 18 ((wr (p : Int)).toNat) v) 2 3 ((m 2 3) + 1))) _ (hT.1 [] 6 (D + 4) 40 _ _ (And.intro (And.intro (o11 a1 a4 a5 a8) trivial) (And.intro (And.intro (o12 a1 a4 a5 a8) trivial) (hT.1 [] 6 (D + 4) 40 (94, [(0, zr 17), (1, zr 2), (2, zi (p : Int)), (3, zi (f : Int))], [], (zu (zu (zu (zu m 18 ((wr (p : Int)).toNat) v) 2 3 ((m 2 3) + 1)) 19 ((wr (p : Int)).toNat) (-1)) 20 ((wr (p : Int)).toNat) (-1))) _ (And.intro (o13 a1 a4 a5 a8) (And.intro (fun a10 => (hT.1 [] 6 (D + 4) 40 (108, [(0, zr 17), (1, zr 2), (2, zi (p : Int)), (3, zi (f : Int))], [], (zu (zu (zu (zu m 18 ((wr (p : Int)).toNat) v) 2 3 ((m 2 3) + 1)) 19 ((wr (p : Int)).toNat) (-1)) 20 ((wr (p : Int)).toNat) (-1))) _ (And.intro (z_b01L rfl) (o14 a1 a4 a5 a8 a10)))) (fun a11 => (o15 a1 a4 a5 a8 a11).elim))))))))) (fun a9 => (hT.1 [] 6 (D + 3) 71 (13, [(0, zr 2), (1, zi 0), (2, zi 3), (3, zi (nxC (zu (zu m 18 ((wr (p : Int)).toNat) v) 2 3 ((m 2 3) + 1))))], [], (zu (zu m 18 ((wr (p : Int)).toNat) v) 2 3 ((m 2 3) + 1))) _ (And.intro (fun a12 => (hT.1 [] 6 (D + 3) 71 (24, [(0, zr 2), (1, zi 0), (2, zi 3), (3, zi (nxC (zu (zu m 18 ((wr (p : Int)).toNat) v) 2 3 ((m 2 3) + 1))))], [zr 2], (zu (zu m 18 ((wr (p : Int)).toNat) v) 2 3 ((m 2 3) + 1))) _ (And.intro trivial (hT.1 [] 6 (D + 3) 71 (34, [(0, zr 2), (1, zi 0), (2, zi 3), (3, zi (nxC (zu (zu m 18 ((wr (p : Int)).toNat) v) 2 3 ((m 2 3) + 1))))], [zi (nxC (zu (zu m 18 ((wr (p : Int)).toNat) v) 2 3 ((m 2 3) + 1)))], (zu (zu (zu m 18 ((wr (p : Int)).toNat) v) 2 3 ((m 2 3) + 1)) 2 3 (((m 2 3) + 1) + 1))) _ (hT.1 [] 6 (D + 4) 40 _ _ (And.intro (And.intro (o16 a1 a4 a5 a9 a12) trivial) (And.intro (And.intro (o17 a1 a4 a5 a9 a12) trivial) (hT.1 [] 6 (D + 4) 40 (94, [(0, zr 17), (1, zr 2), (2, zi (p : Int)), (3, zi (f : Int))], [], (zu (zu (zu (zu (zu m 18 ((wr (p : Int)).toNat) v) 2 3 ((m 2 3) + 1)) 2 3 (((m 2 3) + 1) + 1)) 19 ((wr (p : Int)).toNat) (wr ((nxC (zu (zu m 18 ((wr (p : Int)).toNat) v) 2 3 ((m 2 3) + 1))) - 48))) 20 ((wr (p : Int)).toNat) (-1))) _ (And.intro (o18 a1 a4 a5 a9 a12) (And.intro (fun a14 => (o19 a1 a4 a5 a9 a12 a14).elim) (fun a15 => (hT.1 [] 6 (D + 4) 40 (104, [(0, zr 17), (1, zr 2), (2, zi (p : Int)), (3, zi (f : Int))], [], (zu (zu (zu (zu (zu m 18 ((wr (p : Int)).toNat) v) 2 3 ((m 2 3) + 1)) 2 3 (((m 2 3) + 1) + 1)) 19 ((wr (p : Int)).toNat) (wr ((nxC (zu (zu m 18 ((wr (p : Int)).toNat) v) 2 3 ((m 2 3) + 1))) - 48))) 20 ((wr (p : Int)).toNat) (-1))) _ (And.intro (z_b01L rfl) (o20 a1 a4 a5 a9 a12 a15)))))))))))))) (fun a13 => (hT.1 [] 6 (D + 3) 71 (22, [(0, zr 2), (1, zi 0), (2, zi 3), (3, zi (nxC (zu (zu m 18 ((wr (p : Int)).toNat) v) 2 3 ((m 2 3) + 1))))], [zi (-1)], (zu (zu m 18 ((wr (p : Int)).toNat) v) 2 3 ((m 2 3) + 1))) _ (hT.1 [] 6 (D + 4) 40 _ _ (And.intro (And.intro (o21 a1 a4 a5 a9 (Classical.byContradiction a13)) trivial) (And.intro (And.intro (o22 a1 a4 a5 a9 (Classical.byContradiction a13)) trivial) (hT.1 [] 6 (D + 4) 40 (94, [(0, zr 17), (1, zr 2), (2, zi (p : Int)), (3, zi (f : Int))], [], (zu (zu (zu (zu m 18 ((wr (p : Int)).toNat) v) 2 3 ((m 2 3) + 1)) 19 ((wr (p : Int)).toNat) (-1)) 20 ((wr (p : Int)).toNat) (-1))) _ (And.intro (o23 a1 a4 a5 a9 (Classical.byContradiction a13)) (And.intro (fun a16 => (hT.1 [] 6 (D + 4) 40 (108, [(0, zr 17), (1, zr 2), (2, zi (p : Int)), (3, zi (f : Int))], [], (zu (zu (zu (zu m 18 ((wr (p : Int)).toNat) v) 2 3 ((m 2 3) + 1)) 19 ((wr (p : Int)).toNat) (-1)) 20 ((wr (p : Int)).toNat) (-1))) _ (And.intro (z_b01L rfl) (o24 a1 a4 a5 a9 (Classical.byContradiction a13) a16)))) (fun a17 => (o25 a1 a4 a5 a9 (Classical.byContradiction a13) a17).elim)))))))))))))))))) (fun a7 => (a7 (z_litT rfl)).elim))))))) (fun a6 => (And.intro (z_b01L rfl) (hT.1 [] 6 (D + 4) 40 _ _ (And.intro (fun a18 => (z_litF a18 rfl).elim) (fun _ => (And.intro (z_b01L rfl) (o26 a1 a4 a6))))))))))))))))) (fun a2 => (hT.1 [] 6 (D + 4) 40 (25, [(0, zr 17), (1, zr 2), (2, zi (p : Int)), (3, zi (f : Int))], [], (zu m 18 ((wr (p : Int)).toNat) v)) _ (And.intro (fun a19 => (hT.1 [] 6 (D + 4) 40 (42, [(0, zr 17), (1, zr 2), (2, zi (p : Int)), (3, zi (f : Int))], [], (zu m 18 ((wr (p : Int)).toNat) v)) _ (And.intro trivial (hT.1 [] 6 (D + 4) 40 (52, [(0, zr 17), (1, zr 2), (2, zi (p : Int)), (3, zi (f : Int))], [], (zu (zu m 18 ((wr (p : Int)).toNat) v) 2 3 ((m 2 3) - 1))) _ (And.intro (z_b01L rfl) (o27 (Classical.byContradiction a2) a19)))))) (fun a20 => (hT.1 [] 6 (D + 4) 40 (35, [(0, zr 17), (1, zr 2), (2, zi (p : Int)), (3, zi (f : Int))], [], (zu m 18 ((wr (p : Int)).toNat) v)) _ (hT.1 [] 6 (D + 3) 67 _ _ (And.intro (fun a21 => (hT.1 [] 6 (D + 3) 67 (27, [(0, zr 2)], [zi 0], (zu m 18 ((wr (p : Int)).toNat) v)) _ (And.intro (z_b01L rfl) (hT.1 [] 6 (D + 4) 40 _ _ (And.intro (fun a23 => (z_litF a23 rfl).elim) (fun _ => (hT.1 [] 6 (D + 4) 40 (49, [(0, zr 17), (1, zr 2), (2, zi (p : Int)), (3, zi (f : Int))], [zi ((m 2 3) - 1), zr 2], (zu m 18 ((wr (p : Int)).toNat) v)) _ (And.intro trivial (And.intro (z_b01L rfl) (o28 (Classical.byContradiction a2) (Classical.byContradiction a20) a21)))))))))) (fun a22 => (hT.1 [] 6 (D + 3) 67 (12, [(0, zr 2)], [zr 2], (zu m 18 ((wr (p : Int)).toNat) v)) _ (And.intro (fun a24 => (And.intro (z_b01L rfl) (hT.1 [] 6 (D + 4) 40 _ _ (And.intro (fun a26 => (z_litF a26 rfl).elim) (fun _ => (hT.1 [] 6 (D + 4) 40 (49, [(0, zr 17), (1, zr 2), (2, zi (p : Int)), (3, zi (f : Int))], [zi ((m 2 3) - 1), zr 2], (zu m 18 ((wr (p : Int)).toNat) v)) _ (And.intro trivial (And.intro (z_b01L rfl) (o29 (Classical.byContradiction a2) (Classical.byContradiction a20) (Classical.byContradiction a22) a24))))))))) (fun a25 => (hT.1 [] 6 (D + 3) 67 (27, [(0, zr 2)], [zi 1], (zu m 18 ((wr (p : Int)).toNat) v)) _ (And.intro (z_b01L rfl) (hT.1 [] 6 (D + 4) 40 _ _ (And.intro (fun _ => (And.intro (o30 (Classical.byContradiction a2) (Classical.byContradiction a20) (Classical.byContradiction a22) (Classical.byContradiction a25)) (hT.1 [] 6 (D + 4) 40 (61, [(0, zr 17), (1, zr 2), (2, zi (p : Int)), (3, zi (f : Int))], [zi (-1), zi ((zu m 18 ((wr (p : Int)).toNat) v) 18 ((wr (p : Int)).toNat))], (zu m 18 ((wr (p : Int)).toNat) v)) _ (And.intro (fun a28 => (o31 (Classical.byContradiction a2) (Classical.byContradiction a20) (Classical.byContradiction a22) (Classical.byContradiction a25) a28).elim) (fun a29 => (hT.1 [] 6 (D + 3) 70 _ _ (z_next hT (o32 (Classical.byContradiction a2) (Classical.byContradiction a20) (Classical.byContradiction a22) (Classical.byContradiction a25) a29) (o33 (Classical.byContradiction a2) (Classical.byContradiction a20) (Classical.byContradiction a22) (Classical.byContradiction a25) a29) (o34 (Classical.byContradiction a2) (Classical.byContradiction a20) (Classical.byContradiction a22) (Classical.byContradiction a25) a29) (hT.1 [] 6 (D + 3) 70 _ _ (And.intro (fun a30 => (hT.1 [] 6 (D + 3) 70 (16, [(0, zr 2), (1, zi 64)], [zi 1, zi (m 2 3), zr 2], (zu m 18 ((wr (p : Int)).toNat) v)) _ (And.intro trivial (And.intro (z_b01L rfl) (hT.1 [] 6 (D + 4) 40 _ _ (And.intro (fun _ => (hT.1 [] 6 (D + 4) 40 (82, [(0, zr 17), (1, zr 2), (2, zi (p : Int)), (3, zi (f : Int))], [zi 0, zr 2, zi (p : Int), zr 19], (zu (zu m 18 ((wr (p : Int)).toNat) v) 2 3 ((m 2 3) + 1))) _ (hT.1 [] 6 (D + 3) 71 _ _ (z_next hT (o35 (Classical.byContradiction a2) (Classical.byContradiction a20) (Classical.byContradiction a22) (Classical.byContradiction a25) a29 a30) (o36 (Classical.byContradiction a2) (Classical.byContradiction a20) (Classical.byContradiction a22) (Classical.byContradiction a25) a29 a30) (o37 (Classical.byContradiction a2) (Classical.byContradiction a20) (Classical.byContradiction a22) (Classical.byContradiction a25) a29 a30) (hT.1 [] 6 (D + 3) 71 _ _ (And.intro (fun a33 => (hT.1 [] 6 (D + 3) 71 (21, [(0, zr 2), (1, zi 0), (2, zi 3), (3, zi (nxC (zu (zu m 18 ((wr (p : Int)).toNat) v) 2 3 ((m 2 3) + 1))))], [], (zu (zu m 18 ((wr (p : Int)).toNat) v) 2 3 ((m 2 3) + 1))) _ (hT.1 [] 6 (D + 4) 40 _ _ (And.intro (And.intro (o38 (Classical.byContradiction a2) (Classical.byContradiction a20) (Classical.byContradiction a22) (Classical.byContradiction a25) a29 a30 a33) trivial) (And.intro (And.intro (o39 (Classical.byContradiction a2) (Classical.byContradiction a20) (Classical.byContradiction a22) (Classical.byContradiction a25) a29 a30 a33) trivial) (hT.1 [] 6 (D + 4) 40 (94, [(0, zr 17), (1, zr 2), (2, zi (p : Int)), (3, zi (f : Int))], [], (zu (zu (zu (zu m 18 ((wr (p : Int)).toNat) v) 2 3 ((m 2 3) + 1)) 19 ((wr (p : Int)).toNat) (-1)) 20 ((wr (p : Int)).toNat) (-1))) _ (And.intro (o40 (Classical.byContradiction a2) (Classical.byContradiction a20) (Classical.byContradiction a22) (Classical.byContradiction a25) a29 a30 a33) (And.intro (fun a35 => (hT.1 [] 6 (D + 4) 40 (108, [(0, zr 17), (1, zr 2), (2, zi (p : Int)), (3, zi (f : Int))], [], (zu (zu (zu (zu m 18 ((wr (p : Int)).toNat) v) 2 3 ((m 2 3) + 1)) 19 ((wr (p : Int)).toNat) (-1)) 20 ((wr (p : Int)).toNat) (-1))) _ (And.intro (z_b01L rfl) (o41 (Classical.byContradiction a2) (Classical.byContradiction a20) (Classical.byContradiction a22) (Classical.byContradiction a25) a29 a30 a33 a35)))) (fun a36 => (o42 (Classical.byContradiction a2) (Classical.byContradiction a20) (Classical.byContradiction a22) (Classical.byContradiction a25) a29 a30 a33 a36).elim))))))))) (fun a34 => (hT.1 [] 6 (D + 3) 71 (13, [(0, zr 2), (1, zi 0), (2, zi 3), (3, zi (nxC (zu (zu m 18 ((wr (p : Int)).toNat) v) 2 3 ((m 2 3) + 1))))], [], (zu (zu m 18 ((wr (p : Int)).toNat) v) 2 3 ((m 2 3) + 1))) _ (And.intro (fun a37 => (hT.1 [] 6 (D + 3) 71 (24, [(0, zr 2), (1, zi 0), (2, zi 3), (3, zi (nxC (zu (zu m 18 ((wr (p : Int)).toNat) v) 2 3 ((m 2 3) + 1))))], [zr 2], (zu (zu m 18 ((wr (p : Int)).toNat) v) 2 3 ((m 2 3) + 1))) _ (And.intro trivial (hT.1 [] 6 (D + 3) 71 (34, [(0, zr 2), (1, zi 0), (2, zi 3), (3, zi (nxC (zu (zu m 18 ((wr (p : Int)).toNat) v) 2 3 ((m 2 3) + 1))))], [zi (nxC (zu (zu m 18 ((wr (p : Int)).toNat) v) 2 3 ((m 2 3) + 1)))], (zu (zu (zu m 18 ((wr (p : Int)).toNat) v) 2 3 ((m 2 3) + 1)) 2 3 (((m 2 3) + 1) + 1))) _ (hT.1 [] 6 (D + 4) 40 _ _ (And.intro (And.intro (o43 (Classical.byContradiction a2) (Classical.byContradiction a20) (Classical.byContradiction a22) (Classical.byContradiction a25) a29 a30 a34 a37) trivial) (And.intro (And.intro (o44 (Classical.byContradiction a2) (Classical.byContradiction a20) (Classical.byContradiction a22) (Classical.byContradiction a25) a29 a30 a34 a37) trivial) (hT.1 [] 6 (D + 4) 40 (94, [(0, zr 17), (1, zr 2), (2, zi (p : Int)), (3, zi (f : Int))], [], (zu (zu (zu (zu (zu m 18 ((wr (p : Int)).toNat) v) 2 3 ((m 2 3) + 1)) 2 3 (((m 2 3) + 1) + 1)) 19 ((wr (p : Int)).toNat) (wr ((nxC (zu (zu m 18 ((wr (p : Int)).toNat) v) 2 3 ((m 2 3) + 1))) - 48))) 20 ((wr (p : Int)).toNat) (-1))) _ (And.intro (o45 (Classical.byContradiction a2) (Classical.byContradiction a20) (Classical.byContradiction a22) (Classical.byContradiction a25) a29 a30 a34 a37) (And.intro (fun a39 => (o46 (Classical.byContradiction a2) (Classical.byContradiction a20) (Classical.byContradiction a22) (Classical.byContradiction a25) a29 a30 a34 a37 a39).elim) (fun a40 => (hT.1 [] 6 (D + 4) 40 (104, [(0, zr 17), (1, zr 2), (2, zi (p : Int)), (3, zi (f : Int))], [], (zu (zu (zu (zu (zu m 18 ((wr (p : Int)).toNat) v) 2 3 ((m 2 3) + 1)) 2 3 (((m 2 3) + 1) + 1)) 19 ((wr (p : Int)).toNat) (wr ((nxC (zu (zu m 18 ((wr (p : Int)).toNat) v) 2 3 ((m 2 3) + 1))) - 48))) 20 ((wr (p : Int)).toNat) (-1))) _ (And.intro (z_b01L rfl) (o47 (Classical.byContradiction a2) (Classical.byContradiction a20) (Classical.byContradiction a22) (Classical.byContradiction a25) a29 a30 a34 a37 a40)))))))))))))) (fun a38 => (hT.1 [] 6 (D + 3) 71 (22, [(0, zr 2), (1, zi 0), (2, zi 3), (3, zi (nxC (zu (zu m 18 ((wr (p : Int)).toNat) v) 2 3 ((m 2 3) + 1))))], [zi (-1)], (zu (zu m 18 ((wr (p : Int)).toNat) v) 2 3 ((m 2 3) + 1))) _ (hT.1 [] 6 (D + 4) 40 _ _ (And.intro (And.intro (o48 (Classical.byContradiction a2) (Classical.byContradiction a20) (Classical.byContradiction a22) (Classical.byContradiction a25) a29 a30 a34 (Classical.byContradiction a38)) trivial) (And.intro (And.intro (o49 (Classical.byContradiction a2) (Classical.byContradiction a20) (Classical.byContradiction a22) (Classical.byContradiction a25) a29 a30 a34 (Classical.byContradiction a38)) trivial) (hT.1 [] 6 (D + 4) 40 (94, [(0, zr 17), (1, zr 2), (2, zi (p : Int)), (3, zi (f : Int))], [], (zu (zu (zu (zu m 18 ((wr (p : Int)).toNat) v) 2 3 ((m 2 3) + 1)) 19 ((wr (p : Int)).toNat) (-1)) 20 ((wr (p : Int)).toNat) (-1))) _ (And.intro (o50 (Classical.byContradiction a2) (Classical.byContradiction a20) (Classical.byContradiction a22) (Classical.byContradiction a25) a29 a30 a34 (Classical.byContradiction a38)) (And.intro (fun a41 => (hT.1 [] 6 (D + 4) 40 (108, [(0, zr 17), (1, zr 2), (2, zi (p : Int)), (3, zi (f : Int))], [], (zu (zu (zu (zu m 18 ((wr (p : Int)).toNat) v) 2 3 ((m 2 3) + 1)) 19 ((wr (p : Int)).toNat) (-1)) 20 ((wr (p : Int)).toNat) (-1))) _ (And.intro (z_b01L rfl) (o51 (Classical.byContradiction a2) (Classical.byContradiction a20) (Classical.byContradiction a22) (Classical.byContradiction a25) a29 a30 a34 (Classical.byContradiction a38) a41)))) (fun a42 => (o52 (Classical.byContradiction a2) (Classical.byContradiction a20) (Classical.byContradiction a22) (Classical.byContradiction a25) a29 a30 a34 (Classical.byContradiction a38) a42).elim)))))))))))))))))) (fun a32 => (a32 (z_litT rfl)).elim))))))) (fun a31 => (And.intro (z_b01L rfl) (hT.1 [] 6 (D + 4) 40 _ _ (And.intro (fun a43 => (z_litF a43 rfl).elim) (fun _ => (And.intro (z_b01L rfl) (o53 (Classical.byContradiction a2) (Classical.byContradiction a20) (Classical.byContradiction a22) (Classical.byContradiction a25) a29 a31)))))))))))))))) (fun a27 => (a27 (z_litT rfl)).elim))))))))))))))))))))
theorem zb40_15 (hT : zRules T) {D : Nat} {κ : Option zA → zM → Prop} {m : zM} {p : Nat} {f : Nat} {v : Int} {lo : zL} (hlo : z_keep [0, 1, 2, 3] lo = [(0, zr 17), (1, zr 2), (2, zi (p : Int)), (3, zi (f : Int))])  (hB : zB m) (h_p : p ≤ 5) (h_f : f ≤ 81) (h_v : (-1) ≤ v ∧ v ≤ 99) (hf0 : 0 ≤ m 2 3 ∧ m 2 3 ≤ 90) 
    (k1 : ¬ v = 0 → v = (-1) → zB (zu m 18 p v) → κ (some (zi 0)) (zu m 18 p v))
    (k2 : ¬ v = 0 → ¬ v = (-1) → (nxC (zu m 18 p v)) = 64 → (nxC (zu (zu m 18 p v) 2 3 ((m 2 3) + 1))) < 48 → zB (zu (zu (zu (zu m 18 p v) 2 3 ((m 2 3) + 1)) 19 p (-1)) 20 p (-1)) → κ (some (zi 0)) (zu (zu (zu (zu m 18 p v) 2 3 ((m 2 3) + 1)) 19 p (-1)) 20 p (-1)))
    (k3 : ¬ v = 0 → ¬ v = (-1) → (nxC (zu m 18 p v)) = 64 → ¬ (nxC (zu (zu m 18 p v) 2 3 ((m 2 3) + 1))) < 48 → ¬ 51 < (nxC (zu (zu m 18 p v) 2 3 ((m 2 3) + 1))) → zB (zu (zu (zu (zu (zu m 18 p v) 2 3 ((m 2 3) + 1)) 2 3 (((m 2 3) + 1) + 1)) 19 p ((nxC (zu (zu m 18 p v) 2 3 ((m 2 3) + 1))) - 48)) 20 p (-1)) → κ (some (zi 1)) (zu (zu (zu (zu (zu m 18 p v) 2 3 ((m 2 3) + 1)) 2 3 (((m 2 3) + 1) + 1)) 19 p ((nxC (zu (zu m 18 p v) 2 3 ((m 2 3) + 1))) - 48)) 20 p (-1)))
    (k4 : ¬ v = 0 → ¬ v = (-1) → (nxC (zu m 18 p v)) = 64 → ¬ (nxC (zu (zu m 18 p v) 2 3 ((m 2 3) + 1))) < 48 → 51 < (nxC (zu (zu m 18 p v) 2 3 ((m 2 3) + 1))) → zB (zu (zu (zu (zu m 18 p v) 2 3 ((m 2 3) + 1)) 19 p (-1)) 20 p (-1)) → κ (some (zi 0)) (zu (zu (zu (zu m 18 p v) 2 3 ((m 2 3) + 1)) 19 p (-1)) 20 p (-1)))
    (k5 : ¬ v = 0 → ¬ v = (-1) → ¬ (nxC (zu m 18 p v)) = 64 → zB (zu m 18 p v) → κ (some (zi 0)) (zu m 18 p v))
    (k6 : v = 0 → ¬ (m 2 3) = ((f : Int) + 1) → zB (zu (zu m 18 p v) 2 3 ((m 2 3) - 1)) → κ (some (zi 0)) (zu (zu m 18 p v) 2 3 ((m 2 3) - 1)))
    (k7 : v = 0 → (m 2 3) = ((f : Int) + 1) → ¬ (m 2 3) = (m 2 2) → zB (zu (zu m 18 p v) 2 3 ((m 2 3) - 1)) → κ (some (zi 0)) (zu (zu m 18 p v) 2 3 ((m 2 3) - 1)))
    (k8 : v = 0 → (m 2 3) = ((f : Int) + 1) → (m 2 3) = (m 2 2) → ¬ (m 2 2) < (m 2 1) → zB (zu (zu m 18 p v) 2 3 ((m 2 3) - 1)) → κ (some (zi 0)) (zu (zu m 18 p v) 2 3 ((m 2 3) - 1)))
    (k9 : v = 0 → (m 2 3) = ((f : Int) + 1) → (m 2 3) = (m 2 2) → (m 2 2) < (m 2 1) → (nxC (zu m 18 p v)) = 64 → (nxC (zu (zu m 18 p v) 2 3 ((m 2 3) + 1))) < 48 → zB (zu (zu (zu (zu m 18 p v) 2 3 ((m 2 3) + 1)) 19 p (-1)) 20 p (-1)) → κ (some (zi 0)) (zu (zu (zu (zu m 18 p v) 2 3 ((m 2 3) + 1)) 19 p (-1)) 20 p (-1)))
    (k10 : v = 0 → (m 2 3) = ((f : Int) + 1) → (m 2 3) = (m 2 2) → (m 2 2) < (m 2 1) → (nxC (zu m 18 p v)) = 64 → ¬ (nxC (zu (zu m 18 p v) 2 3 ((m 2 3) + 1))) < 48 → ¬ 51 < (nxC (zu (zu m 18 p v) 2 3 ((m 2 3) + 1))) → zB (zu (zu (zu (zu (zu m 18 p v) 2 3 ((m 2 3) + 1)) 2 3 (((m 2 3) + 1) + 1)) 19 p ((nxC (zu (zu m 18 p v) 2 3 ((m 2 3) + 1))) - 48)) 20 p (-1)) → κ (some (zi 1)) (zu (zu (zu (zu (zu m 18 p v) 2 3 ((m 2 3) + 1)) 2 3 (((m 2 3) + 1) + 1)) 19 p ((nxC (zu (zu m 18 p v) 2 3 ((m 2 3) + 1))) - 48)) 20 p (-1)))
    (k11 : v = 0 → (m 2 3) = ((f : Int) + 1) → (m 2 3) = (m 2 2) → (m 2 2) < (m 2 1) → (nxC (zu m 18 p v)) = 64 → ¬ (nxC (zu (zu m 18 p v) 2 3 ((m 2 3) + 1))) < 48 → 51 < (nxC (zu (zu m 18 p v) 2 3 ((m 2 3) + 1))) → zB (zu (zu (zu (zu m 18 p v) 2 3 ((m 2 3) + 1)) 19 p (-1)) 20 p (-1)) → κ (some (zi 0)) (zu (zu (zu (zu m 18 p v) 2 3 ((m 2 3) + 1)) 19 p (-1)) 20 p (-1)))
    (k12 : v = 0 → (m 2 3) = ((f : Int) + 1) → (m 2 3) = (m 2 2) → (m 2 2) < (m 2 1) → ¬ (nxC (zu m 18 p v)) = 64 → zB (zu m 18 p v) → κ (some (zi 0)) (zu m 18 p v)) :
    T (D + 4) 40 (15, lo, [zi v, zi (p : Int), zr 18], m) κ := by
  have hb4 : 0 ≤ (m 2 2) ∧ (m 2 2) ≤ 80 := hB 2 2
  have hb5 : 0 ≤ (m 2 1) ∧ (m 2 1) ≤ 80 := hB 2 1
  have hb6 : (-1) ≤ (nxC (zu m 18 p v)) ∧ (nxC (zu m 18 p v)) ≤ 65535 := nxCBo (zu m 18 p v) (fun j => hB 3 j)
  have hb7 : (-1) ≤ (nxC (zu (zu m 18 p v) 2 3 ((m 2 3) + 1))) ∧ (nxC (zu (zu m 18 p v) 2 3 ((m 2 3) + 1))) ≤ 65535 := nxCBo (zu (zu m 18 p v) 2 3 ((m 2 3) + 1)) (fun j => hB 3 j)
  have hb8 : (-1) ≤ ((zu (zu (zu (zu m 18 p v) 2 3 ((m 2 3) + 1)) 19 p (-1)) 20 p (-1)) 19 p) ∧ ((zu (zu (zu (zu m 18 p v) 2 3 ((m 2 3) + 1)) 19 p (-1)) 20 p (-1)) 19 p) ≤ (-1) := (by rw [show ((zu (zu (zu (zu m 18 p v) 2 3 ((m 2 3) + 1)) 19 p (-1)) 20 p (-1)) 19 p) = (-1) from (Eq.trans (zu_df rfl) (zu_sm (by omega)))]; exact ⟨Int.le_refl _, Int.le_refl _⟩)
  have he0 : wr (p : Int) = (p : Int) := wr_id (by omega) (by omega)
  have he1 : (p : Int).toNat = p := by omega
  have he2 : ((zu m 18 p v) 18 p) = v := (zu_sm (by omega))
  have he3 : wr v = v := wr_id (by omega) (by omega)
  have he4 : wr (m 2 3) = (m 2 3) := wr_id (by omega) (by omega)
  have he5 : wr ((f : Int) + 1) = ((f : Int) + 1) := wr_id (by omega) (by omega)
  have he6 : wr (m 2 2) = (m 2 2) := wr_id (by omega) (by omega)
  have he7 : wr (m 2 1) = (m 2 1) := wr_id (by omega) (by omega)
  have he8 : wr (nxC (zu m 18 p v)) = (nxC (zu m 18 p v)) := wr_id (by omega) (by omega)
  have he9 : wr (nxC (zu (zu m 18 p v) 2 3 ((m 2 3) + 1))) = (nxC (zu (zu m 18 p v) 2 3 ((m 2 3) + 1))) := wr_id (by omega) (by omega)
  have he10 : wr ((zu (zu (zu (zu m 18 p v) 2 3 ((m 2 3) + 1)) 19 p (-1)) 20 p (-1)) 19 p) = ((zu (zu (zu (zu m 18 p v) 2 3 ((m 2 3) + 1)) 19 p (-1)) 20 p (-1)) 19 p) := wr_id (by omega) (by omega)
  have he11 : wr ((nxC (zu (zu m 18 p v) 2 3 ((m 2 3) + 1))) - 48) = ((nxC (zu (zu m 18 p v) 2 3 ((m 2 3) + 1))) - 48) := wr_id (by omega) (by omega)
  have he12 : ((zu (zu (zu (zu (zu m 18 p v) 2 3 ((m 2 3) + 1)) 2 3 (((m 2 3) + 1) + 1)) 19 p ((nxC (zu (zu m 18 p v) 2 3 ((m 2 3) + 1))) - 48)) 20 p (-1)) 19 p) = ((nxC (zu (zu m 18 p v) 2 3 ((m 2 3) + 1))) - 48) := (Eq.trans (zu_df rfl) (zu_sm (by omega)))
  have key := @zb40_15r T hT D κ m p f v lo hlo
  simp only [he0, he1, he2, he3, he4, he5, he6, he7, he8, he9, he10, he11, he12, Int.toNat_natCast] at key
  exact key
    (by refine ⟨?_, ?_⟩ <;> omega)
    (by refine ⟨?_, ?_⟩ <;> omega)
    (fun x0 => by refine ⟨?_, ?_⟩ <;> omega)
    (fun x0 x1 => k1 x0 x1 (zB_u hB (show (-1) ≤ v ∧ v ≤ 99 from ⟨by omega, by omega⟩)))
    (fun x0 x1 => fun j => hB 3 j)
    (fun x0 x1 => by refine ⟨?_, ?_⟩ <;> omega)
    (fun x0 x1 => by refine ⟨?_, ?_⟩ <;> omega)
    (fun x0 x1 x2 => fun j => hB 3 j)
    (fun x0 x1 x2 => by refine ⟨?_, ?_⟩ <;> omega)
    (fun x0 x1 x2 => by refine ⟨?_, ?_⟩ <;> omega)
    (fun x0 x1 x2 x3 => by refine ⟨?_, ?_⟩ <;> omega)
    (fun x0 x1 x2 x3 => by refine ⟨?_, ?_⟩ <;> omega)
    (fun x0 x1 x2 x3 => by refine ⟨?_, ?_⟩ <;> omega)
    (fun x0 x1 x2 x3 x4 => k2 x0 x1 x2 x3 (zB_u (zB_u (zB_u (zB_u hB (show (-1) ≤ v ∧ v ≤ 99 from ⟨by omega, by omega⟩)) (show (-1) ≤ ((m 2 3) + 1) ∧ ((m 2 3) + 1) ≤ 100 from ⟨by omega, by omega⟩)) (show (-1) ≤ (-1) ∧ (-1) ≤ 3 from ⟨by omega, by omega⟩)) (show (-1) ≤ (-1) ∧ (-1) ≤ 7 from ⟨by omega, by omega⟩)))
    (fun x0 x1 x2 x3 x4 => by omega)
    (fun x0 x1 x2 x3 x4 => by refine ⟨?_, ?_⟩ <;> omega)
    (fun x0 x1 x2 x3 x4 => by refine ⟨?_, ?_⟩ <;> omega)
    (fun x0 x1 x2 x3 x4 => by refine ⟨?_, ?_⟩ <;> omega)
    (fun x0 x1 x2 x3 x4 x5 => by omega)
    (fun x0 x1 x2 x3 x4 x5 => k3 x0 x1 x2 x3 x4 (zB_u (zB_u (zB_u (zB_u (zB_u hB (show (-1) ≤ v ∧ v ≤ 99 from ⟨by omega, by omega⟩)) (show (-1) ≤ ((m 2 3) + 1) ∧ ((m 2 3) + 1) ≤ 100 from ⟨by omega, by omega⟩)) (show (-1) ≤ (((m 2 3) + 1) + 1) ∧ (((m 2 3) + 1) + 1) ≤ 100 from ⟨by omega, by omega⟩)) (show (-1) ≤ ((nxC (zu (zu m 18 p v) 2 3 ((m 2 3) + 1))) - 48) ∧ ((nxC (zu (zu m 18 p v) 2 3 ((m 2 3) + 1))) - 48) ≤ 3 from ⟨by omega, by omega⟩)) (show (-1) ≤ (-1) ∧ (-1) ≤ 7 from ⟨by omega, by omega⟩)))
    (fun x0 x1 x2 x3 x4 => by refine ⟨?_, ?_⟩ <;> omega)
    (fun x0 x1 x2 x3 x4 => by refine ⟨?_, ?_⟩ <;> omega)
    (fun x0 x1 x2 x3 x4 => by refine ⟨?_, ?_⟩ <;> omega)
    (fun x0 x1 x2 x3 x4 x5 => k4 x0 x1 x2 x3 x4 (zB_u (zB_u (zB_u (zB_u hB (show (-1) ≤ v ∧ v ≤ 99 from ⟨by omega, by omega⟩)) (show (-1) ≤ ((m 2 3) + 1) ∧ ((m 2 3) + 1) ≤ 100 from ⟨by omega, by omega⟩)) (show (-1) ≤ (-1) ∧ (-1) ≤ 3 from ⟨by omega, by omega⟩)) (show (-1) ≤ (-1) ∧ (-1) ≤ 7 from ⟨by omega, by omega⟩)))
    (fun x0 x1 x2 x3 x4 x5 => by omega)
    (fun x0 x1 x2 => k5 x0 x1 x2 (zB_u hB (show (-1) ≤ v ∧ v ≤ 99 from ⟨by omega, by omega⟩)))
    (fun x0 x1 => k6 x0 x1 (zB_u (zB_u hB (show (-1) ≤ v ∧ v ≤ 99 from ⟨by omega, by omega⟩)) (show (-1) ≤ ((m 2 3) - 1) ∧ ((m 2 3) - 1) ≤ 100 from ⟨by omega, by omega⟩)))
    (fun x0 x1 x2 => k7 x0 x1 x2 (zB_u (zB_u hB (show (-1) ≤ v ∧ v ≤ 99 from ⟨by omega, by omega⟩)) (show (-1) ≤ ((m 2 3) - 1) ∧ ((m 2 3) - 1) ≤ 100 from ⟨by omega, by omega⟩)))
    (fun x0 x1 x2 x3 => k8 x0 x1 x2 x3 (zB_u (zB_u hB (show (-1) ≤ v ∧ v ≤ 99 from ⟨by omega, by omega⟩)) (show (-1) ≤ ((m 2 3) - 1) ∧ ((m 2 3) - 1) ≤ 100 from ⟨by omega, by omega⟩)))
    (fun x0 x1 x2 x3 => by refine ⟨?_, ?_⟩ <;> omega)
    (fun x0 x1 x2 x3 x4 => by omega)
    (fun x0 x1 x2 x3 x4 => fun j => hB 3 j)
    (fun x0 x1 x2 x3 x4 => by refine ⟨?_, ?_⟩ <;> omega)
    (fun x0 x1 x2 x3 x4 => by refine ⟨?_, ?_⟩ <;> omega)
    (fun x0 x1 x2 x3 x4 x5 => fun j => hB 3 j)
    (fun x0 x1 x2 x3 x4 x5 => by refine ⟨?_, ?_⟩ <;> omega)
    (fun x0 x1 x2 x3 x4 x5 => by refine ⟨?_, ?_⟩ <;> omega)
    (fun x0 x1 x2 x3 x4 x5 x6 => by refine ⟨?_, ?_⟩ <;> omega)
    (fun x0 x1 x2 x3 x4 x5 x6 => by refine ⟨?_, ?_⟩ <;> omega)
    (fun x0 x1 x2 x3 x4 x5 x6 => by refine ⟨?_, ?_⟩ <;> omega)
    (fun x0 x1 x2 x3 x4 x5 x6 x7 => k9 x0 x1 x2 x3 x5 x6 (zB_u (zB_u (zB_u (zB_u hB (show (-1) ≤ v ∧ v ≤ 99 from ⟨by omega, by omega⟩)) (show (-1) ≤ ((m 2 3) + 1) ∧ ((m 2 3) + 1) ≤ 100 from ⟨by omega, by omega⟩)) (show (-1) ≤ (-1) ∧ (-1) ≤ 3 from ⟨by omega, by omega⟩)) (show (-1) ≤ (-1) ∧ (-1) ≤ 7 from ⟨by omega, by omega⟩)))
    (fun x0 x1 x2 x3 x4 x5 x6 x7 => by omega)
    (fun x0 x1 x2 x3 x4 x5 x6 x7 => by refine ⟨?_, ?_⟩ <;> omega)
    (fun x0 x1 x2 x3 x4 x5 x6 x7 => by refine ⟨?_, ?_⟩ <;> omega)
    (fun x0 x1 x2 x3 x4 x5 x6 x7 => by refine ⟨?_, ?_⟩ <;> omega)
    (fun x0 x1 x2 x3 x4 x5 x6 x7 x8 => by omega)
    (fun x0 x1 x2 x3 x4 x5 x6 x7 x8 => k10 x0 x1 x2 x3 x5 x6 x7 (zB_u (zB_u (zB_u (zB_u (zB_u hB (show (-1) ≤ v ∧ v ≤ 99 from ⟨by omega, by omega⟩)) (show (-1) ≤ ((m 2 3) + 1) ∧ ((m 2 3) + 1) ≤ 100 from ⟨by omega, by omega⟩)) (show (-1) ≤ (((m 2 3) + 1) + 1) ∧ (((m 2 3) + 1) + 1) ≤ 100 from ⟨by omega, by omega⟩)) (show (-1) ≤ ((nxC (zu (zu m 18 p v) 2 3 ((m 2 3) + 1))) - 48) ∧ ((nxC (zu (zu m 18 p v) 2 3 ((m 2 3) + 1))) - 48) ≤ 3 from ⟨by omega, by omega⟩)) (show (-1) ≤ (-1) ∧ (-1) ≤ 7 from ⟨by omega, by omega⟩)))
    (fun x0 x1 x2 x3 x4 x5 x6 x7 => by refine ⟨?_, ?_⟩ <;> omega)
    (fun x0 x1 x2 x3 x4 x5 x6 x7 => by refine ⟨?_, ?_⟩ <;> omega)
    (fun x0 x1 x2 x3 x4 x5 x6 x7 => by refine ⟨?_, ?_⟩ <;> omega)
    (fun x0 x1 x2 x3 x4 x5 x6 x7 x8 => k11 x0 x1 x2 x3 x5 x6 x7 (zB_u (zB_u (zB_u (zB_u hB (show (-1) ≤ v ∧ v ≤ 99 from ⟨by omega, by omega⟩)) (show (-1) ≤ ((m 2 3) + 1) ∧ ((m 2 3) + 1) ≤ 100 from ⟨by omega, by omega⟩)) (show (-1) ≤ (-1) ∧ (-1) ≤ 3 from ⟨by omega, by omega⟩)) (show (-1) ≤ (-1) ∧ (-1) ≤ 7 from ⟨by omega, by omega⟩)))
    (fun x0 x1 x2 x3 x4 x5 x6 x7 x8 => by omega)
    (fun x0 x1 x2 x3 x4 x5 => k12 x0 x1 x2 x3 x5 (zB_u hB (show (-1) ≤ v ∧ v ≤ 99 from ⟨by omega, by omega⟩)))
theorem zb41_0r (hT : zRules T) {D : Nat} {κ : Option zA → zM → Prop} {m : zM} {c : Nat} 
    (o1 : T (D + 3) 72 (0, [(0, zr 2), (1, zi 2)], [], m) (fun r m1 => T (D + 4) 41 (10, [(0, zr 17), (1, zr 2), (2, zi (c : Int))], r.toList ++ [zi (c : Int), zr 21], m1) κ)) :
    T (D + 4) 41 (0, [(0, zr 17), (1, zr 2), (2, zi (c : Int))], [], m) κ :=
  hT.1 [] 6 (D + 4) 41 _ κ (o1)
theorem zb41_0 (hT : zRules T) {D : Nat} {κ : Option zA → zM → Prop} {m : zM} {c : Nat}  (hB : zB m) (h_c : c ≤ 7) (hf0 : 0 ≤ m 2 3 ∧ m 2 3 ≤ 90) 
    (k1 : T (D + 3) 72 (0, [(0, zr 2), (1, zi 2)], [], m) (fun r m1 => T (D + 4) 41 (10, [(0, zr 17), (1, zr 2), (2, zi (c : Int))], r.toList ++ [zi (c : Int), zr 21], m1) κ)) :
    T (D + 4) 41 (0, [(0, zr 17), (1, zr 2), (2, zi (c : Int))], [], m) κ := by
  exact zb41_0r hT
    k1
theorem zb41_10r (hT : zRules T) {D : Nat} {κ : Option zA → zM → Prop} {m : zM} {c : Nat} {v : Int} {lo : zL} (hlo : z_keep [0, 1, 2] lo = [(0, zr 17), (1, zr 2), (2, zi (c : Int))]) 
    (o1 : (0 ≤ wr (c : Int) ∧ wr (c : Int) < 8))
    (o2 : (0 ≤ wr (c : Int) ∧ wr (c : Int) < 8))
    (o3 : ¬ wr ((zu m 21 ((wr (c : Int)).toNat) v) 21 ((wr (c : Int)).toNat)) = (-1) → ∀ j, zbd 3 j ((zu m 21 ((wr (c : Int)).toNat) v) 3 j))
    (o4 : ¬ wr ((zu m 21 ((wr (c : Int)).toNat) v) 21 ((wr (c : Int)).toNat)) = (-1) → (0 ≤ (m 2 3) ∧ (m 2 3) ≤ 1000))
    (o5 : ¬ wr ((zu m 21 ((wr (c : Int)).toNat) v) 21 ((wr (c : Int)).toNat)) = (-1) → (0 ≤ (m 2 2) ∧ (m 2 2) ≤ 80))
    (o6 : ¬ wr ((zu m 21 ((wr (c : Int)).toNat) v) 21 ((wr (c : Int)).toNat)) = (-1) → wr (nxC (zu m 21 ((wr (c : Int)).toNat) v)) = 43 → ∀ j, zbd 3 j ((zu (zu m 21 ((wr (c : Int)).toNat) v) 2 3 ((m 2 3) + 1)) 3 j))
    (o7 : ¬ wr ((zu m 21 ((wr (c : Int)).toNat) v) 21 ((wr (c : Int)).toNat)) = (-1) → wr (nxC (zu m 21 ((wr (c : Int)).toNat) v)) = 43 → (0 ≤ ((m 2 3) + 1) ∧ ((m 2 3) + 1) ≤ 1000))
    (o8 : ¬ wr ((zu m 21 ((wr (c : Int)).toNat) v) 21 ((wr (c : Int)).toNat)) = (-1) → wr (nxC (zu m 21 ((wr (c : Int)).toNat) v)) = 43 → (0 ≤ (m 2 2) ∧ (m 2 2) ≤ 80))
    (o9 : ¬ wr ((zu m 21 ((wr (c : Int)).toNat) v) 21 ((wr (c : Int)).toNat)) = (-1) → wr (nxC (zu m 21 ((wr (c : Int)).toNat) v)) = 43 → wr (nxC (zu (zu m 21 ((wr (c : Int)).toNat) v) 2 3 ((m 2 3) + 1))) < 48 → (0 ≤ wr (c : Int) ∧ wr (c : Int) < 8))
    (o10 : ¬ wr ((zu m 21 ((wr (c : Int)).toNat) v) 21 ((wr (c : Int)).toNat)) = (-1) → wr (nxC (zu m 21 ((wr (c : Int)).toNat) v)) = 43 → wr (nxC (zu (zu m 21 ((wr (c : Int)).toNat) v) 2 3 ((m 2 3) + 1))) < 48 → (0 ≤ wr (c : Int) ∧ wr (c : Int) < 8))
    (o11 : ¬ wr ((zu m 21 ((wr (c : Int)).toNat) v) 21 ((wr (c : Int)).toNat)) = (-1) → wr (nxC (zu m 21 ((wr (c : Int)).toNat) v)) = 43 → wr (nxC (zu (zu m 21 ((wr (c : Int)).toNat) v) 2 3 ((m 2 3) + 1))) < 48 → (0 ≤ wr (c : Int) ∧ wr (c : Int) < 8))
    (o12 : ¬ wr ((zu m 21 ((wr (c : Int)).toNat) v) 21 ((wr (c : Int)).toNat)) = (-1) → wr (nxC (zu m 21 ((wr (c : Int)).toNat) v)) = 43 → wr (nxC (zu (zu m 21 ((wr (c : Int)).toNat) v) 2 3 ((m 2 3) + 1))) < 48 → wr ((zu (zu (zu (zu m 21 ((wr (c : Int)).toNat) v) 2 3 ((m 2 3) + 1)) 22 ((wr (c : Int)).toNat) (-1)) 23 ((wr (c : Int)).toNat) 0) 22 ((wr (c : Int)).toNat)) = (-1) → κ (some (zi 0)) (zu (zu (zu (zu m 21 ((wr (c : Int)).toNat) v) 2 3 ((m 2 3) + 1)) 22 ((wr (c : Int)).toNat) (-1)) 23 ((wr (c : Int)).toNat) 0))
    (o13 : ¬ wr ((zu m 21 ((wr (c : Int)).toNat) v) 21 ((wr (c : Int)).toNat)) = (-1) → wr (nxC (zu m 21 ((wr (c : Int)).toNat) v)) = 43 → wr (nxC (zu (zu m 21 ((wr (c : Int)).toNat) v) 2 3 ((m 2 3) + 1))) < 48 → ¬ wr ((zu (zu (zu (zu m 21 ((wr (c : Int)).toNat) v) 2 3 ((m 2 3) + 1)) 22 ((wr (c : Int)).toNat) (-1)) 23 ((wr (c : Int)).toNat) 0) 22 ((wr (c : Int)).toNat)) = (-1) → False)
    (o14 : ¬ wr ((zu m 21 ((wr (c : Int)).toNat) v) 21 ((wr (c : Int)).toNat)) = (-1) → wr (nxC (zu m 21 ((wr (c : Int)).toNat) v)) = 43 → ¬ wr (nxC (zu (zu m 21 ((wr (c : Int)).toNat) v) 2 3 ((m 2 3) + 1))) < 48 → ¬ 57 < wr (nxC (zu (zu m 21 ((wr (c : Int)).toNat) v) 2 3 ((m 2 3) + 1))) → (0 ≤ wr (c : Int) ∧ wr (c : Int) < 8))
    (o15 : ¬ wr ((zu m 21 ((wr (c : Int)).toNat) v) 21 ((wr (c : Int)).toNat)) = (-1) → wr (nxC (zu m 21 ((wr (c : Int)).toNat) v)) = 43 → ¬ wr (nxC (zu (zu m 21 ((wr (c : Int)).toNat) v) 2 3 ((m 2 3) + 1))) < 48 → ¬ 57 < wr (nxC (zu (zu m 21 ((wr (c : Int)).toNat) v) 2 3 ((m 2 3) + 1))) → (0 ≤ wr (c : Int) ∧ wr (c : Int) < 8))
    (o16 : ¬ wr ((zu m 21 ((wr (c : Int)).toNat) v) 21 ((wr (c : Int)).toNat)) = (-1) → wr (nxC (zu m 21 ((wr (c : Int)).toNat) v)) = 43 → ¬ wr (nxC (zu (zu m 21 ((wr (c : Int)).toNat) v) 2 3 ((m 2 3) + 1))) < 48 → ¬ 57 < wr (nxC (zu (zu m 21 ((wr (c : Int)).toNat) v) 2 3 ((m 2 3) + 1))) → (0 ≤ wr (c : Int) ∧ wr (c : Int) < 8))
    (o17 : ¬ wr ((zu m 21 ((wr (c : Int)).toNat) v) 21 ((wr (c : Int)).toNat)) = (-1) → wr (nxC (zu m 21 ((wr (c : Int)).toNat) v)) = 43 → ¬ wr (nxC (zu (zu m 21 ((wr (c : Int)).toNat) v) 2 3 ((m 2 3) + 1))) < 48 → ¬ 57 < wr (nxC (zu (zu m 21 ((wr (c : Int)).toNat) v) 2 3 ((m 2 3) + 1))) → wr ((zu (zu (zu (zu (zu m 21 ((wr (c : Int)).toNat) v) 2 3 ((m 2 3) + 1)) 2 3 (((m 2 3) + 1) + 1)) 22 ((wr (c : Int)).toNat) (wr ((nxC (zu (zu m 21 ((wr (c : Int)).toNat) v) 2 3 ((m 2 3) + 1))) - 48))) 23 ((wr (c : Int)).toNat) 0) 22 ((wr (c : Int)).toNat)) = (-1) → False)
    (o18 : ¬ wr ((zu m 21 ((wr (c : Int)).toNat) v) 21 ((wr (c : Int)).toNat)) = (-1) → wr (nxC (zu m 21 ((wr (c : Int)).toNat) v)) = 43 → ¬ wr (nxC (zu (zu m 21 ((wr (c : Int)).toNat) v) 2 3 ((m 2 3) + 1))) < 48 → ¬ 57 < wr (nxC (zu (zu m 21 ((wr (c : Int)).toNat) v) 2 3 ((m 2 3) + 1))) → ¬ wr ((zu (zu (zu (zu (zu m 21 ((wr (c : Int)).toNat) v) 2 3 ((m 2 3) + 1)) 2 3 (((m 2 3) + 1) + 1)) 22 ((wr (c : Int)).toNat) (wr ((nxC (zu (zu m 21 ((wr (c : Int)).toNat) v) 2 3 ((m 2 3) + 1))) - 48))) 23 ((wr (c : Int)).toNat) 0) 22 ((wr (c : Int)).toNat)) = (-1) → κ (some (zi 1)) (zu (zu (zu (zu (zu m 21 ((wr (c : Int)).toNat) v) 2 3 ((m 2 3) + 1)) 2 3 (((m 2 3) + 1) + 1)) 22 ((wr (c : Int)).toNat) (wr ((nxC (zu (zu m 21 ((wr (c : Int)).toNat) v) 2 3 ((m 2 3) + 1))) - 48))) 23 ((wr (c : Int)).toNat) 0))
    (o19 : ¬ wr ((zu m 21 ((wr (c : Int)).toNat) v) 21 ((wr (c : Int)).toNat)) = (-1) → wr (nxC (zu m 21 ((wr (c : Int)).toNat) v)) = 43 → ¬ wr (nxC (zu (zu m 21 ((wr (c : Int)).toNat) v) 2 3 ((m 2 3) + 1))) < 48 → 57 < wr (nxC (zu (zu m 21 ((wr (c : Int)).toNat) v) 2 3 ((m 2 3) + 1))) → (0 ≤ wr (c : Int) ∧ wr (c : Int) < 8))
    (o20 : ¬ wr ((zu m 21 ((wr (c : Int)).toNat) v) 21 ((wr (c : Int)).toNat)) = (-1) → wr (nxC (zu m 21 ((wr (c : Int)).toNat) v)) = 43 → ¬ wr (nxC (zu (zu m 21 ((wr (c : Int)).toNat) v) 2 3 ((m 2 3) + 1))) < 48 → 57 < wr (nxC (zu (zu m 21 ((wr (c : Int)).toNat) v) 2 3 ((m 2 3) + 1))) → (0 ≤ wr (c : Int) ∧ wr (c : Int) < 8))
    (o21 : ¬ wr ((zu m 21 ((wr (c : Int)).toNat) v) 21 ((wr (c : Int)).toNat)) = (-1) → wr (nxC (zu m 21 ((wr (c : Int)).toNat) v)) = 43 → ¬ wr (nxC (zu (zu m 21 ((wr (c : Int)).toNat) v) 2 3 ((m 2 3) + 1))) < 48 → 57 < wr (nxC (zu (zu m 21 ((wr (c : Int)).toNat) v) 2 3 ((m 2 3) + 1))) → (0 ≤ wr (c : Int) ∧ wr (c : Int) < 8))
    (o22 : ¬ wr ((zu m 21 ((wr (c : Int)).toNat) v) 21 ((wr (c : Int)).toNat)) = (-1) → wr (nxC (zu m 21 ((wr (c : Int)).toNat) v)) = 43 → ¬ wr (nxC (zu (zu m 21 ((wr (c : Int)).toNat) v) 2 3 ((m 2 3) + 1))) < 48 → 57 < wr (nxC (zu (zu m 21 ((wr (c : Int)).toNat) v) 2 3 ((m 2 3) + 1))) → wr ((zu (zu (zu (zu m 21 ((wr (c : Int)).toNat) v) 2 3 ((m 2 3) + 1)) 22 ((wr (c : Int)).toNat) (-1)) 23 ((wr (c : Int)).toNat) 0) 22 ((wr (c : Int)).toNat)) = (-1) → κ (some (zi 0)) (zu (zu (zu (zu m 21 ((wr (c : Int)).toNat) v) 2 3 ((m 2 3) + 1)) 22 ((wr (c : Int)).toNat) (-1)) 23 ((wr (c : Int)).toNat) 0))
    (o23 : ¬ wr ((zu m 21 ((wr (c : Int)).toNat) v) 21 ((wr (c : Int)).toNat)) = (-1) → wr (nxC (zu m 21 ((wr (c : Int)).toNat) v)) = 43 → ¬ wr (nxC (zu (zu m 21 ((wr (c : Int)).toNat) v) 2 3 ((m 2 3) + 1))) < 48 → 57 < wr (nxC (zu (zu m 21 ((wr (c : Int)).toNat) v) 2 3 ((m 2 3) + 1))) → ¬ wr ((zu (zu (zu (zu m 21 ((wr (c : Int)).toNat) v) 2 3 ((m 2 3) + 1)) 22 ((wr (c : Int)).toNat) (-1)) 23 ((wr (c : Int)).toNat) 0) 22 ((wr (c : Int)).toNat)) = (-1) → False)
    (o24 : ¬ wr ((zu m 21 ((wr (c : Int)).toNat) v) 21 ((wr (c : Int)).toNat)) = (-1) → ¬ wr (nxC (zu m 21 ((wr (c : Int)).toNat) v)) = 43 → (0 ≤ wr (c : Int) ∧ wr (c : Int) < 8))
    (o25 : ¬ wr ((zu m 21 ((wr (c : Int)).toNat) v) 21 ((wr (c : Int)).toNat)) = (-1) → ¬ wr (nxC (zu m 21 ((wr (c : Int)).toNat) v)) = 43 → (0 ≤ wr (c : Int) ∧ wr (c : Int) < 8))
    (o26 : ¬ wr ((zu m 21 ((wr (c : Int)).toNat) v) 21 ((wr (c : Int)).toNat)) = (-1) → ¬ wr (nxC (zu m 21 ((wr (c : Int)).toNat) v)) = 43 → (0 ≤ wr (c : Int) ∧ wr (c : Int) < 8))
    (o27 : ¬ wr ((zu m 21 ((wr (c : Int)).toNat) v) 21 ((wr (c : Int)).toNat)) = (-1) → ¬ wr (nxC (zu m 21 ((wr (c : Int)).toNat) v)) = 43 → wr ((zu (zu (zu m 21 ((wr (c : Int)).toNat) v) 22 ((wr (c : Int)).toNat) 0) 23 ((wr (c : Int)).toNat) 0) 22 ((wr (c : Int)).toNat)) = (-1) → False)
    (o28 : ¬ wr ((zu m 21 ((wr (c : Int)).toNat) v) 21 ((wr (c : Int)).toNat)) = (-1) → ¬ wr (nxC (zu m 21 ((wr (c : Int)).toNat) v)) = 43 → ¬ wr ((zu (zu (zu m 21 ((wr (c : Int)).toNat) v) 22 ((wr (c : Int)).toNat) 0) 23 ((wr (c : Int)).toNat) 0) 22 ((wr (c : Int)).toNat)) = (-1) → κ (some (zi 1)) (zu (zu (zu m 21 ((wr (c : Int)).toNat) v) 22 ((wr (c : Int)).toNat) 0) 23 ((wr (c : Int)).toNat) 0))
    (o29 : wr ((zu m 21 ((wr (c : Int)).toNat) v) 21 ((wr (c : Int)).toNat)) = (-1) → κ (some (zi 0)) (zu m 21 ((wr (c : Int)).toNat) v)) :
    T (D + 4) 41 (10, lo, [zi v, zi (c : Int), zr 21], m) κ :=
  zkeep hT hlo (hT.1 [] 6 (D + 4) 41 _ κ (And.intro (And.intro (o1) trivial) (And.intro (o2) (hT.1 [] 6 (D + 4) 41 (18, [(0, zr 17), (1, zr 2), (2, zi (c : Int))], [zi (-1), zi ((zu m 21 ((wr (c : Int)).toNat) v) 21 ((wr (c : Int)).toNat))], (zu m 21 ((wr (c : Int)).toNat) v)) _ (And.intro (fun a1 => (hT.1 [] 6 (D + 4) 41 (31, [(0, zr 17), (1, zr 2), (2, zi (c : Int))], [zi 43, zr 2, zi (c : Int), zr 22], (zu m 21 ((wr (c : Int)).toNat) v)) _ (hT.1 [] 6 (D + 3) 70 _ _ (z_next hT (o3 a1) (o4 a1) (o5 a1) (hT.1 [] 6 (D + 3) 70 _ _ (And.intro (fun a3 => (hT.1 [] 6 (D + 3) 70 (16, [(0, zr 2), (1, zi 43)], [zi 1, zi (m 2 3), zr 2], (zu m 21 ((wr (c : Int)).toNat) v)) _ (And.intro trivial (And.intro (z_b01L rfl) (hT.1 [] 6 (D + 4) 41 _ _ (And.intro (fun a5 => (z_litF a5 rfl).elim) (fun _ => (hT.1 [] 6 (D + 3) 71 _ _ (z_next hT (o6 a1 a3) (o7 a1 a3) (o8 a1 a3) (hT.1 [] 6 (D + 3) 71 _ _ (And.intro (fun a6 => (hT.1 [] 6 (D + 3) 71 (21, [(0, zr 2), (1, zi 0), (2, zi 9), (3, zi (nxC (zu (zu m 21 ((wr (c : Int)).toNat) v) 2 3 ((m 2 3) + 1))))], [], (zu (zu m 21 ((wr (c : Int)).toNat) v) 2 3 ((m 2 3) + 1))) _ (hT.1 [] 6 (D + 4) 41 _ _ (And.intro (And.intro (o9 a1 a3 a6) trivial) (hT.1 [] 6 (D + 4) 41 (55, [(0, zr 17), (1, zr 2), (2, zi (c : Int))], [zi 0, zi (c : Int), zr 23], (zu (zu (zu m 21 ((wr (c : Int)).toNat) v) 2 3 ((m 2 3) + 1)) 22 ((wr (c : Int)).toNat) (-1))) _ (And.intro (And.intro (o10 a1 a3 a6) trivial) (And.intro (o11 a1 a3 a6) (hT.1 [] 6 (D + 4) 41 (63, [(0, zr 17), (1, zr 2), (2, zi (c : Int))], [zi (-1), zi ((zu (zu (zu (zu m 21 ((wr (c : Int)).toNat) v) 2 3 ((m 2 3) + 1)) 22 ((wr (c : Int)).toNat) (-1)) 23 ((wr (c : Int)).toNat) 0) 22 ((wr (c : Int)).toNat))], (zu (zu (zu (zu m 21 ((wr (c : Int)).toNat) v) 2 3 ((m 2 3) + 1)) 22 ((wr (c : Int)).toNat) (-1)) 23 ((wr (c : Int)).toNat) 0)) _ (And.intro (fun a8 => (And.intro (z_b01L rfl) (o12 a1 a3 a6 a8))) (fun a9 => (o13 a1 a3 a6 a9).elim)))))))))) (fun a7 => (hT.1 [] 6 (D + 3) 71 (13, [(0, zr 2), (1, zi 0), (2, zi 9), (3, zi (nxC (zu (zu m 21 ((wr (c : Int)).toNat) v) 2 3 ((m 2 3) + 1))))], [], (zu (zu m 21 ((wr (c : Int)).toNat) v) 2 3 ((m 2 3) + 1))) _ (And.intro (fun a10 => (hT.1 [] 6 (D + 3) 71 (24, [(0, zr 2), (1, zi 0), (2, zi 9), (3, zi (nxC (zu (zu m 21 ((wr (c : Int)).toNat) v) 2 3 ((m 2 3) + 1))))], [zr 2], (zu (zu m 21 ((wr (c : Int)).toNat) v) 2 3 ((m 2 3) + 1))) _ (And.intro trivial (hT.1 [] 6 (D + 3) 71 (34, [(0, zr 2), (1, zi 0), (2, zi 9), (3, zi (nxC (zu (zu m 21 ((wr (c : Int)).toNat) v) 2 3 ((m 2 3) + 1))))], [zi (nxC (zu (zu m 21 ((wr (c : Int)).toNat) v) 2 3 ((m 2 3) + 1)))], (zu (zu (zu m 21 ((wr (c : Int)).toNat) v) 2 3 ((m 2 3) + 1)) 2 3 (((m 2 3) + 1) + 1))) _ (hT.1 [] 6 (D + 4) 41 _ _ (And.intro (And.intro (o14 a1 a3 a7 a10) trivial) (hT.1 [] 6 (D + 4) 41 (55, [(0, zr 17), (1, zr 2), (2, zi (c : Int))], [zi 0, zi (c : Int), zr 23], (zu (zu (zu (zu m 21 ((wr (c : Int)).toNat) v) 2 3 ((m 2 3) + 1)) 2 3 (((m 2 3) + 1) + 1)) 22 ((wr (c : Int)).toNat) (wr ((nxC (zu (zu m 21 ((wr (c : Int)).toNat) v) 2 3 ((m 2 3) + 1))) - 48)))) _ (And.intro (And.intro (o15 a1 a3 a7 a10) trivial) (And.intro (o16 a1 a3 a7 a10) (hT.1 [] 6 (D + 4) 41 (63, [(0, zr 17), (1, zr 2), (2, zi (c : Int))], [zi (-1), zi ((zu (zu (zu (zu (zu m 21 ((wr (c : Int)).toNat) v) 2 3 ((m 2 3) + 1)) 2 3 (((m 2 3) + 1) + 1)) 22 ((wr (c : Int)).toNat) (wr ((nxC (zu (zu m 21 ((wr (c : Int)).toNat) v) 2 3 ((m 2 3) + 1))) - 48))) 23 ((wr (c : Int)).toNat) 0) 22 ((wr (c : Int)).toNat))], (zu (zu (zu (zu (zu m 21 ((wr (c : Int)).toNat) v) 2 3 ((m 2 3) + 1)) 2 3 (((m 2 3) + 1) + 1)) 22 ((wr (c : Int)).toNat) (wr ((nxC (zu (zu m 21 ((wr (c : Int)).toNat) v) 2 3 ((m 2 3) + 1))) - 48))) 23 ((wr (c : Int)).toNat) 0)) _ (And.intro (fun a12 => (o17 a1 a3 a7 a10 a12).elim) (fun a13 => (And.intro (z_b01L rfl) (o18 a1 a3 a7 a10 a13)))))))))))))) (fun a11 => (hT.1 [] 6 (D + 3) 71 (22, [(0, zr 2), (1, zi 0), (2, zi 9), (3, zi (nxC (zu (zu m 21 ((wr (c : Int)).toNat) v) 2 3 ((m 2 3) + 1))))], [zi (-1)], (zu (zu m 21 ((wr (c : Int)).toNat) v) 2 3 ((m 2 3) + 1))) _ (hT.1 [] 6 (D + 4) 41 _ _ (And.intro (And.intro (o19 a1 a3 a7 (Classical.byContradiction a11)) trivial) (hT.1 [] 6 (D + 4) 41 (55, [(0, zr 17), (1, zr 2), (2, zi (c : Int))], [zi 0, zi (c : Int), zr 23], (zu (zu (zu m 21 ((wr (c : Int)).toNat) v) 2 3 ((m 2 3) + 1)) 22 ((wr (c : Int)).toNat) (-1))) _ (And.intro (And.intro (o20 a1 a3 a7 (Classical.byContradiction a11)) trivial) (And.intro (o21 a1 a3 a7 (Classical.byContradiction a11)) (hT.1 [] 6 (D + 4) 41 (63, [(0, zr 17), (1, zr 2), (2, zi (c : Int))], [zi (-1), zi ((zu (zu (zu (zu m 21 ((wr (c : Int)).toNat) v) 2 3 ((m 2 3) + 1)) 22 ((wr (c : Int)).toNat) (-1)) 23 ((wr (c : Int)).toNat) 0) 22 ((wr (c : Int)).toNat))], (zu (zu (zu (zu m 21 ((wr (c : Int)).toNat) v) 2 3 ((m 2 3) + 1)) 22 ((wr (c : Int)).toNat) (-1)) 23 ((wr (c : Int)).toNat) 0)) _ (And.intro (fun a14 => (And.intro (z_b01L rfl) (o22 a1 a3 a7 (Classical.byContradiction a11) a14))) (fun a15 => (o23 a1 a3 a7 (Classical.byContradiction a11) a15).elim)))))))))))))))))))))))) (fun a4 => (And.intro (z_b01L rfl) (hT.1 [] 6 (D + 4) 41 _ _ (And.intro (fun _ => (And.intro (And.intro (o24 a1 a4) trivial) (hT.1 [] 6 (D + 4) 41 (54, [(0, zr 17), (1, zr 2), (2, zi (c : Int))], [zi (c : Int), zr 23], (zu (zu m 21 ((wr (c : Int)).toNat) v) 22 ((wr (c : Int)).toNat) 0)) _ (And.intro (And.intro (o25 a1 a4) trivial) (And.intro (o26 a1 a4) (hT.1 [] 6 (D + 4) 41 (62, [(0, zr 17), (1, zr 2), (2, zi (c : Int))], [zi ((zu (zu (zu m 21 ((wr (c : Int)).toNat) v) 22 ((wr (c : Int)).toNat) 0) 23 ((wr (c : Int)).toNat) 0) 22 ((wr (c : Int)).toNat))], (zu (zu (zu m 21 ((wr (c : Int)).toNat) v) 22 ((wr (c : Int)).toNat) 0) 23 ((wr (c : Int)).toNat) 0)) _ (And.intro (fun a17 => (o27 a1 a4 a17).elim) (fun a18 => (And.intro (z_b01L rfl) (o28 a1 a4 a18)))))))))) (fun a16 => (a16 (z_litT rfl)).elim))))))))))) (fun a2 => (And.intro (z_b01L rfl) (o29 (Classical.byContradiction a2)))))))))
theorem zb41_10 (hT : zRules T) {D : Nat} {κ : Option zA → zM → Prop} {m : zM} {c : Nat} {v : Int} {lo : zL} (hlo : z_keep [0, 1, 2] lo = [(0, zr 17), (1, zr 2), (2, zi (c : Int))])  (hB : zB m) (h_c : c ≤ 7) (h_v : (-1) ≤ v ∧ v ≤ 99) (hf0 : 0 ≤ m 2 3 ∧ m 2 3 ≤ 90) 
    (k1 : ¬ v = (-1) → (nxC (zu m 21 c v)) = 43 → (nxC (zu (zu m 21 c v) 2 3 ((m 2 3) + 1))) < 48 → zB (zu (zu (zu (zu m 21 c v) 2 3 ((m 2 3) + 1)) 22 c (-1)) 23 c 0) → κ (some (zi 0)) (zu (zu (zu (zu m 21 c v) 2 3 ((m 2 3) + 1)) 22 c (-1)) 23 c 0))
    (k2 : ¬ v = (-1) → (nxC (zu m 21 c v)) = 43 → ¬ (nxC (zu (zu m 21 c v) 2 3 ((m 2 3) + 1))) < 48 → ¬ 57 < (nxC (zu (zu m 21 c v) 2 3 ((m 2 3) + 1))) → zB (zu (zu (zu (zu (zu m 21 c v) 2 3 ((m 2 3) + 1)) 2 3 (((m 2 3) + 1) + 1)) 22 c ((nxC (zu (zu m 21 c v) 2 3 ((m 2 3) + 1))) - 48)) 23 c 0) → κ (some (zi 1)) (zu (zu (zu (zu (zu m 21 c v) 2 3 ((m 2 3) + 1)) 2 3 (((m 2 3) + 1) + 1)) 22 c ((nxC (zu (zu m 21 c v) 2 3 ((m 2 3) + 1))) - 48)) 23 c 0))
    (k3 : ¬ v = (-1) → (nxC (zu m 21 c v)) = 43 → ¬ (nxC (zu (zu m 21 c v) 2 3 ((m 2 3) + 1))) < 48 → 57 < (nxC (zu (zu m 21 c v) 2 3 ((m 2 3) + 1))) → zB (zu (zu (zu (zu m 21 c v) 2 3 ((m 2 3) + 1)) 22 c (-1)) 23 c 0) → κ (some (zi 0)) (zu (zu (zu (zu m 21 c v) 2 3 ((m 2 3) + 1)) 22 c (-1)) 23 c 0))
    (k4 : ¬ v = (-1) → ¬ (nxC (zu m 21 c v)) = 43 → zB (zu (zu (zu m 21 c v) 22 c 0) 23 c 0) → κ (some (zi 1)) (zu (zu (zu m 21 c v) 22 c 0) 23 c 0))
    (k5 : v = (-1) → zB (zu m 21 c v) → κ (some (zi 0)) (zu m 21 c v)) :
    T (D + 4) 41 (10, lo, [zi v, zi (c : Int), zr 21], m) κ := by
  have hb3 : 0 ≤ (m 2 2) ∧ (m 2 2) ≤ 80 := hB 2 2
  have hb4 : (-1) ≤ (nxC (zu m 21 c v)) ∧ (nxC (zu m 21 c v)) ≤ 65535 := nxCBo (zu m 21 c v) (fun j => hB 3 j)
  have hb5 : (-1) ≤ (nxC (zu (zu m 21 c v) 2 3 ((m 2 3) + 1))) ∧ (nxC (zu (zu m 21 c v) 2 3 ((m 2 3) + 1))) ≤ 65535 := nxCBo (zu (zu m 21 c v) 2 3 ((m 2 3) + 1)) (fun j => hB 3 j)
  have hb6 : (-1) ≤ ((zu (zu (zu (zu m 21 c v) 2 3 ((m 2 3) + 1)) 22 c (-1)) 23 c 0) 22 c) ∧ ((zu (zu (zu (zu m 21 c v) 2 3 ((m 2 3) + 1)) 22 c (-1)) 23 c 0) 22 c) ≤ (-1) := (by rw [show ((zu (zu (zu (zu m 21 c v) 2 3 ((m 2 3) + 1)) 22 c (-1)) 23 c 0) 22 c) = (-1) from (Eq.trans (zu_df rfl) (zu_sm (by omega)))]; exact ⟨Int.le_refl _, Int.le_refl _⟩)
  have hb7 : 0 ≤ ((zu (zu (zu m 21 c v) 22 c 0) 23 c 0) 22 c) ∧ ((zu (zu (zu m 21 c v) 22 c 0) 23 c 0) 22 c) ≤ 0 := (by rw [show ((zu (zu (zu m 21 c v) 22 c 0) 23 c 0) 22 c) = 0 from (Eq.trans (zu_df rfl) (zu_sm (by omega)))]; exact ⟨Int.le_refl _, Int.le_refl _⟩)
  have he0 : wr (c : Int) = (c : Int) := wr_id (by omega) (by omega)
  have he1 : (c : Int).toNat = c := by omega
  have he2 : ((zu m 21 c v) 21 c) = v := (zu_sm (by omega))
  have he3 : wr v = v := wr_id (by omega) (by omega)
  have he4 : wr (nxC (zu m 21 c v)) = (nxC (zu m 21 c v)) := wr_id (by omega) (by omega)
  have he5 : wr (nxC (zu (zu m 21 c v) 2 3 ((m 2 3) + 1))) = (nxC (zu (zu m 21 c v) 2 3 ((m 2 3) + 1))) := wr_id (by omega) (by omega)
  have he6 : wr ((zu (zu (zu (zu m 21 c v) 2 3 ((m 2 3) + 1)) 22 c (-1)) 23 c 0) 22 c) = ((zu (zu (zu (zu m 21 c v) 2 3 ((m 2 3) + 1)) 22 c (-1)) 23 c 0) 22 c) := wr_id (by omega) (by omega)
  have he7 : wr ((nxC (zu (zu m 21 c v) 2 3 ((m 2 3) + 1))) - 48) = ((nxC (zu (zu m 21 c v) 2 3 ((m 2 3) + 1))) - 48) := wr_id (by omega) (by omega)
  have he8 : ((zu (zu (zu (zu (zu m 21 c v) 2 3 ((m 2 3) + 1)) 2 3 (((m 2 3) + 1) + 1)) 22 c ((nxC (zu (zu m 21 c v) 2 3 ((m 2 3) + 1))) - 48)) 23 c 0) 22 c) = ((nxC (zu (zu m 21 c v) 2 3 ((m 2 3) + 1))) - 48) := (Eq.trans (zu_df rfl) (zu_sm (by omega)))
  have he9 : wr ((zu (zu (zu m 21 c v) 22 c 0) 23 c 0) 22 c) = ((zu (zu (zu m 21 c v) 22 c 0) 23 c 0) 22 c) := wr_id (by omega) (by omega)
  have key := @zb41_10r T hT D κ m c v lo hlo
  simp only [he0, he1, he2, he3, he4, he5, he6, he7, he8, he9, Int.toNat_natCast] at key
  exact key
    (by refine ⟨?_, ?_⟩ <;> omega)
    (by refine ⟨?_, ?_⟩ <;> omega)
    (fun x0 => fun j => hB 3 j)
    (fun x0 => by refine ⟨?_, ?_⟩ <;> omega)
    (fun x0 => by refine ⟨?_, ?_⟩ <;> omega)
    (fun x0 x1 => fun j => hB 3 j)
    (fun x0 x1 => by refine ⟨?_, ?_⟩ <;> omega)
    (fun x0 x1 => by refine ⟨?_, ?_⟩ <;> omega)
    (fun x0 x1 x2 => by refine ⟨?_, ?_⟩ <;> omega)
    (fun x0 x1 x2 => by refine ⟨?_, ?_⟩ <;> omega)
    (fun x0 x1 x2 => by refine ⟨?_, ?_⟩ <;> omega)
    (fun x0 x1 x2 x3 => k1 x0 x1 x2 (zB_u (zB_u (zB_u (zB_u hB (show (-1) ≤ v ∧ v ≤ 99 from ⟨by omega, by omega⟩)) (show (-1) ≤ ((m 2 3) + 1) ∧ ((m 2 3) + 1) ≤ 100 from ⟨by omega, by omega⟩)) (show (-1) ≤ (-1) ∧ (-1) ≤ 9 from ⟨by omega, by omega⟩)) trivial))
    (fun x0 x1 x2 x3 => by omega)
    (fun x0 x1 x2 x3 => by refine ⟨?_, ?_⟩ <;> omega)
    (fun x0 x1 x2 x3 => by refine ⟨?_, ?_⟩ <;> omega)
    (fun x0 x1 x2 x3 => by refine ⟨?_, ?_⟩ <;> omega)
    (fun x0 x1 x2 x3 x4 => by omega)
    (fun x0 x1 x2 x3 x4 => k2 x0 x1 x2 x3 (zB_u (zB_u (zB_u (zB_u (zB_u hB (show (-1) ≤ v ∧ v ≤ 99 from ⟨by omega, by omega⟩)) (show (-1) ≤ ((m 2 3) + 1) ∧ ((m 2 3) + 1) ≤ 100 from ⟨by omega, by omega⟩)) (show (-1) ≤ (((m 2 3) + 1) + 1) ∧ (((m 2 3) + 1) + 1) ≤ 100 from ⟨by omega, by omega⟩)) (show (-1) ≤ ((nxC (zu (zu m 21 c v) 2 3 ((m 2 3) + 1))) - 48) ∧ ((nxC (zu (zu m 21 c v) 2 3 ((m 2 3) + 1))) - 48) ≤ 9 from ⟨by omega, by omega⟩)) trivial))
    (fun x0 x1 x2 x3 => by refine ⟨?_, ?_⟩ <;> omega)
    (fun x0 x1 x2 x3 => by refine ⟨?_, ?_⟩ <;> omega)
    (fun x0 x1 x2 x3 => by refine ⟨?_, ?_⟩ <;> omega)
    (fun x0 x1 x2 x3 x4 => k3 x0 x1 x2 x3 (zB_u (zB_u (zB_u (zB_u hB (show (-1) ≤ v ∧ v ≤ 99 from ⟨by omega, by omega⟩)) (show (-1) ≤ ((m 2 3) + 1) ∧ ((m 2 3) + 1) ≤ 100 from ⟨by omega, by omega⟩)) (show (-1) ≤ (-1) ∧ (-1) ≤ 9 from ⟨by omega, by omega⟩)) trivial))
    (fun x0 x1 x2 x3 x4 => by omega)
    (fun x0 x1 => by refine ⟨?_, ?_⟩ <;> omega)
    (fun x0 x1 => by refine ⟨?_, ?_⟩ <;> omega)
    (fun x0 x1 => by refine ⟨?_, ?_⟩ <;> omega)
    (fun x0 x1 x2 => by omega)
    (fun x0 x1 x2 => k4 x0 x1 (zB_u (zB_u (zB_u hB (show (-1) ≤ v ∧ v ≤ 99 from ⟨by omega, by omega⟩)) (show (-1) ≤ 0 ∧ 0 ≤ 9 from ⟨by omega, by omega⟩)) trivial))
    (fun x0 => k5 x0 (zB_u hB (show (-1) ≤ v ∧ v ≤ 99 from ⟨by omega, by omega⟩)))
theorem zb206_0r (hT : zRules T) {D : Nat} {κ : Option zA → zM → Prop} {m : zM} 
    (o1 : ¬ wr (m 74 9) = 0 → T (D + 7) 206 (45, [(0, zr 74), (1, zi 1)], [], (zu (zu (zu (zu (zu (zu (zu (zu (zu m 74 12 0) 74 13 80) 74 14 (m 74 9)) 74 15 76) 74 16 0) 74 17 (-1)) 74 9 0) 74 22 0) 74 23 0)) κ)
    (o2 : wr (m 74 9) = 0 → κ (some (zi 0)) (zu (zu (zu (zu (zu (zu (zu m 74 12 0) 74 13 80) 74 14 (m 74 9)) 74 15 76) 74 16 0) 74 17 (-1)) 74 9 0)) :
    T (D + 7) 206 (0, [(0, zr 74)], [], m) κ :=
  hT.1 [(45, [0, 1]), (105, [0, 2]), (180, [0, 2])] 6 (D + 7) 206 _ κ (And.intro trivial (hT.1 [(45, [0, 1]), (105, [0, 2]), (180, [0, 2])] 6 (D + 7) 206 (10, [(0, zr 74)], [zr 80, zr 74], (zu m 74 12 0)) _ (hT.1 [] 6 (D + 6) 197 _ _ (And.intro trivial (hT.1 [] 6 (D + 6) 197 (10, [(0, zr 74), (1, zr 80), (2, zi (m 74 9)), (3, zi 76)], [], (zu (zu (zu m 74 12 0) 74 13 80) 74 14 (m 74 9))) _ (And.intro trivial (And.intro trivial (hT.1 [] 6 (D + 6) 197 (20, [(0, zr 74), (1, zr 80), (2, zi (m 74 9)), (3, zi 76)], [], (zu (zu (zu (zu (zu m 74 12 0) 74 13 80) 74 14 (m 74 9)) 74 15 76) 74 16 0)) _ (And.intro trivial (hT.1 [(45, [0, 1]), (105, [0, 2]), (180, [0, 2])] 6 (D + 7) 206 _ _ (And.intro trivial (And.intro (fun a1 => (hT.1 [(45, [0, 1]), (105, [0, 2]), (180, [0, 2])] 6 (D + 7) 206 (33, [(0, zr 74)], [], (zu (zu (zu (zu (zu (zu (zu m 74 12 0) 74 13 80) 74 14 (m 74 9)) 74 15 76) 74 16 0) 74 17 (-1)) 74 9 0)) _ (And.intro trivial (And.intro trivial (hT.1 [(45, [0, 1]), (105, [0, 2]), (180, [0, 2])] 6 (D + 7) 206 (43, [(0, zr 74)], [], (zu (zu (zu (zu (zu (zu (zu (zu (zu m 74 12 0) 74 13 80) 74 14 (m 74 9)) 74 15 76) 74 16 0) 74 17 (-1)) 74 9 0) 74 22 0) 74 23 0)) _ (o1 a1)))))) (fun a2 => (hT.1 [(45, [0, 1]), (105, [0, 2]), (180, [0, 2])] 6 (D + 7) 206 (31, [(0, zr 74)], [], (zu (zu (zu (zu (zu (zu (zu m 74 12 0) 74 13 80) 74 14 (m 74 9)) 74 15 76) 74 16 0) 74 17 (-1)) 74 9 0)) _ (o2 (Classical.byContradiction a2))))))))))))))))
theorem zb206_0 (hT : zRules T) {D : Nat} {κ : Option zA → zM → Prop} {m : zM}  (hB : zB m) 
    (k1 : ¬ (m 74 9) = 0 → zB (zu (zu (zu (zu (zu (zu (zu (zu (zu m 74 12 0) 74 13 80) 74 14 (m 74 9)) 74 15 76) 74 16 0) 74 17 (-1)) 74 9 0) 74 22 0) 74 23 0) → T (D + 7) 206 (45, [(0, zr 74), (1, zi 1)], [], (zu (zu (zu (zu (zu (zu (zu (zu (zu m 74 12 0) 74 13 80) 74 14 (m 74 9)) 74 15 76) 74 16 0) 74 17 (-1)) 74 9 0) 74 22 0) 74 23 0)) κ)
    (k2 : (m 74 9) = 0 → zB (zu (zu (zu (zu (zu (zu (zu m 74 12 0) 74 13 80) 74 14 (m 74 9)) 74 15 76) 74 16 0) 74 17 (-1)) 74 9 0) → κ (some (zi 0)) (zu (zu (zu (zu (zu (zu (zu m 74 12 0) 74 13 80) 74 14 (m 74 9)) 74 15 76) 74 16 0) 74 17 (-1)) 74 9 0)) :
    T (D + 7) 206 (0, [(0, zr 74)], [], m) κ := by
  have hb0 : 0 ≤ (m 74 9) ∧ (m 74 9) ≤ 80 := hB 74 9
  have he0 : wr (m 74 9) = (m 74 9) := wr_id (by omega) (by omega)
  have key := @zb206_0r T hT D κ m 
  simp only [he0, Int.toNat_natCast] at key
  exact key
    (fun x0 => k1 x0 (zB_u (zB_u (zB_u (zB_u (zB_u (zB_u (zB_u (zB_u (zB_u hB trivial) trivial) (show 0 ≤ (m 74 9) ∧ (m 74 9) ≤ 80 from ⟨by omega, by omega⟩)) (show 0 ≤ 76 ∧ 76 ≤ 80 from ⟨by omega, by omega⟩)) (show 0 ≤ 0 ∧ 0 ≤ 100 from ⟨by omega, by omega⟩)) trivial) (show 0 ≤ 0 ∧ 0 ≤ 80 from ⟨by omega, by omega⟩)) (show 0 ≤ 0 ∧ 0 ≤ 6 from ⟨by omega, by omega⟩)) (show 0 ≤ 0 ∧ 0 ≤ 8 from ⟨by omega, by omega⟩)))
    (fun x0 => k2 x0 (zB_u (zB_u (zB_u (zB_u (zB_u (zB_u (zB_u hB trivial) trivial) (show 0 ≤ (m 74 9) ∧ (m 74 9) ≤ 80 from ⟨by omega, by omega⟩)) (show 0 ≤ 76 ∧ 76 ≤ 80 from ⟨by omega, by omega⟩)) (show 0 ≤ 0 ∧ 0 ≤ 100 from ⟨by omega, by omega⟩)) trivial) (show 0 ≤ 0 ∧ 0 ≤ 80 from ⟨by omega, by omega⟩)))
theorem zb206_45ar (hT : zRules T) {D : Nat} {κ : Option zA → zM → Prop} {m : zM} {lo : zL} (hlo : z_keep [0, 1] lo = [(0, zr 74), (1, zi 0)]) 
    (o1 : ¬ wr (m 74 16) < wr (m 74 14) → ¬ wr (m 74 17) = (-1) → False)
    (o2 : ¬ wr (m 74 16) < wr (m 74 14) → wr (m 74 17) = (-1) → T (D + 7) 206 (105, [(0, zr 74), (2, zi 0)], [], m) κ)
    (o3 : wr (m 74 16) < wr (m 74 14) → ¬ wr (m 74 17) = (-1) → False)
    (o4 : wr (m 74 16) < wr (m 74 14) → wr (m 74 17) = (-1) → ¬ wr (m 74 16) = (-1) → κ (some (zi (wr ((-1) - (m 74 16))))) (zu m 74 17 (m 74 16)))
    (o5 : wr (m 74 16) < wr (m 74 14) → wr (m 74 17) = (-1) → wr (m 74 16) = (-1) → False) :
    T (D + 7) 206 (45, lo, [], m) κ :=
  zkeep hT hlo (hT.1 [(45, [0, 1]), (105, [0, 2]), (180, [0, 2])] 6 (D + 7) 206 _ κ (And.intro (fun _ => (hT.1 [(45, [0, 1]), (105, [0, 2]), (180, [0, 2])] 6 (D + 7) 206 (78, [(0, zr 74), (1, zi 0)], [zi (m 74 14), zi (m 74 16)], m) _ (And.intro (fun a2 => (hT.1 [] 6 (D + 6) 199 _ _ (And.intro (fun a4 => (o1 a2 a4).elim) (fun a5 => (hT.1 [] 6 (D + 6) 199 (13, [(0, zr 74)], [zi 1], m) _ (And.intro (z_b01L rfl) (hT.1 [(45, [0, 1]), (105, [0, 2]), (180, [0, 2])] 6 (D + 7) 206 _ _ (And.intro (fun _ => (o2 a2 (Classical.byContradiction a5))) (fun a6 => (a6 (z_litT rfl)).elim))))))))) (fun a3 => (hT.1 [] 6 (D + 6) 200 _ _ (hT.1 [] 6 (D + 5) 199 _ _ (And.intro (fun a7 => (o3 (Classical.byContradiction a3) a7).elim) (fun a8 => (hT.1 [] 6 (D + 5) 199 (13, [(0, zr 74)], [zi 1], m) _ (And.intro (z_b01L rfl) (hT.1 [] 6 (D + 6) 200 _ _ (And.intro (fun a9 => (z_litF a9 rfl).elim) (fun _ => (And.intro trivial (hT.1 [(45, [0, 1]), (105, [0, 2]), (180, [0, 2])] 6 (D + 7) 206 _ _ (hT.1 [] 6 (D + 6) 199 _ _ (And.intro (fun a10 => (And.intro (z_b01L rfl) (hT.1 [(45, [0, 1]), (105, [0, 2]), (180, [0, 2])] 6 (D + 7) 206 _ _ (And.intro (fun a12 => (z_litF a12 rfl).elim) (fun _ => (o4 (Classical.byContradiction a3) (Classical.byContradiction a8) a10)))))) (fun a11 => (o5 (Classical.byContradiction a3) (Classical.byContradiction a8) (Classical.byContradiction a11)).elim)))))))))))))))))) (fun a1 => (a1 (z_litT rfl)).elim)))
theorem zb206_45a (hT : zRules T) {D : Nat} {κ : Option zA → zM → Prop} {m : zM} {lo : zL} (hlo : z_keep [0, 1] lo = [(0, zr 74), (1, zi 0)])  (hB : zB m) (hrd : m 74 13 = 80) (hf0 : (-1) ≤ m 74 17 ∧ m 74 17 ≤ (-1)) (hf1 : 0 ≤ m 74 16 ∧ m 74 16 ≤ 76) 
    (k1 : ¬ (m 74 16) < (m 74 14) → T (D + 7) 206 (105, [(0, zr 74), (2, zi 0)], [], m) κ)
    (k2 : (m 74 16) < (m 74 14) → zB (zu m 74 17 (m 74 16)) → κ (some (zi ((-1) - (m 74 16)))) (zu m 74 17 (m 74 16))) :
    T (D + 7) 206 (45, lo, [], m) κ := by
  have hb2 : 0 ≤ (m 74 14) ∧ (m 74 14) ≤ 80 := hB 74 14
  have he0 : wr (m 74 16) = (m 74 16) := wr_id (by omega) (by omega)
  have he1 : wr (m 74 14) = (m 74 14) := wr_id (by omega) (by omega)
  have he2 : wr (m 74 17) = (m 74 17) := wr_id (by omega) (by omega)
  have he3 : wr ((-1) - (m 74 16)) = ((-1) - (m 74 16)) := wr_id (by omega) (by omega)
  have key := @zb206_45ar T hT D κ m  lo hlo
  simp only [he0, he1, he2, he3, Int.toNat_natCast] at key
  exact key
    (fun x0 x1 => by omega)
    (fun x0 x1 => k1 x0)
    (fun x0 x1 => by omega)
    (fun x0 x1 x2 => k2 x0 (zB_u hB trivial))
    (fun x0 x1 x2 => by omega)
theorem zb206_45br (hT : zRules T) {D : Nat} {κ : Option zA → zM → Prop} {m : zM} {lo : zL} (hlo : z_keep [0, 1] lo = [(0, zr 74), (1, zi 1)]) 
    (o1 : ¬ wr (m 74 17) = (-1) → False)
    (o2 : wr (m 74 17) = (-1) → T (D + 6) 207 (0, [(0, zr 74)], [], m) (fun r m1 => T (D + 7) 206 (60, [(0, zr 74), (1, zi 1)], r.toList ++ [], m1) κ)) :
    T (D + 7) 206 (45, lo, [], m) κ :=
  zkeep hT hlo (hT.1 [(45, [0, 1]), (105, [0, 2]), (180, [0, 2])] 6 (D + 7) 206 _ κ (And.intro (fun a1 => (z_litF a1 rfl).elim) (fun _ => (hT.1 [] 6 (D + 6) 199 _ _ (And.intro (fun a2 => (o1 a2).elim) (fun a3 => (hT.1 [] 6 (D + 6) 199 (13, [(0, zr 74)], [zi 1], m) _ (And.intro (z_b01L rfl) (hT.1 [(45, [0, 1]), (105, [0, 2]), (180, [0, 2])] 6 (D + 7) 206 _ _ (And.intro (fun a4 => (z_litF a4 rfl).elim) (fun _ => (o2 (Classical.byContradiction a3)))))))))))))
theorem zb206_45b (hT : zRules T) {D : Nat} {κ : Option zA → zM → Prop} {m : zM} {lo : zL} (hlo : z_keep [0, 1] lo = [(0, zr 74), (1, zi 1)])  (hB : zB m) (hrd : m 74 13 = 80) (hf0 : (-1) ≤ m 74 17 ∧ m 74 17 ≤ (-1)) (hf1 : 0 ≤ m 74 16 ∧ m 74 16 ≤ 76) 
    (k1 : T (D + 6) 207 (0, [(0, zr 74)], [], m) (fun r m1 => T (D + 7) 206 (60, [(0, zr 74), (1, zi 1)], r.toList ++ [], m1) κ)) :
    T (D + 7) 206 (45, lo, [], m) κ := by
  have he0 : wr (m 74 17) = (m 74 17) := wr_id (by omega) (by omega)
  have key := @zb206_45br T hT D κ m  lo hlo
  simp only [he0, Int.toNat_natCast] at key
  exact key
    (fun x0 => by omega)
    (fun x0 => k1 )
theorem zb206_45fr (hT : zRules T) {D : Nat} {κ : Option zA → zM → Prop} {m : zM} {mo : Int} {lo : zL} (hlo : z_keep [0, 1] lo = [(0, zr 74), (1, zi mo)]) 
    (o1 : wr mo = 0 → ¬ wr (m 74 16) < wr (m 74 14) → ¬ wr (m 74 17) = (-1) → κ (some (zi (wr ((-1) - (m 74 17))))) m)
    (o2 : wr mo = 0 → ¬ wr (m 74 16) < wr (m 74 14) → wr (m 74 17) = (-1) → False)
    (o3 : wr mo = 0 → wr (m 74 16) < wr (m 74 14) → ¬ wr (m 74 17) = (-1) → ¬ wr (m 74 17) = (-1) → κ (some (zi (wr ((-1) - (m 74 17))))) m)
    (o4 : wr mo = 0 → wr (m 74 16) < wr (m 74 14) → ¬ wr (m 74 17) = (-1) → wr (m 74 17) = (-1) → False)
    (o5 : wr mo = 0 → wr (m 74 16) < wr (m 74 14) → wr (m 74 17) = (-1) → False)
    (o6 : ¬ wr mo = 0 → ¬ wr (m 74 17) = (-1) → ¬ wr (m 74 16) < wr (m 74 14) → ¬ wr (m 74 17) = (-1) → κ (some (zi (wr ((-1) - (m 74 17))))) m)
    (o7 : ¬ wr mo = 0 → ¬ wr (m 74 17) = (-1) → ¬ wr (m 74 16) < wr (m 74 14) → wr (m 74 17) = (-1) → False)
    (o8 : ¬ wr mo = 0 → ¬ wr (m 74 17) = (-1) → wr (m 74 16) < wr (m 74 14) → ¬ wr (m 74 17) = (-1) → ¬ wr (m 74 17) = (-1) → κ (some (zi (wr ((-1) - (m 74 17))))) m)
    (o9 : ¬ wr mo = 0 → ¬ wr (m 74 17) = (-1) → wr (m 74 16) < wr (m 74 14) → ¬ wr (m 74 17) = (-1) → wr (m 74 17) = (-1) → False)
    (o10 : ¬ wr mo = 0 → ¬ wr (m 74 17) = (-1) → wr (m 74 16) < wr (m 74 14) → wr (m 74 17) = (-1) → False)
    (o11 : ¬ wr mo = 0 → wr (m 74 17) = (-1) → False) :
    T (D + 7) 206 (45, lo, [], m) κ :=
  zkeep hT hlo (hT.1 [(45, [0, 1]), (105, [0, 2]), (180, [0, 2])] 6 (D + 7) 206 _ κ (And.intro (fun a1 => (hT.1 [(45, [0, 1]), (105, [0, 2]), (180, [0, 2])] 6 (D + 7) 206 (78, [(0, zr 74), (1, zi mo)], [zi (m 74 14), zi (m 74 16)], m) _ (And.intro (fun a3 => (hT.1 [] 6 (D + 6) 199 _ _ (And.intro (fun a5 => (And.intro (z_b01L rfl) (hT.1 [(45, [0, 1]), (105, [0, 2]), (180, [0, 2])] 6 (D + 7) 206 _ _ (And.intro (fun a7 => (z_litF a7 rfl).elim) (fun _ => (o1 a1 a3 a5)))))) (fun a6 => (o2 a1 a3 (Classical.byContradiction a6)).elim)))) (fun a4 => (hT.1 [] 6 (D + 6) 200 _ _ (hT.1 [] 6 (D + 5) 199 _ _ (And.intro (fun a8 => (And.intro (z_b01L rfl) (hT.1 [] 6 (D + 6) 200 _ _ (And.intro (fun _ => (hT.1 [(45, [0, 1]), (105, [0, 2]), (180, [0, 2])] 6 (D + 7) 206 _ _ (hT.1 [] 6 (D + 6) 199 _ _ (And.intro (fun a11 => (And.intro (z_b01L rfl) (hT.1 [(45, [0, 1]), (105, [0, 2]), (180, [0, 2])] 6 (D + 7) 206 _ _ (And.intro (fun a13 => (z_litF a13 rfl).elim) (fun _ => (o3 a1 (Classical.byContradiction a4) a8 a11)))))) (fun a12 => (o4 a1 (Classical.byContradiction a4) a8 (Classical.byContradiction a12)).elim))))) (fun a10 => (a10 (z_litT rfl)).elim))))) (fun a9 => (o5 a1 (Classical.byContradiction a4) (Classical.byContradiction a9)).elim)))))))) (fun a2 => (hT.1 [] 6 (D + 6) 199 _ _ (And.intro (fun a14 => (And.intro (z_b01L rfl) (hT.1 [(45, [0, 1]), (105, [0, 2]), (180, [0, 2])] 6 (D + 7) 206 _ _ (And.intro (fun _ => (And.intro (fun a17 => (hT.1 [(45, [0, 1]), (105, [0, 2]), (180, [0, 2])] 6 (D + 7) 206 (89, [(0, zr 74), (1, zi mo)], [], m) _ (hT.1 [] 6 (D + 6) 199 _ _ (And.intro (fun a19 => (And.intro (z_b01L rfl) (hT.1 [(45, [0, 1]), (105, [0, 2]), (180, [0, 2])] 6 (D + 7) 206 _ _ (And.intro (fun a21 => (z_litF a21 rfl).elim) (fun _ => (o6 a2 a14 a17 a19)))))) (fun a20 => (o7 a2 a14 a17 (Classical.byContradiction a20)).elim))))) (fun a18 => (hT.1 [(45, [0, 1]), (105, [0, 2]), (180, [0, 2])] 6 (D + 7) 206 (81, [(0, zr 74), (1, zi mo)], [], m) _ (hT.1 [] 6 (D + 6) 200 _ _ (hT.1 [] 6 (D + 5) 199 _ _ (And.intro (fun a22 => (And.intro (z_b01L rfl) (hT.1 [] 6 (D + 6) 200 _ _ (And.intro (fun _ => (hT.1 [(45, [0, 1]), (105, [0, 2]), (180, [0, 2])] 6 (D + 7) 206 _ _ (hT.1 [] 6 (D + 6) 199 _ _ (And.intro (fun a25 => (And.intro (z_b01L rfl) (hT.1 [(45, [0, 1]), (105, [0, 2]), (180, [0, 2])] 6 (D + 7) 206 _ _ (And.intro (fun a27 => (z_litF a27 rfl).elim) (fun _ => (o8 a2 a14 (Classical.byContradiction a18) a22 a25)))))) (fun a26 => (o9 a2 a14 (Classical.byContradiction a18) a22 (Classical.byContradiction a26)).elim))))) (fun a24 => (a24 (z_litT rfl)).elim))))) (fun a23 => (o10 a2 a14 (Classical.byContradiction a18) (Classical.byContradiction a23)).elim)))))))) (fun a16 => (a16 (z_litT rfl)).elim))))) (fun a15 => (o11 a2 (Classical.byContradiction a15)).elim))))))
theorem zb206_45f (hT : zRules T) {D : Nat} {κ : Option zA → zM → Prop} {m : zM} {mo : Int} {lo : zL} (hlo : z_keep [0, 1] lo = [(0, zr 74), (1, zi mo)])  (hB : zB m) (hrd : m 74 13 = 80) (h_mo : 0 ≤ mo ∧ mo ≤ 1) (hf0 : 0 ≤ m 74 17 ∧ m 74 17 ≤ 100) (hf1 : 0 ≤ m 74 16 ∧ m 74 16 ≤ 100) 
    (k1 : mo = 0 → ¬ (m 74 16) < (m 74 14) → κ (some (zi ((-1) - (m 74 17)))) m)
    (k2 : mo = 0 → (m 74 16) < (m 74 14) → κ (some (zi ((-1) - (m 74 17)))) m)
    (k3 : ¬ mo = 0 → ¬ (m 74 16) < (m 74 14) → κ (some (zi ((-1) - (m 74 17)))) m)
    (k4 : ¬ mo = 0 → (m 74 16) < (m 74 14) → κ (some (zi ((-1) - (m 74 17)))) m) :
    T (D + 7) 206 (45, lo, [], m) κ := by
  have hb3 : 0 ≤ (m 74 14) ∧ (m 74 14) ≤ 80 := hB 74 14
  have he0 : wr mo = mo := wr_id (by omega) (by omega)
  have he1 : wr (m 74 16) = (m 74 16) := wr_id (by omega) (by omega)
  have he2 : wr (m 74 14) = (m 74 14) := wr_id (by omega) (by omega)
  have he3 : wr (m 74 17) = (m 74 17) := wr_id (by omega) (by omega)
  have he4 : wr ((-1) - (m 74 17)) = ((-1) - (m 74 17)) := wr_id (by omega) (by omega)
  have key := @zb206_45fr T hT D κ m mo lo hlo
  simp only [he0, he1, he2, he3, he4, Int.toNat_natCast] at key
  exact key
    (fun x0 x1 x2 => k1 x0 x1)
    (fun x0 x1 x2 => by omega)
    (fun x0 x1 x2 x3 => k2 x0 x1)
    (fun x0 x1 x2 x3 => by omega)
    (fun x0 x1 x2 => by omega)
    (fun x0 x1 x2 x3 => k3 x0 x2)
    (fun x0 x1 x2 x3 => by omega)
    (fun x0 x1 x2 x3 x4 => k4 x0 x2)
    (fun x0 x1 x2 x3 x4 => by omega)
    (fun x0 x1 x2 x3 => by omega)
    (fun x0 x1 => by omega)
theorem zb206_60r (hT : zRules T) {D : Nat} {κ : Option zA → zM → Prop} {m : zM} {lo : zL} (hlo : z_keep [0] lo = [(0, zr 74)]) 
    (o1 : ¬ wr (m 74 17) = (-1) → False)
    (o2 : wr (m 74 17) = (-1) → (m 74 13) = 80)
    (o3 : wr (m 74 17) = (-1) → (0 ≤ (m 74 16) ∧ (m 74 16) ≤ 1000))
    (o4 : wr (m 74 17) = (-1) → (0 ≤ (m 74 14) ∧ (m 74 14) ≤ 80))
    (o5 : wr (m 74 17) = (-1) → (0 ≤ (m 74 15) ∧ (m 74 15) ≤ 80))
    (o6 : wr (m 74 17) = (-1) → wr (hrR m 80) = 59 → T (D + 7) 206 (45, [(0, zr 74), (1, zi 1)], [], (zu m 74 16 ((m 74 16) + 1))) κ)
    (o7 : wr (m 74 17) = (-1) → ¬ wr (hrR m 80) = 59 → T (D + 7) 206 (45, [(0, zr 74), (1, zi 0)], [], m) κ) :
    T (D + 7) 206 (60, lo, [], m) κ :=
  zkeep hT hlo (hT.1 [(45, [0, 1]), (105, [0, 2]), (180, [0, 2])] 6 (D + 7) 206 _ κ (hT.1 [] 6 (D + 6) 201 _ _ (hT.1 [] 6 (D + 5) 199 _ _ (And.intro (fun a1 => (o1 a1).elim) (fun a2 => (hT.1 [] 6 (D + 5) 199 (13, [(0, zr 74)], [zi 1], m) _ (And.intro (z_b01L rfl) (hT.1 [] 6 (D + 6) 201 _ _ (And.intro (fun a3 => (z_litF a3 rfl).elim) (fun _ => (z_here80 hT (o2 (Classical.byContradiction a2)) (o3 (Classical.byContradiction a2)) (o4 (Classical.byContradiction a2)) (o5 (Classical.byContradiction a2)) (hT.1 [] 6 (D + 6) 201 _ _ (And.intro (fun a4 => (hT.1 [] 6 (D + 6) 201 (23, [(0, zr 74), (1, zi 59)], [zi 1, zi (m 74 16), zr 74], m) _ (And.intro trivial (And.intro (z_b01L rfl) (hT.1 [(45, [0, 1]), (105, [0, 2]), (180, [0, 2])] 6 (D + 7) 206 _ _ (o6 (Classical.byContradiction a2) a4)))))) (fun a5 => (And.intro (z_b01L rfl) (hT.1 [(45, [0, 1]), (105, [0, 2]), (180, [0, 2])] 6 (D + 7) 206 _ _ (o7 (Classical.byContradiction a2) a5)))))))))))))))))
theorem zb206_60 (hT : zRules T) {D : Nat} {κ : Option zA → zM → Prop} {m : zM} {lo : zL} (hlo : z_keep [0] lo = [(0, zr 74)])  (hB : zB m) (hrd : m 74 13 = 80) (hf0 : (-1) ≤ m 74 17 ∧ m 74 17 ≤ (-1)) (hf1 : 0 ≤ m 74 16 ∧ m 74 16 ≤ 76) 
    (k1 : (hrR m 80) = 59 → zB (zu m 74 16 ((m 74 16) + 1)) → T (D + 7) 206 (45, [(0, zr 74), (1, zi 1)], [], (zu m 74 16 ((m 74 16) + 1))) κ)
    (k2 : ¬ (hrR m 80) = 59 → T (D + 7) 206 (45, [(0, zr 74), (1, zi 0)], [], m) κ) :
    T (D + 7) 206 (60, lo, [], m) κ := by
  have hb2 : 0 ≤ (m 74 14) ∧ (m 74 14) ≤ 80 := hB 74 14
  have hb3 : 0 ≤ (m 74 15) ∧ (m 74 15) ≤ 80 := hB 74 15
  have hb4 : (-1) ≤ (hrR m 80) ∧ (hrR m 80) ≤ 255 := hrRB m 80
  have he0 : wr (m 74 17) = (m 74 17) := wr_id (by omega) (by omega)
  have he1 : wr (hrR m 80) = (hrR m 80) := wr_id (by omega) (by omega)
  have key := @zb206_60r T hT D κ m  lo hlo
  simp only [he0, he1, Int.toNat_natCast] at key
  exact key
    (fun x0 => by omega)
    (fun x0 => hrd)
    (fun x0 => by refine ⟨?_, ?_⟩ <;> omega)
    (fun x0 => by refine ⟨?_, ?_⟩ <;> omega)
    (fun x0 => by refine ⟨?_, ?_⟩ <;> omega)
    (fun x0 x1 => k1 x1 (zB_u hB (show 0 ≤ ((m 74 16) + 1) ∧ ((m 74 16) + 1) ≤ 100 from ⟨by omega, by omega⟩)))
    (fun x0 x1 => k2 x1)
theorem zb206_60fr (hT : zRules T) {D : Nat} {κ : Option zA → zM → Prop} {m : zM} {lo : zL} (hlo : z_keep [0] lo = [(0, zr 74)]) 
    (o1 : ¬ wr (m 74 17) = (-1) → T (D + 7) 206 (45, [(0, zr 74), (1, zi 0)], [], m) κ)
    (o2 : wr (m 74 17) = (-1) → False) :
    T (D + 7) 206 (60, lo, [], m) κ :=
  zkeep hT hlo (hT.1 [(45, [0, 1]), (105, [0, 2]), (180, [0, 2])] 6 (D + 7) 206 _ κ (hT.1 [] 6 (D + 6) 201 _ _ (hT.1 [] 6 (D + 5) 199 _ _ (And.intro (fun a1 => (And.intro (z_b01L rfl) (hT.1 [] 6 (D + 6) 201 _ _ (And.intro (fun _ => (And.intro (z_b01L rfl) (hT.1 [(45, [0, 1]), (105, [0, 2]), (180, [0, 2])] 6 (D + 7) 206 _ _ (o1 a1)))) (fun a3 => (a3 (z_litT rfl)).elim))))) (fun a2 => (o2 (Classical.byContradiction a2)).elim)))))
theorem zb206_60f (hT : zRules T) {D : Nat} {κ : Option zA → zM → Prop} {m : zM} {lo : zL} (hlo : z_keep [0] lo = [(0, zr 74)])  (hB : zB m) (hrd : m 74 13 = 80) (hf0 : 0 ≤ m 74 17 ∧ m 74 17 ≤ 100) (hf1 : 0 ≤ m 74 16 ∧ m 74 16 ≤ 100) 
    (k1 : T (D + 7) 206 (45, [(0, zr 74), (1, zi 0)], [], m) κ) :
    T (D + 7) 206 (60, lo, [], m) κ := by
  have he0 : wr (m 74 17) = (m 74 17) := wr_id (by omega) (by omega)
  have key := @zb206_60fr T hT D κ m  lo hlo
  simp only [he0, Int.toNat_natCast] at key
  exact key
    (fun x0 => k1 )
    (fun x0 => by omega)
theorem zb206_105r (hT : zRules T) {D : Nat} {κ : Option zA → zM → Prop} {m : zM} {i : Nat} {lo : zL} (hlo : z_keep [0, 2] lo = [(0, zr 74), (2, zi (i : Int))]) 
    (o1 : ¬ wr (i : Int) < wr (m 74 22) → T (D + 7) 206 (180, [(0, zr 74), (2, zi 0)], [], m) κ)
    (o2 : wr (i : Int) < wr (m 74 22) → (0 ≤ wr (2 * (i : Int)) ∧ wr (2 * (i : Int)) < 12))
    (o3 : wr (i : Int) < wr (m 74 22) → (0 ≤ wr (m 74 4) ∧ wr (m 74 4) < 6))
    (o4 : wr (i : Int) < wr (m 74 22) → (0 ≤ wr ((2 * (i : Int)) + 1) ∧ wr ((2 * (i : Int)) + 1) < 12))
    (o5 : wr (i : Int) < wr (m 74 22) → (0 ≤ wr (m 74 4) ∧ wr (m 74 4) < 59))
    (o6 : wr (i : Int) < wr (m 74 22) → (0 ≤ wr (6 + (m 74 4)) ∧ wr (6 + (m 74 4)) < 59))
    (o7 : wr (i : Int) < wr (m 74 22) → T (D + 7) 206 (105, [(0, zr 74), (2, zi ((i : Int) + 1))], [], (zu (zu (zu (zu m 78 ((wr (m 74 4)).toNat) (m 84 ((wr (2 * (i : Int))).toNat))) 75 ((wr (m 74 4)).toNat) (m 84 ((wr ((2 * (i : Int)) + 1)).toNat))) 75 ((wr (6 + (m 74 4))).toNat) (-1)) 74 4 ((m 74 4) + 1))) κ) :
    T (D + 7) 206 (105, lo, [], m) κ :=
  zkeep hT hlo (hT.1 [(45, [0, 1]), (105, [0, 2]), (180, [0, 2])] 6 (D + 7) 206 _ κ (And.intro (fun a1 => (o1 a1)) (fun a2 => (hT.1 [(45, [0, 1]), (105, [0, 2]), (180, [0, 2])] 6 (D + 7) 206 (117, [(0, zr 74), (2, zi (i : Int))], [zr 78], m) _ (hT.1 [(45, [0, 1]), (105, [0, 2]), (180, [0, 2])] 6 (D + 7) 206 (127, [(0, zr 74), (2, zi (i : Int))], [zi (i : Int), zi 2, zr 84, zi (m 74 4), zr 78], m) _ (And.intro (o2 (Classical.byContradiction a2)) (And.intro (And.intro (o3 (Classical.byContradiction a2)) trivial) (hT.1 [(45, [0, 1]), (105, [0, 2]), (180, [0, 2])] 6 (D + 7) 206 (135, [(0, zr 74), (2, zi (i : Int))], [zr 74, zr 75], (zu m 78 ((wr (m 74 4)).toNat) (m 84 ((wr (2 * (i : Int))).toNat)))) _ (hT.1 [(45, [0, 1]), (105, [0, 2]), (180, [0, 2])] 6 (D + 7) 206 (145, [(0, zr 74), (2, zi (i : Int))], [zi (2 * (i : Int)), zr 84, zi (m 74 4), zr 75], (zu m 78 ((wr (m 74 4)).toNat) (m 84 ((wr (2 * (i : Int))).toNat)))) _ (And.intro (o4 (Classical.byContradiction a2)) (And.intro (And.intro (o5 (Classical.byContradiction a2)) trivial) (hT.1 [(45, [0, 1]), (105, [0, 2]), (180, [0, 2])] 6 (D + 7) 206 (153, [(0, zr 74), (2, zi (i : Int))], [zr 75], (zu (zu m 78 ((wr (m 74 4)).toNat) (m 84 ((wr (2 * (i : Int))).toNat))) 75 ((wr (m 74 4)).toNat) (m 84 ((wr ((2 * (i : Int)) + 1)).toNat)))) _ (And.intro (And.intro (o6 (Classical.byContradiction a2)) trivial) (hT.1 [(45, [0, 1]), (105, [0, 2]), (180, [0, 2])] 6 (D + 7) 206 (162, [(0, zr 74), (2, zi (i : Int))], [], (zu (zu (zu m 78 ((wr (m 74 4)).toNat) (m 84 ((wr (2 * (i : Int))).toNat))) 75 ((wr (m 74 4)).toNat) (m 84 ((wr ((2 * (i : Int)) + 1)).toNat))) 75 ((wr (6 + (m 74 4))).toNat) (-1))) _ (And.intro trivial (hT.1 [(45, [0, 1]), (105, [0, 2]), (180, [0, 2])] 6 (D + 7) 206 (172, [(0, zr 74), (2, zi (i : Int))], [], (zu (zu (zu (zu m 78 ((wr (m 74 4)).toNat) (m 84 ((wr (2 * (i : Int))).toNat))) 75 ((wr (m 74 4)).toNat) (m 84 ((wr ((2 * (i : Int)) + 1)).toNat))) 75 ((wr (6 + (m 74 4))).toNat) (-1)) 74 4 ((m 74 4) + 1))) _ (o7 (Classical.byContradiction a2))))))))))))))))))
theorem zb206_105 (hT : zRules T) {D : Nat} {κ : Option zA → zM → Prop} {m : zM} {i : Nat} {lo : zL} (hlo : z_keep [0, 2] lo = [(0, zr 74), (2, zi (i : Int))])  (hB : zB m) (h_i : i ≤ 6) 
    (k1 : ¬ (i : Int) < (m 74 22) → T (D + 7) 206 (180, [(0, zr 74), (2, zi 0)], [], m) κ)
    (k2 : (i : Int) < (m 74 22) → (0 ≤ (m 74 4) ∧ (m 74 4) < 6))
    (k3 : (i : Int) < (m 74 22) → T (D + 7) 206 (105, [(0, zr 74), (2, zi ((i : Int) + 1))], [], (zu (zu (zu (zu m 78 ((m 74 4).toNat) (m 84 (2 * i))) 75 ((m 74 4).toNat) (m 84 (2 * i + 1))) 75 ((6 + (m 74 4)).toNat) (-1)) 74 4 ((m 74 4) + 1))) κ) :
    T (D + 7) 206 (105, lo, [], m) κ := by
  have hb1 : 0 ≤ (m 74 22) ∧ (m 74 22) ≤ 6 := hB 74 22
  have hb2 : 0 ≤ (m 74 4) ∧ (m 74 4) ≤ 6 := hB 74 4
  have hb3 : 0 ≤ (m 84 (2 * i)) ∧ (m 84 (2 * i)) ≤ 99 := hB 84 (2 * i)
  have hb4 : 0 ≤ (m 84 (2 * i + 1)) ∧ (m 84 (2 * i + 1)) ≤ 99 := hB 84 (2 * i + 1)
  have he0 : wr (i : Int) = (i : Int) := wr_id (by omega) (by omega)
  have he1 : wr (m 74 22) = (m 74 22) := wr_id (by omega) (by omega)
  have he2 : wr (2 * (i : Int)) = (2 * (i : Int)) := wr_id (by omega) (by omega)
  have he3 : (2 * (i : Int)).toNat = 2 * i := by omega
  have he4 : wr (m 74 4) = (m 74 4) := wr_id (by omega) (by omega)
  have he5 : wr ((2 * (i : Int)) + 1) = ((2 * (i : Int)) + 1) := wr_id (by omega) (by omega)
  have he6 : ((2 * (i : Int)) + 1).toNat = 2 * i + 1 := by omega
  have he7 : wr (6 + (m 74 4)) = (6 + (m 74 4)) := wr_id (by omega) (by omega)
  have key := @zb206_105r T hT D κ m i lo hlo
  simp only [he0, he1, he2, he3, he4, he5, he6, he7, Int.toNat_natCast] at key
  exact key
    k1
    (fun x0 => by refine ⟨?_, ?_⟩ <;> omega)
    k2
    (fun x0 => by refine ⟨?_, ?_⟩ <;> omega)
    (fun x0 => by refine ⟨?_, ?_⟩ <;> omega)
    (fun x0 => by refine ⟨?_, ?_⟩ <;> omega)
    k3
theorem zb206_180r (hT : zRules T) {D : Nat} {κ : Option zA → zM → Prop} {m : zM} {i : Nat} {lo : zL} (hlo : z_keep [0, 2] lo = [(0, zr 74), (2, zi (i : Int))]) 
    (o1 : ¬ wr (i : Int) < wr (m 74 23) → κ (some (zi (wr ((m 74 22) + (m 74 23))))) (zu (zu m 74 35 0) 74 62 ((m 74 62) + 1)))
    (o2 : wr (i : Int) < wr (m 74 23) → (0 ≤ wr (2 * (i : Int)) ∧ wr (2 * (i : Int)) < 16))
    (o3 : wr (i : Int) < wr (m 74 23) → (0 ≤ wr (12 + (m 74 6)) ∧ wr (12 + (m 74 6)) < 59))
    (o4 : wr (i : Int) < wr (m 74 23) → (0 ≤ wr ((2 * (i : Int)) + 1) ∧ wr ((2 * (i : Int)) + 1) < 16))
    (o5 : wr (i : Int) < wr (m 74 23) → (0 ≤ wr (20 + (m 74 6)) ∧ wr (20 + (m 74 6)) < 59))
    (o6 : wr (i : Int) < wr (m 74 23) → (0 ≤ wr (28 + (m 74 6)) ∧ wr (28 + (m 74 6)) < 59))
    (o7 : wr (i : Int) < wr (m 74 23) → T (D + 7) 206 (180, [(0, zr 74), (2, zi ((i : Int) + 1))], [], (zu (zu (zu (zu m 75 ((wr (12 + (m 74 6))).toNat) (m 85 ((wr (2 * (i : Int))).toNat))) 75 ((wr (20 + (m 74 6))).toNat) (m 85 ((wr ((2 * (i : Int)) + 1)).toNat))) 75 ((wr (28 + (m 74 6))).toNat) 0) 74 6 ((m 74 6) + 1))) κ) :
    T (D + 7) 206 (180, lo, [], m) κ :=
  zkeep hT hlo (hT.1 [(45, [0, 1]), (105, [0, 2]), (180, [0, 2])] 6 (D + 7) 206 _ κ (And.intro (fun a1 => (hT.1 [(45, [0, 1]), (105, [0, 2]), (180, [0, 2])] 6 (D + 7) 206 (261, [(0, zr 74), (2, zi (i : Int))], [zi 0, zr 74], m) _ (And.intro trivial (hT.1 [(45, [0, 1]), (105, [0, 2]), (180, [0, 2])] 6 (D + 7) 206 (271, [(0, zr 74), (2, zi (i : Int))], [zi ((m 74 62) + 1), zr 74], (zu m 74 35 0)) _ (And.intro trivial (hT.1 [(45, [0, 1]), (105, [0, 2]), (180, [0, 2])] 6 (D + 7) 206 (283, [(0, zr 74), (2, zi (i : Int))], [zi ((m 74 22) + (m 74 23))], (zu (zu m 74 35 0) 74 62 ((m 74 62) + 1))) _ (o1 a1))))))) (fun a2 => (hT.1 [(45, [0, 1]), (105, [0, 2]), (180, [0, 2])] 6 (D + 7) 206 (192, [(0, zr 74), (2, zi (i : Int))], [zr 75], m) _ (hT.1 [(45, [0, 1]), (105, [0, 2]), (180, [0, 2])] 6 (D + 7) 206 (203, [(0, zr 74), (2, zi (i : Int))], [zr 85, zi (12 + (m 74 6)), zr 75], m) _ (And.intro (o2 (Classical.byContradiction a2)) (And.intro (And.intro (o3 (Classical.byContradiction a2)) trivial) (hT.1 [(45, [0, 1]), (105, [0, 2]), (180, [0, 2])] 6 (D + 7) 206 (209, [(0, zr 74), (2, zi (i : Int))], [zr 74], (zu m 75 ((wr (12 + (m 74 6))).toNat) (m 85 ((wr (2 * (i : Int))).toNat)))) _ (hT.1 [(45, [0, 1]), (105, [0, 2]), (180, [0, 2])] 6 (D + 7) 206 (220, [(0, zr 74), (2, zi (i : Int))], [zr 74, zi (20 + (m 74 6)), zr 75], (zu m 75 ((wr (12 + (m 74 6))).toNat) (m 85 ((wr (2 * (i : Int))).toNat)))) _ (hT.1 [(45, [0, 1]), (105, [0, 2]), (180, [0, 2])] 6 (D + 7) 206 (228, [(0, zr 74), (2, zi (i : Int))], [zi ((2 * (i : Int)) + 1), zr 85, zi (20 + (m 74 6)), zr 75], (zu m 75 ((wr (12 + (m 74 6))).toNat) (m 85 ((wr (2 * (i : Int))).toNat)))) _ (And.intro (o4 (Classical.byContradiction a2)) (And.intro (And.intro (o5 (Classical.byContradiction a2)) trivial) (hT.1 [(45, [0, 1]), (105, [0, 2]), (180, [0, 2])] 6 (D + 7) 206 (237, [(0, zr 74), (2, zi (i : Int))], [zr 74, zi 28, zr 75], (zu (zu m 75 ((wr (12 + (m 74 6))).toNat) (m 85 ((wr (2 * (i : Int))).toNat))) 75 ((wr (20 + (m 74 6))).toNat) (m 85 ((wr ((2 * (i : Int)) + 1)).toNat)))) _ (And.intro (And.intro (o6 (Classical.byContradiction a2)) trivial) (hT.1 [(45, [0, 1]), (105, [0, 2]), (180, [0, 2])] 6 (D + 7) 206 (245, [(0, zr 74), (2, zi (i : Int))], [zr 74, zr 74], (zu (zu (zu m 75 ((wr (12 + (m 74 6))).toNat) (m 85 ((wr (2 * (i : Int))).toNat))) 75 ((wr (20 + (m 74 6))).toNat) (m 85 ((wr ((2 * (i : Int)) + 1)).toNat))) 75 ((wr (28 + (m 74 6))).toNat) 0)) _ (And.intro trivial (o7 (Classical.byContradiction a2))))))))))))))))))
theorem zb206_180 (hT : zRules T) {D : Nat} {κ : Option zA → zM → Prop} {m : zM} {i : Nat} {lo : zL} (hlo : z_keep [0, 2] lo = [(0, zr 74), (2, zi (i : Int))])  (hB : zB m) (h_i : i ≤ 8) 
    (k1 : ¬ (i : Int) < (m 74 23) → zB (zu (zu m 74 35 0) 74 62 ((m 74 62) + 1)) → κ (some (zi ((m 74 22) + (m 74 23)))) (zu (zu m 74 35 0) 74 62 ((m 74 62) + 1)))
    (k2 : (i : Int) < (m 74 23) → T (D + 7) 206 (180, [(0, zr 74), (2, zi ((i : Int) + 1))], [], (zu (zu (zu (zu m 75 ((12 + (m 74 6)).toNat) (m 85 (2 * i))) 75 ((20 + (m 74 6)).toNat) (m 85 (2 * i + 1))) 75 ((28 + (m 74 6)).toNat) 0) 74 6 ((m 74 6) + 1))) κ) :
    T (D + 7) 206 (180, lo, [], m) κ := by
  have hb1 : 0 ≤ (m 74 23) ∧ (m 74 23) ≤ 8 := hB 74 23
  have hb2 : 0 ≤ (m 74 6) ∧ (m 74 6) ≤ 8 := hB 74 6
  have hb3 : 0 ≤ (m 85 (2 * i)) ∧ (m 85 (2 * i)) ≤ 99 := hB 85 (2 * i)
  have hb4 : 0 ≤ (m 85 (2 * i + 1)) ∧ (m 85 (2 * i + 1)) ≤ 99 := hB 85 (2 * i + 1)
  have hb5 : 0 ≤ (m 74 22) ∧ (m 74 22) ≤ 6 := hB 74 22
  have he0 : wr (i : Int) = (i : Int) := wr_id (by omega) (by omega)
  have he1 : wr (m 74 23) = (m 74 23) := wr_id (by omega) (by omega)
  have he2 : wr (2 * (i : Int)) = (2 * (i : Int)) := wr_id (by omega) (by omega)
  have he3 : (2 * (i : Int)).toNat = 2 * i := by omega
  have he4 : wr (12 + (m 74 6)) = (12 + (m 74 6)) := wr_id (by omega) (by omega)
  have he5 : wr ((2 * (i : Int)) + 1) = ((2 * (i : Int)) + 1) := wr_id (by omega) (by omega)
  have he6 : ((2 * (i : Int)) + 1).toNat = 2 * i + 1 := by omega
  have he7 : wr (20 + (m 74 6)) = (20 + (m 74 6)) := wr_id (by omega) (by omega)
  have he8 : wr (28 + (m 74 6)) = (28 + (m 74 6)) := wr_id (by omega) (by omega)
  have he9 : wr ((m 74 22) + (m 74 23)) = ((m 74 22) + (m 74 23)) := wr_id (by omega) (by omega)
  have key := @zb206_180r T hT D κ m i lo hlo
  simp only [he0, he1, he2, he3, he4, he5, he6, he7, he8, he9, Int.toNat_natCast] at key
  exact key
    (fun x0 => k1 x0 (zB_u (zB_u hB (show 0 ≤ 0 ∧ 0 ≤ 12 from ⟨by omega, by omega⟩)) trivial))
    (fun x0 => by refine ⟨?_, ?_⟩ <;> omega)
    (fun x0 => by refine ⟨?_, ?_⟩ <;> omega)
    (fun x0 => by refine ⟨?_, ?_⟩ <;> omega)
    (fun x0 => by refine ⟨?_, ?_⟩ <;> omega)
    (fun x0 => by refine ⟨?_, ?_⟩ <;> omega)
    k2
theorem zb207_0r (hT : zRules T) {D : Nat} {κ : Option zA → zM → Prop} {m : zM} 
    (o1 : (m 74 13) = 80)
    (o2 : (0 ≤ (m 74 16) ∧ (m 74 16) ≤ 1000))
    (o3 : (0 ≤ (m 74 14) ∧ (m 74 14) ≤ 80))
    (o4 : (0 ≤ (m 74 15) ∧ (m 74 15) ≤ 80))
    (o5 : ¬ wr (hrR m 80) = 112 → (m 74 13) = 80)
    (o6 : ¬ wr (hrR m 80) = 112 → (0 ≤ (m 74 16) ∧ (m 74 16) ≤ 1000))
    (o7 : ¬ wr (hrR m 80) = 112 → (0 ≤ (m 74 14) ∧ (m 74 14) ≤ 80))
    (o8 : ¬ wr (hrR m 80) = 112 → (0 ≤ (m 74 15) ∧ (m 74 15) ≤ 80))
    (o9 : ¬ wr (hrR m 80) = 112 → ¬ wr (hrR m 80) = 99 → ¬ wr (m 74 17) = (-1) → False)
    (o10 : ¬ wr (hrR m 80) = 112 → ¬ wr (hrR m 80) = 99 → wr (m 74 17) = (-1) → κ (none) (zu m 74 17 (m 74 16)))
    (o11 : ¬ wr (hrR m 80) = 112 → wr (hrR m 80) = 99 → ¬ wr ((m 74 6) + (m 74 23)) < 8 → ¬ wr (m 74 17) = (-1) → False)
    (o12 : ¬ wr (hrR m 80) = 112 → wr (hrR m 80) = 99 → ¬ wr ((m 74 6) + (m 74 23)) < 8 → wr (m 74 17) = (-1) → κ (none) (zu m 74 17 (m 74 16)))
    (o13 : ¬ wr (hrR m 80) = 112 → wr (hrR m 80) = 99 → wr ((m 74 6) + (m 74 23)) < 8 → T (D + 5) 204 (0, [(0, zr 74)], [], (zu m 74 16 ((m 74 16) + 1))) (fun r m1 => T (D + 6) 207 (156, [(0, zr 74)], r.toList ++ [zi (2 * (m 74 23)), zr 85], m1) κ))
    (o14 : wr (hrR m 80) = 112 → ¬ wr ((m 74 4) + (m 74 22)) < 6 → (m 74 13) = 80)
    (o15 : wr (hrR m 80) = 112 → ¬ wr ((m 74 4) + (m 74 22)) < 6 → (0 ≤ (m 74 16) ∧ (m 74 16) ≤ 1000))
    (o16 : wr (hrR m 80) = 112 → ¬ wr ((m 74 4) + (m 74 22)) < 6 → (0 ≤ (m 74 14) ∧ (m 74 14) ≤ 80))
    (o17 : wr (hrR m 80) = 112 → ¬ wr ((m 74 4) + (m 74 22)) < 6 → (0 ≤ (m 74 15) ∧ (m 74 15) ≤ 80))
    (o18 : wr (hrR m 80) = 112 → ¬ wr ((m 74 4) + (m 74 22)) < 6 → ¬ wr (hrR m 80) = 99 → ¬ wr (m 74 17) = (-1) → False)
    (o19 : wr (hrR m 80) = 112 → ¬ wr ((m 74 4) + (m 74 22)) < 6 → ¬ wr (hrR m 80) = 99 → wr (m 74 17) = (-1) → κ (none) (zu m 74 17 (m 74 16)))
    (o20 : wr (hrR m 80) = 112 → ¬ wr ((m 74 4) + (m 74 22)) < 6 → wr (hrR m 80) = 99 → False)
    (o21 : wr (hrR m 80) = 112 → wr ((m 74 4) + (m 74 22)) < 6 → T (D + 5) 204 (0, [(0, zr 74)], [], (zu m 74 16 ((m 74 16) + 1))) (fun r m1 => T (D + 6) 207 (37, [(0, zr 74)], r.toList ++ [], m1) κ)) :
    T (D + 6) 207 (0, [(0, zr 74)], [], m) κ :=
  hT.1 [] 6 (D + 6) 207 _ κ (z_here80 hT (o1) (o2) (o3) (o4) (hT.1 [] 6 (D + 6) 207 _ _ (And.intro (fun a1 => (z_here80 hT (o5 a1) (o6 a1) (o7 a1) (o8 a1) (hT.1 [] 6 (D + 6) 207 _ _ (And.intro (fun a3 => (hT.1 [] 6 (D + 5) 200 _ _ (hT.1 [] 6 (D + 4) 199 _ _ (And.intro (fun a5 => (o9 a1 a3 a5).elim) (fun a6 => (hT.1 [] 6 (D + 4) 199 (13, [(0, zr 74)], [zi 1], m) _ (And.intro (z_b01L rfl) (hT.1 [] 6 (D + 5) 200 _ _ (And.intro (fun a7 => (z_litF a7 rfl).elim) (fun _ => (And.intro trivial (hT.1 [] 6 (D + 6) 207 _ _ (o10 a1 a3 (Classical.byContradiction a6)))))))))))))) (fun a4 => (hT.1 [] 6 (D + 6) 207 (126, [(0, zr 74)], [zi (m 74 23), zi (m 74 6)], m) _ (And.intro (fun a8 => (hT.1 [] 6 (D + 6) 207 (208, [(0, zr 74)], [zi (m 74 16), zr 74], m) _ (hT.1 [] 6 (D + 5) 200 _ _ (hT.1 [] 6 (D + 4) 199 _ _ (And.intro (fun a10 => (o11 a1 (Classical.byContradiction a4) a8 a10).elim) (fun a11 => (hT.1 [] 6 (D + 4) 199 (13, [(0, zr 74)], [zi 1], m) _ (And.intro (z_b01L rfl) (hT.1 [] 6 (D + 5) 200 _ _ (And.intro (fun a12 => (z_litF a12 rfl).elim) (fun _ => (And.intro trivial (hT.1 [] 6 (D + 6) 207 _ _ (o12 a1 (Classical.byContradiction a4) a8 (Classical.byContradiction a11))))))))))))))) (fun a9 => (hT.1 [] 6 (D + 6) 207 (137, [(0, zr 74)], [zi (m 74 16), zr 74], m) _ (And.intro trivial (hT.1 [] 6 (D + 6) 207 (147, [(0, zr 74)], [zi 2, zr 85], (zu m 74 16 ((m 74 16) + 1))) _ (o13 a1 (Classical.byContradiction a4) (Classical.byContradiction a9))))))))))))) (fun a2 => (hT.1 [] 6 (D + 6) 207 (17, [(0, zr 74)], [zi (m 74 22), zi (m 74 4)], m) _ (And.intro (fun a13 => (z_here80 hT (o14 (Classical.byContradiction a2) a13) (o15 (Classical.byContradiction a2) a13) (o16 (Classical.byContradiction a2) a13) (o17 (Classical.byContradiction a2) a13) (hT.1 [] 6 (D + 6) 207 _ _ (And.intro (fun a15 => (hT.1 [] 6 (D + 5) 200 _ _ (hT.1 [] 6 (D + 4) 199 _ _ (And.intro (fun a17 => (o18 (Classical.byContradiction a2) a13 a15 a17).elim) (fun a18 => (hT.1 [] 6 (D + 4) 199 (13, [(0, zr 74)], [zi 1], m) _ (And.intro (z_b01L rfl) (hT.1 [] 6 (D + 5) 200 _ _ (And.intro (fun a19 => (z_litF a19 rfl).elim) (fun _ => (And.intro trivial (hT.1 [] 6 (D + 6) 207 _ _ (o19 (Classical.byContradiction a2) a13 a15 (Classical.byContradiction a18)))))))))))))) (fun a16 => (o20 (Classical.byContradiction a2) a13 (Classical.byContradiction a16)).elim))))) (fun a14 => (hT.1 [] 6 (D + 6) 207 (28, [(0, zr 74)], [zi (m 74 16), zr 74], m) _ (And.intro trivial (o21 (Classical.byContradiction a2) (Classical.byContradiction a14)))))))))))
theorem zb207_0 (hT : zRules T) {D : Nat} {κ : Option zA → zM → Prop} {m : zM}  (hB : zB m) (hrd : m 74 13 = 80) (hf0 : (-1) ≤ m 74 17 ∧ m 74 17 ≤ (-1)) (hf1 : 0 ≤ m 74 16 ∧ m 74 16 ≤ 76) 
    (k1 : ¬ (hrR m 80) = 112 → ¬ (hrR m 80) = 99 → zB (zu m 74 17 (m 74 16)) → κ (none) (zu m 74 17 (m 74 16)))
    (k2 : ¬ (hrR m 80) = 112 → (hrR m 80) = 99 → ¬ ((m 74 6) + (m 74 23)) < 8 → zB (zu m 74 17 (m 74 16)) → κ (none) (zu m 74 17 (m 74 16)))
    (k3 : ¬ (hrR m 80) = 112 → (hrR m 80) = 99 → ((m 74 6) + (m 74 23)) < 8 → zB (zu m 74 16 ((m 74 16) + 1)) → T (D + 5) 204 (0, [(0, zr 74)], [], (zu m 74 16 ((m 74 16) + 1))) (fun r m1 => T (D + 6) 207 (156, [(0, zr 74)], r.toList ++ [zi (2 * (m 74 23)), zr 85], m1) κ))
    (k4 : (hrR m 80) = 112 → ¬ ((m 74 4) + (m 74 22)) < 6 → zB (zu m 74 17 (m 74 16)) → κ (none) (zu m 74 17 (m 74 16)))
    (k5 : (hrR m 80) = 112 → ((m 74 4) + (m 74 22)) < 6 → zB (zu m 74 16 ((m 74 16) + 1)) → T (D + 5) 204 (0, [(0, zr 74)], [], (zu m 74 16 ((m 74 16) + 1))) (fun r m1 => T (D + 6) 207 (37, [(0, zr 74)], r.toList ++ [], m1) κ)) :
    T (D + 6) 207 (0, [(0, zr 74)], [], m) κ := by
  have hb2 : 0 ≤ (m 74 14) ∧ (m 74 14) ≤ 80 := hB 74 14
  have hb3 : 0 ≤ (m 74 15) ∧ (m 74 15) ≤ 80 := hB 74 15
  have hb4 : (-1) ≤ (hrR m 80) ∧ (hrR m 80) ≤ 255 := hrRB m 80
  have hb5 : 0 ≤ (m 74 4) ∧ (m 74 4) ≤ 6 := hB 74 4
  have hb6 : 0 ≤ (m 74 22) ∧ (m 74 22) ≤ 6 := hB 74 22
  have hb7 : 0 ≤ (m 74 6) ∧ (m 74 6) ≤ 8 := hB 74 6
  have hb8 : 0 ≤ (m 74 23) ∧ (m 74 23) ≤ 8 := hB 74 23
  have he0 : wr (hrR m 80) = (hrR m 80) := wr_id (by omega) (by omega)
  have he1 : wr ((m 74 4) + (m 74 22)) = ((m 74 4) + (m 74 22)) := wr_id (by omega) (by omega)
  have he2 : wr (m 74 17) = (m 74 17) := wr_id (by omega) (by omega)
  have he3 : wr ((m 74 6) + (m 74 23)) = ((m 74 6) + (m 74 23)) := wr_id (by omega) (by omega)
  have key := @zb207_0r T hT D κ m 
  simp only [he0, he1, he2, he3, Int.toNat_natCast] at key
  exact key
    (hrd)
    (by refine ⟨?_, ?_⟩ <;> omega)
    (by refine ⟨?_, ?_⟩ <;> omega)
    (by refine ⟨?_, ?_⟩ <;> omega)
    (fun x0 => hrd)
    (fun x0 => by refine ⟨?_, ?_⟩ <;> omega)
    (fun x0 => by refine ⟨?_, ?_⟩ <;> omega)
    (fun x0 => by refine ⟨?_, ?_⟩ <;> omega)
    (fun x0 x1 x2 => by omega)
    (fun x0 x1 x2 => k1 x0 x1 (zB_u hB trivial))
    (fun x0 x1 x2 x3 => by omega)
    (fun x0 x1 x2 x3 => k2 x0 x1 x2 (zB_u hB trivial))
    (fun x0 x1 x2 => k3 x0 x1 x2 (zB_u hB (show 0 ≤ ((m 74 16) + 1) ∧ ((m 74 16) + 1) ≤ 100 from ⟨by omega, by omega⟩)))
    (fun x0 x1 => hrd)
    (fun x0 x1 => by refine ⟨?_, ?_⟩ <;> omega)
    (fun x0 x1 => by refine ⟨?_, ?_⟩ <;> omega)
    (fun x0 x1 => by refine ⟨?_, ?_⟩ <;> omega)
    (fun x0 x1 x2 x3 => by omega)
    (fun x0 x1 x2 x3 => k4 x0 x1 (zB_u hB trivial))
    (fun x0 x1 x2 => by omega)
    (fun x0 x1 => k5 x0 x1 (zB_u hB (show 0 ≤ ((m 74 16) + 1) ∧ ((m 74 16) + 1) ≤ 100 from ⟨by omega, by omega⟩)))
theorem zb207_37r (hT : zRules T) {D : Nat} {κ : Option zA → zM → Prop} {m : zM} {v : Int} {lo : zL} (hlo : z_keep [0] lo = [(0, zr 74)]) 
    (o1 : ¬ wr (m 74 17) = (-1) → False)
    (o2 : wr (m 74 17) = (-1) → ¬ wr v = 0 → ¬ wr (m 74 17) = (-1) → False)
    (o3 : wr (m 74 17) = (-1) → ¬ wr v = 0 → wr (m 74 17) = (-1) → (m 74 13) = 80)
    (o4 : wr (m 74 17) = (-1) → ¬ wr v = 0 → wr (m 74 17) = (-1) → (0 ≤ (m 74 16) ∧ (m 74 16) ≤ 1000))
    (o5 : wr (m 74 17) = (-1) → ¬ wr v = 0 → wr (m 74 17) = (-1) → (0 ≤ (m 74 14) ∧ (m 74 14) ≤ 80))
    (o6 : wr (m 74 17) = (-1) → ¬ wr v = 0 → wr (m 74 17) = (-1) → (0 ≤ (m 74 15) ∧ (m 74 15) ≤ 80))
    (o7 : wr (m 74 17) = (-1) → ¬ wr v = 0 → wr (m 74 17) = (-1) → wr (hrR m 80) = 64 → (0 ≤ wr (2 * (m 74 22)) ∧ wr (2 * (m 74 22)) < 12))
    (o8 : wr (m 74 17) = (-1) → ¬ wr v = 0 → wr (m 74 17) = (-1) → wr (hrR m 80) = 64 → ¬ wr (m 74 17) = (-1) → False)
    (o9 : wr (m 74 17) = (-1) → ¬ wr v = 0 → wr (m 74 17) = (-1) → wr (hrR m 80) = 64 → wr (m 74 17) = (-1) → (m 74 13) = 80)
    (o10 : wr (m 74 17) = (-1) → ¬ wr v = 0 → wr (m 74 17) = (-1) → wr (hrR m 80) = 64 → wr (m 74 17) = (-1) → (0 ≤ ((m 74 16) + 1) ∧ ((m 74 16) + 1) ≤ 1000))
    (o11 : wr (m 74 17) = (-1) → ¬ wr v = 0 → wr (m 74 17) = (-1) → wr (hrR m 80) = 64 → wr (m 74 17) = (-1) → (0 ≤ (m 74 14) ∧ (m 74 14) ≤ 80))
    (o12 : wr (m 74 17) = (-1) → ¬ wr v = 0 → wr (m 74 17) = (-1) → wr (hrR m 80) = 64 → wr (m 74 17) = (-1) → (0 ≤ (m 74 15) ∧ (m 74 15) ≤ 80))
    (o13 : wr (m 74 17) = (-1) → ¬ wr v = 0 → wr (m 74 17) = (-1) → wr (hrR m 80) = 64 → wr (m 74 17) = (-1) → wr (hrR (zu (zu m 74 16 ((m 74 16) + 1)) 84 ((wr (2 * (m 74 22))).toNat) v) 80) < 48 → ¬ wr (m 74 17) = (-1) → False)
    (o14 : wr (m 74 17) = (-1) → ¬ wr v = 0 → wr (m 74 17) = (-1) → wr (hrR m 80) = 64 → wr (m 74 17) = (-1) → wr (hrR (zu (zu m 74 16 ((m 74 16) + 1)) 84 ((wr (2 * (m 74 22))).toNat) v) 80) < 48 → wr (m 74 17) = (-1) → (0 ≤ wr ((2 * (m 74 22)) + 1) ∧ wr ((2 * (m 74 22)) + 1) < 12))
    (o15 : wr (m 74 17) = (-1) → ¬ wr v = 0 → wr (m 74 17) = (-1) → wr (hrR m 80) = 64 → wr (m 74 17) = (-1) → wr (hrR (zu (zu m 74 16 ((m 74 16) + 1)) 84 ((wr (2 * (m 74 22))).toNat) v) 80) < 48 → wr (m 74 17) = (-1) → κ (none) (zu (zu (zu (zu (zu m 74 16 ((m 74 16) + 1)) 84 ((wr (2 * (m 74 22))).toNat) v) 74 17 ((m 74 16) + 1)) 84 ((wr ((2 * (m 74 22)) + 1)).toNat) 0) 74 22 ((m 74 22) + 1)))
    (o16 : wr (m 74 17) = (-1) → ¬ wr v = 0 → wr (m 74 17) = (-1) → wr (hrR m 80) = 64 → wr (m 74 17) = (-1) → ¬ wr (hrR (zu (zu m 74 16 ((m 74 16) + 1)) 84 ((wr (2 * (m 74 22))).toNat) v) 80) < 48 → 51 < wr (hrR (zu (zu m 74 16 ((m 74 16) + 1)) 84 ((wr (2 * (m 74 22))).toNat) v) 80) → ¬ wr (m 74 17) = (-1) → False)
    (o17 : wr (m 74 17) = (-1) → ¬ wr v = 0 → wr (m 74 17) = (-1) → wr (hrR m 80) = 64 → wr (m 74 17) = (-1) → ¬ wr (hrR (zu (zu m 74 16 ((m 74 16) + 1)) 84 ((wr (2 * (m 74 22))).toNat) v) 80) < 48 → 51 < wr (hrR (zu (zu m 74 16 ((m 74 16) + 1)) 84 ((wr (2 * (m 74 22))).toNat) v) 80) → wr (m 74 17) = (-1) → (0 ≤ wr ((2 * (m 74 22)) + 1) ∧ wr ((2 * (m 74 22)) + 1) < 12))
    (o18 : wr (m 74 17) = (-1) → ¬ wr v = 0 → wr (m 74 17) = (-1) → wr (hrR m 80) = 64 → wr (m 74 17) = (-1) → ¬ wr (hrR (zu (zu m 74 16 ((m 74 16) + 1)) 84 ((wr (2 * (m 74 22))).toNat) v) 80) < 48 → 51 < wr (hrR (zu (zu m 74 16 ((m 74 16) + 1)) 84 ((wr (2 * (m 74 22))).toNat) v) 80) → wr (m 74 17) = (-1) → κ (none) (zu (zu (zu (zu (zu m 74 16 ((m 74 16) + 1)) 84 ((wr (2 * (m 74 22))).toNat) v) 74 17 ((m 74 16) + 1)) 84 ((wr ((2 * (m 74 22)) + 1)).toNat) 0) 74 22 ((m 74 22) + 1)))
    (o19 : wr (m 74 17) = (-1) → ¬ wr v = 0 → wr (m 74 17) = (-1) → wr (hrR m 80) = 64 → wr (m 74 17) = (-1) → ¬ wr (hrR (zu (zu m 74 16 ((m 74 16) + 1)) 84 ((wr (2 * (m 74 22))).toNat) v) 80) < 48 → ¬ 51 < wr (hrR (zu (zu m 74 16 ((m 74 16) + 1)) 84 ((wr (2 * (m 74 22))).toNat) v) 80) → (m 74 13) = 80)
    (o20 : wr (m 74 17) = (-1) → ¬ wr v = 0 → wr (m 74 17) = (-1) → wr (hrR m 80) = 64 → wr (m 74 17) = (-1) → ¬ wr (hrR (zu (zu m 74 16 ((m 74 16) + 1)) 84 ((wr (2 * (m 74 22))).toNat) v) 80) < 48 → ¬ 51 < wr (hrR (zu (zu m 74 16 ((m 74 16) + 1)) 84 ((wr (2 * (m 74 22))).toNat) v) 80) → (0 ≤ wr ((((m 74 16) + 1) + 1) - 1) ∧ wr ((((m 74 16) + 1) + 1) - 1) < 80))
    (o21 : wr (m 74 17) = (-1) → ¬ wr v = 0 → wr (m 74 17) = (-1) → wr (hrR m 80) = 64 → wr (m 74 17) = (-1) → ¬ wr (hrR (zu (zu m 74 16 ((m 74 16) + 1)) 84 ((wr (2 * (m 74 22))).toNat) v) 80) < 48 → ¬ 51 < wr (hrR (zu (zu m 74 16 ((m 74 16) + 1)) 84 ((wr (2 * (m 74 22))).toNat) v) 80) → (0 ≤ wr ((2 * (m 74 22)) + 1) ∧ wr ((2 * (m 74 22)) + 1) < 12))
    (o22 : wr (m 74 17) = (-1) → ¬ wr v = 0 → wr (m 74 17) = (-1) → wr (hrR m 80) = 64 → wr (m 74 17) = (-1) → ¬ wr (hrR (zu (zu m 74 16 ((m 74 16) + 1)) 84 ((wr (2 * (m 74 22))).toNat) v) 80) < 48 → ¬ 51 < wr (hrR (zu (zu m 74 16 ((m 74 16) + 1)) 84 ((wr (2 * (m 74 22))).toNat) v) 80) → κ (none) (zu (zu (zu (zu (zu m 74 16 ((m 74 16) + 1)) 84 ((wr (2 * (m 74 22))).toNat) v) 74 16 (((m 74 16) + 1) + 1)) 84 ((wr ((2 * (m 74 22)) + 1)).toNat) (wr ((m 80 ((wr ((((m 74 16) + 1) + 1) - 1)).toNat)) - 48))) 74 22 ((m 74 22) + 1)))
    (o23 : wr (m 74 17) = (-1) → ¬ wr v = 0 → wr (m 74 17) = (-1) → ¬ wr (hrR m 80) = 64 → ¬ wr (m 74 17) = (-1) → False)
    (o24 : wr (m 74 17) = (-1) → ¬ wr v = 0 → wr (m 74 17) = (-1) → ¬ wr (hrR m 80) = 64 → wr (m 74 17) = (-1) → (0 ≤ wr (2 * (m 74 22)) ∧ wr (2 * (m 74 22)) < 12))
    (o25 : wr (m 74 17) = (-1) → ¬ wr v = 0 → wr (m 74 17) = (-1) → ¬ wr (hrR m 80) = 64 → wr (m 74 17) = (-1) → ¬ wr (m 74 16) = (-1) → (0 ≤ wr ((2 * (m 74 22)) + 1) ∧ wr ((2 * (m 74 22)) + 1) < 12))
    (o26 : wr (m 74 17) = (-1) → ¬ wr v = 0 → wr (m 74 17) = (-1) → ¬ wr (hrR m 80) = 64 → wr (m 74 17) = (-1) → ¬ wr (m 74 16) = (-1) → κ (none) (zu (zu (zu (zu m 74 17 (m 74 16)) 84 ((wr (2 * (m 74 22))).toNat) v) 84 ((wr ((2 * (m 74 22)) + 1)).toNat) 0) 74 22 ((m 74 22) + 1)))
    (o27 : wr (m 74 17) = (-1) → ¬ wr v = 0 → wr (m 74 17) = (-1) → ¬ wr (hrR m 80) = 64 → wr (m 74 17) = (-1) → wr (m 74 16) = (-1) → False)
    (o28 : wr (m 74 17) = (-1) → wr v = 0 → ¬ wr (m 74 17) = (-1) → False)
    (o29 : wr (m 74 17) = (-1) → wr v = 0 → wr (m 74 17) = (-1) → ¬ wr ((m 74 16) - 1) = (-1) → ¬ wr ((m 74 16) - 1) = (-1) → (0 ≤ wr (2 * (m 74 22)) ∧ wr (2 * (m 74 22)) < 12))
    (o30 : wr (m 74 17) = (-1) → wr v = 0 → wr (m 74 17) = (-1) → ¬ wr ((m 74 16) - 1) = (-1) → ¬ wr ((m 74 16) - 1) = (-1) → ¬ wr ((m 74 16) - 1) = (-1) → (0 ≤ wr ((2 * (m 74 22)) + 1) ∧ wr ((2 * (m 74 22)) + 1) < 12))
    (o31 : wr (m 74 17) = (-1) → wr v = 0 → wr (m 74 17) = (-1) → ¬ wr ((m 74 16) - 1) = (-1) → ¬ wr ((m 74 16) - 1) = (-1) → ¬ wr ((m 74 16) - 1) = (-1) → κ (none) (zu (zu (zu (zu m 74 17 ((m 74 16) - 1)) 84 ((wr (2 * (m 74 22))).toNat) v) 84 ((wr ((2 * (m 74 22)) + 1)).toNat) 0) 74 22 ((m 74 22) + 1)))
    (o32 : wr (m 74 17) = (-1) → wr v = 0 → wr (m 74 17) = (-1) → ¬ wr ((m 74 16) - 1) = (-1) → ¬ wr ((m 74 16) - 1) = (-1) → wr ((m 74 16) - 1) = (-1) → False)
    (o33 : wr (m 74 17) = (-1) → wr v = 0 → wr (m 74 17) = (-1) → ¬ wr ((m 74 16) - 1) = (-1) → wr ((m 74 16) - 1) = (-1) → False)
    (o34 : wr (m 74 17) = (-1) → wr v = 0 → wr (m 74 17) = (-1) → wr ((m 74 16) - 1) = (-1) → (m 74 13) = 80)
    (o35 : wr (m 74 17) = (-1) → wr v = 0 → wr (m 74 17) = (-1) → wr ((m 74 16) - 1) = (-1) → (0 ≤ (m 74 16) ∧ (m 74 16) ≤ 1000))
    (o36 : wr (m 74 17) = (-1) → wr v = 0 → wr (m 74 17) = (-1) → wr ((m 74 16) - 1) = (-1) → (0 ≤ (m 74 14) ∧ (m 74 14) ≤ 80))
    (o37 : wr (m 74 17) = (-1) → wr v = 0 → wr (m 74 17) = (-1) → wr ((m 74 16) - 1) = (-1) → (0 ≤ (m 74 15) ∧ (m 74 15) ≤ 80))
    (o38 : wr (m 74 17) = (-1) → wr v = 0 → wr (m 74 17) = (-1) → wr ((m 74 16) - 1) = (-1) → wr (hrR (zu m 74 17 ((m 74 16) - 1)) 80) = 64 → (0 ≤ wr (2 * (m 74 22)) ∧ wr (2 * (m 74 22)) < 12))
    (o39 : wr (m 74 17) = (-1) → wr v = 0 → wr (m 74 17) = (-1) → wr ((m 74 16) - 1) = (-1) → wr (hrR (zu m 74 17 ((m 74 16) - 1)) 80) = 64 → ¬ wr ((m 74 16) - 1) = (-1) → False)
    (o40 : wr (m 74 17) = (-1) → wr v = 0 → wr (m 74 17) = (-1) → wr ((m 74 16) - 1) = (-1) → wr (hrR (zu m 74 17 ((m 74 16) - 1)) 80) = 64 → wr ((m 74 16) - 1) = (-1) → (m 74 13) = 80)
    (o41 : wr (m 74 17) = (-1) → wr v = 0 → wr (m 74 17) = (-1) → wr ((m 74 16) - 1) = (-1) → wr (hrR (zu m 74 17 ((m 74 16) - 1)) 80) = 64 → wr ((m 74 16) - 1) = (-1) → (0 ≤ ((m 74 16) + 1) ∧ ((m 74 16) + 1) ≤ 1000))
    (o42 : wr (m 74 17) = (-1) → wr v = 0 → wr (m 74 17) = (-1) → wr ((m 74 16) - 1) = (-1) → wr (hrR (zu m 74 17 ((m 74 16) - 1)) 80) = 64 → wr ((m 74 16) - 1) = (-1) → (0 ≤ (m 74 14) ∧ (m 74 14) ≤ 80))
    (o43 : wr (m 74 17) = (-1) → wr v = 0 → wr (m 74 17) = (-1) → wr ((m 74 16) - 1) = (-1) → wr (hrR (zu m 74 17 ((m 74 16) - 1)) 80) = 64 → wr ((m 74 16) - 1) = (-1) → (0 ≤ (m 74 15) ∧ (m 74 15) ≤ 80))
    (o44 : wr (m 74 17) = (-1) → wr v = 0 → wr (m 74 17) = (-1) → wr ((m 74 16) - 1) = (-1) → wr (hrR (zu m 74 17 ((m 74 16) - 1)) 80) = 64 → wr ((m 74 16) - 1) = (-1) → wr (hrR (zu (zu (zu m 74 17 ((m 74 16) - 1)) 74 16 ((m 74 16) + 1)) 84 ((wr (2 * (m 74 22))).toNat) v) 80) < 48 → ¬ wr ((m 74 16) - 1) = (-1) → False)
    (o45 : wr (m 74 17) = (-1) → wr v = 0 → wr (m 74 17) = (-1) → wr ((m 74 16) - 1) = (-1) → wr (hrR (zu m 74 17 ((m 74 16) - 1)) 80) = 64 → wr ((m 74 16) - 1) = (-1) → wr (hrR (zu (zu (zu m 74 17 ((m 74 16) - 1)) 74 16 ((m 74 16) + 1)) 84 ((wr (2 * (m 74 22))).toNat) v) 80) < 48 → wr ((m 74 16) - 1) = (-1) → (0 ≤ wr ((2 * (m 74 22)) + 1) ∧ wr ((2 * (m 74 22)) + 1) < 12))
    (o46 : wr (m 74 17) = (-1) → wr v = 0 → wr (m 74 17) = (-1) → wr ((m 74 16) - 1) = (-1) → wr (hrR (zu m 74 17 ((m 74 16) - 1)) 80) = 64 → wr ((m 74 16) - 1) = (-1) → wr (hrR (zu (zu (zu m 74 17 ((m 74 16) - 1)) 74 16 ((m 74 16) + 1)) 84 ((wr (2 * (m 74 22))).toNat) v) 80) < 48 → wr ((m 74 16) - 1) = (-1) → κ (none) (zu (zu (zu (zu (zu (zu m 74 17 ((m 74 16) - 1)) 74 16 ((m 74 16) + 1)) 84 ((wr (2 * (m 74 22))).toNat) v) 74 17 ((m 74 16) + 1)) 84 ((wr ((2 * (m 74 22)) + 1)).toNat) 0) 74 22 ((m 74 22) + 1)))
    (o47 : wr (m 74 17) = (-1) → wr v = 0 → wr (m 74 17) = (-1) → wr ((m 74 16) - 1) = (-1) → wr (hrR (zu m 74 17 ((m 74 16) - 1)) 80) = 64 → wr ((m 74 16) - 1) = (-1) → ¬ wr (hrR (zu (zu (zu m 74 17 ((m 74 16) - 1)) 74 16 ((m 74 16) + 1)) 84 ((wr (2 * (m 74 22))).toNat) v) 80) < 48 → 51 < wr (hrR (zu (zu (zu m 74 17 ((m 74 16) - 1)) 74 16 ((m 74 16) + 1)) 84 ((wr (2 * (m 74 22))).toNat) v) 80) → ¬ wr ((m 74 16) - 1) = (-1) → False)
    (o48 : wr (m 74 17) = (-1) → wr v = 0 → wr (m 74 17) = (-1) → wr ((m 74 16) - 1) = (-1) → wr (hrR (zu m 74 17 ((m 74 16) - 1)) 80) = 64 → wr ((m 74 16) - 1) = (-1) → ¬ wr (hrR (zu (zu (zu m 74 17 ((m 74 16) - 1)) 74 16 ((m 74 16) + 1)) 84 ((wr (2 * (m 74 22))).toNat) v) 80) < 48 → 51 < wr (hrR (zu (zu (zu m 74 17 ((m 74 16) - 1)) 74 16 ((m 74 16) + 1)) 84 ((wr (2 * (m 74 22))).toNat) v) 80) → wr ((m 74 16) - 1) = (-1) → (0 ≤ wr ((2 * (m 74 22)) + 1) ∧ wr ((2 * (m 74 22)) + 1) < 12))
    (o49 : wr (m 74 17) = (-1) → wr v = 0 → wr (m 74 17) = (-1) → wr ((m 74 16) - 1) = (-1) → wr (hrR (zu m 74 17 ((m 74 16) - 1)) 80) = 64 → wr ((m 74 16) - 1) = (-1) → ¬ wr (hrR (zu (zu (zu m 74 17 ((m 74 16) - 1)) 74 16 ((m 74 16) + 1)) 84 ((wr (2 * (m 74 22))).toNat) v) 80) < 48 → 51 < wr (hrR (zu (zu (zu m 74 17 ((m 74 16) - 1)) 74 16 ((m 74 16) + 1)) 84 ((wr (2 * (m 74 22))).toNat) v) 80) → wr ((m 74 16) - 1) = (-1) → κ (none) (zu (zu (zu (zu (zu (zu m 74 17 ((m 74 16) - 1)) 74 16 ((m 74 16) + 1)) 84 ((wr (2 * (m 74 22))).toNat) v) 74 17 ((m 74 16) + 1)) 84 ((wr ((2 * (m 74 22)) + 1)).toNat) 0) 74 22 ((m 74 22) + 1)))
    (o50 : wr (m 74 17) = (-1) → wr v = 0 → wr (m 74 17) = (-1) → wr ((m 74 16) - 1) = (-1) → wr (hrR (zu m 74 17 ((m 74 16) - 1)) 80) = 64 → wr ((m 74 16) - 1) = (-1) → ¬ wr (hrR (zu (zu (zu m 74 17 ((m 74 16) - 1)) 74 16 ((m 74 16) + 1)) 84 ((wr (2 * (m 74 22))).toNat) v) 80) < 48 → ¬ 51 < wr (hrR (zu (zu (zu m 74 17 ((m 74 16) - 1)) 74 16 ((m 74 16) + 1)) 84 ((wr (2 * (m 74 22))).toNat) v) 80) → (m 74 13) = 80)
    (o51 : wr (m 74 17) = (-1) → wr v = 0 → wr (m 74 17) = (-1) → wr ((m 74 16) - 1) = (-1) → wr (hrR (zu m 74 17 ((m 74 16) - 1)) 80) = 64 → wr ((m 74 16) - 1) = (-1) → ¬ wr (hrR (zu (zu (zu m 74 17 ((m 74 16) - 1)) 74 16 ((m 74 16) + 1)) 84 ((wr (2 * (m 74 22))).toNat) v) 80) < 48 → ¬ 51 < wr (hrR (zu (zu (zu m 74 17 ((m 74 16) - 1)) 74 16 ((m 74 16) + 1)) 84 ((wr (2 * (m 74 22))).toNat) v) 80) → (0 ≤ wr ((((m 74 16) + 1) + 1) - 1) ∧ wr ((((m 74 16) + 1) + 1) - 1) < 80))
    (o52 : wr (m 74 17) = (-1) → wr v = 0 → wr (m 74 17) = (-1) → wr ((m 74 16) - 1) = (-1) → wr (hrR (zu m 74 17 ((m 74 16) - 1)) 80) = 64 → wr ((m 74 16) - 1) = (-1) → ¬ wr (hrR (zu (zu (zu m 74 17 ((m 74 16) - 1)) 74 16 ((m 74 16) + 1)) 84 ((wr (2 * (m 74 22))).toNat) v) 80) < 48 → ¬ 51 < wr (hrR (zu (zu (zu m 74 17 ((m 74 16) - 1)) 74 16 ((m 74 16) + 1)) 84 ((wr (2 * (m 74 22))).toNat) v) 80) → (0 ≤ wr ((2 * (m 74 22)) + 1) ∧ wr ((2 * (m 74 22)) + 1) < 12))
    (o53 : wr (m 74 17) = (-1) → wr v = 0 → wr (m 74 17) = (-1) → wr ((m 74 16) - 1) = (-1) → wr (hrR (zu m 74 17 ((m 74 16) - 1)) 80) = 64 → wr ((m 74 16) - 1) = (-1) → ¬ wr (hrR (zu (zu (zu m 74 17 ((m 74 16) - 1)) 74 16 ((m 74 16) + 1)) 84 ((wr (2 * (m 74 22))).toNat) v) 80) < 48 → ¬ 51 < wr (hrR (zu (zu (zu m 74 17 ((m 74 16) - 1)) 74 16 ((m 74 16) + 1)) 84 ((wr (2 * (m 74 22))).toNat) v) 80) → κ (none) (zu (zu (zu (zu (zu (zu m 74 17 ((m 74 16) - 1)) 74 16 ((m 74 16) + 1)) 84 ((wr (2 * (m 74 22))).toNat) v) 74 16 (((m 74 16) + 1) + 1)) 84 ((wr ((2 * (m 74 22)) + 1)).toNat) (wr ((m 80 ((wr ((((m 74 16) + 1) + 1) - 1)).toNat)) - 48))) 74 22 ((m 74 22) + 1)))
    (o54 : wr (m 74 17) = (-1) → wr v = 0 → wr (m 74 17) = (-1) → wr ((m 74 16) - 1) = (-1) → ¬ wr (hrR (zu m 74 17 ((m 74 16) - 1)) 80) = 64 → ¬ wr ((m 74 16) - 1) = (-1) → False)
    (o55 : wr (m 74 17) = (-1) → wr v = 0 → wr (m 74 17) = (-1) → wr ((m 74 16) - 1) = (-1) → ¬ wr (hrR (zu m 74 17 ((m 74 16) - 1)) 80) = 64 → wr ((m 74 16) - 1) = (-1) → (0 ≤ wr (2 * (m 74 22)) ∧ wr (2 * (m 74 22)) < 12))
    (o56 : wr (m 74 17) = (-1) → wr v = 0 → wr (m 74 17) = (-1) → wr ((m 74 16) - 1) = (-1) → ¬ wr (hrR (zu m 74 17 ((m 74 16) - 1)) 80) = 64 → wr ((m 74 16) - 1) = (-1) → ¬ wr (m 74 16) = (-1) → (0 ≤ wr ((2 * (m 74 22)) + 1) ∧ wr ((2 * (m 74 22)) + 1) < 12))
    (o57 : wr (m 74 17) = (-1) → wr v = 0 → wr (m 74 17) = (-1) → wr ((m 74 16) - 1) = (-1) → ¬ wr (hrR (zu m 74 17 ((m 74 16) - 1)) 80) = 64 → wr ((m 74 16) - 1) = (-1) → ¬ wr (m 74 16) = (-1) → κ (none) (zu (zu (zu (zu (zu m 74 17 ((m 74 16) - 1)) 74 17 (m 74 16)) 84 ((wr (2 * (m 74 22))).toNat) v) 84 ((wr ((2 * (m 74 22)) + 1)).toNat) 0) 74 22 ((m 74 22) + 1)))
    (o58 : wr (m 74 17) = (-1) → wr v = 0 → wr (m 74 17) = (-1) → wr ((m 74 16) - 1) = (-1) → ¬ wr (hrR (zu m 74 17 ((m 74 16) - 1)) 80) = 64 → wr ((m 74 16) - 1) = (-1) → wr (m 74 16) = (-1) → False) :
    T (D + 6) 207 (37, lo, [zi v], m) κ :=
  zkeep hT hlo (hT.1 [] 6 (D + 6) 207 _ κ (hT.1 [] 6 (D + 5) 199 _ _ (And.intro (fun a1 => (o1 a1).elim) (fun a2 => (hT.1 [] 6 (D + 5) 199 (13, [(0, zr 74)], [zi 1], m) _ (And.intro (z_b01L rfl) (hT.1 [] 6 (D + 6) 207 _ _ (And.intro (fun a3 => (z_litF a3 rfl).elim) (fun _ => (And.intro (fun a4 => (hT.1 [] 6 (D + 5) 202 _ _ (hT.1 [] 6 (D + 4) 201 _ _ (hT.1 [] 6 (D + 3) 199 _ _ (And.intro (fun a6 => (o2 (Classical.byContradiction a2) a4 a6).elim) (fun a7 => (hT.1 [] 6 (D + 3) 199 (13, [(0, zr 74)], [zi 1], m) _ (And.intro (z_b01L rfl) (hT.1 [] 6 (D + 4) 201 _ _ (And.intro (fun a8 => (z_litF a8 rfl).elim) (fun _ => (z_here80 hT (o3 (Classical.byContradiction a2) a4 (Classical.byContradiction a7)) (o4 (Classical.byContradiction a2) a4 (Classical.byContradiction a7)) (o5 (Classical.byContradiction a2) a4 (Classical.byContradiction a7)) (o6 (Classical.byContradiction a2) a4 (Classical.byContradiction a7)) (hT.1 [] 6 (D + 4) 201 _ _ (And.intro (fun a9 => (hT.1 [] 6 (D + 4) 201 (23, [(0, zr 74), (1, zi 64)], [zi 1, zi (m 74 16), zr 74], m) _ (And.intro trivial (And.intro (z_b01L rfl) (hT.1 [] 6 (D + 5) 202 _ _ (And.intro (fun _ => (hT.1 [] 6 (D + 6) 207 _ _ (hT.1 [] 6 (D + 6) 207 (75, [(0, zr 74), (1, zi v)], [zi (2 * (m 74 22)), zr 84], (zu m 74 16 ((m 74 16) + 1))) _ (And.intro (And.intro (o7 (Classical.byContradiction a2) a4 (Classical.byContradiction a7) a9) trivial) (hT.1 [] 6 (D + 6) 207 (83, [(0, zr 74), (1, zi v)], [zr 74, zi 2, zr 84], (zu (zu m 74 16 ((m 74 16) + 1)) 84 ((wr (2 * (m 74 22))).toNat) v)) _ (hT.1 [] 6 (D + 6) 207 (91, [(0, zr 74), (1, zi v)], [zi 0, zr 74, zi ((2 * (m 74 22)) + 1), zr 84], (zu (zu m 74 16 ((m 74 16) + 1)) 84 ((wr (2 * (m 74 22))).toNat) v)) _ (hT.1 [] 6 (D + 5) 203 _ _ (hT.1 [] 6 (D + 4) 199 _ _ (And.intro (fun a12 => (o8 (Classical.byContradiction a2) a4 (Classical.byContradiction a7) a9 a12).elim) (fun a13 => (hT.1 [] 6 (D + 4) 199 (13, [(0, zr 74)], [zi 1], (zu (zu m 74 16 ((m 74 16) + 1)) 84 ((wr (2 * (m 74 22))).toNat) v)) _ (And.intro (z_b01L rfl) (hT.1 [] 6 (D + 5) 203 _ _ (And.intro (fun _ => (z_here80 hT (o9 (Classical.byContradiction a2) a4 (Classical.byContradiction a7) a9 (Classical.byContradiction a13)) (o10 (Classical.byContradiction a2) a4 (Classical.byContradiction a7) a9 (Classical.byContradiction a13)) (o11 (Classical.byContradiction a2) a4 (Classical.byContradiction a7) a9 (Classical.byContradiction a13)) (o12 (Classical.byContradiction a2) a4 (Classical.byContradiction a7) a9 (Classical.byContradiction a13)) (hT.1 [] 6 (D + 5) 203 _ _ (hT.1 [] 6 (D + 5) 203 (21, [(0, zr 74), (1, zi 0), (2, zi 3)], [zi 51, zi 48, zi (hrR (zu (zu m 74 16 ((m 74 16) + 1)) 84 ((wr (2 * (m 74 22))).toNat) v) 80)], (zu (zu m 74 16 ((m 74 16) + 1)) 84 ((wr (2 * (m 74 22))).toNat) v)) _ (hT.1 [] 6 (D + 4) 186 _ _ (And.intro (fun a15 => (And.intro (z_b01L rfl) (hT.1 [] 6 (D + 5) 203 _ _ (And.intro (fun a17 => (z_litF a17 rfl).elim) (fun _ => (hT.1 [] 6 (D + 4) 200 _ _ (hT.1 [] 6 (D + 3) 199 _ _ (And.intro (fun a18 => (o13 (Classical.byContradiction a2) a4 (Classical.byContradiction a7) a9 (Classical.byContradiction a13) a15 a18).elim) (fun a19 => (hT.1 [] 6 (D + 3) 199 (13, [(0, zr 74)], [zi 1], (zu (zu m 74 16 ((m 74 16) + 1)) 84 ((wr (2 * (m 74 22))).toNat) v)) _ (And.intro (z_b01L rfl) (hT.1 [] 6 (D + 4) 200 _ _ (And.intro (fun a20 => (z_litF a20 rfl).elim) (fun _ => (And.intro trivial (hT.1 [] 6 (D + 5) 203 _ _ (hT.1 [] 6 (D + 6) 207 _ _ (And.intro (And.intro (o14 (Classical.byContradiction a2) a4 (Classical.byContradiction a7) a9 (Classical.byContradiction a13) a15 (Classical.byContradiction a19)) trivial) (hT.1 [] 6 (D + 6) 207 (103, [(0, zr 74), (1, zi v)], [zi ((m 74 22) + 1), zr 74], (zu (zu (zu (zu m 74 16 ((m 74 16) + 1)) 84 ((wr (2 * (m 74 22))).toNat) v) 74 17 ((m 74 16) + 1)) 84 ((wr ((2 * (m 74 22)) + 1)).toNat) 0)) _ (And.intro trivial (o15 (Classical.byContradiction a2) a4 (Classical.byContradiction a7) a9 (Classical.byContradiction a13) a15 (Classical.byContradiction a19)))))))))))))))))))))) (fun a16 => (And.intro (fun a21 => (hT.1 [] 6 (D + 4) 186 (14, [(0, zi (hrR (zu (zu m 74 16 ((m 74 16) + 1)) 84 ((wr (2 * (m 74 22))).toNat) v) 80)), (1, zi 48), (2, zi 51)], [], (zu (zu m 74 16 ((m 74 16) + 1)) 84 ((wr (2 * (m 74 22))).toNat) v)) _ (And.intro (z_b01L rfl) (hT.1 [] 6 (D + 5) 203 _ _ (And.intro (fun a23 => (z_litF a23 rfl).elim) (fun _ => (hT.1 [] 6 (D + 4) 200 _ _ (hT.1 [] 6 (D + 3) 199 _ _ (And.intro (fun a24 => (o16 (Classical.byContradiction a2) a4 (Classical.byContradiction a7) a9 (Classical.byContradiction a13) a16 a21 a24).elim) (fun a25 => (hT.1 [] 6 (D + 3) 199 (13, [(0, zr 74)], [zi 1], (zu (zu m 74 16 ((m 74 16) + 1)) 84 ((wr (2 * (m 74 22))).toNat) v)) _ (And.intro (z_b01L rfl) (hT.1 [] 6 (D + 4) 200 _ _ (And.intro (fun a26 => (z_litF a26 rfl).elim) (fun _ => (And.intro trivial (hT.1 [] 6 (D + 5) 203 _ _ (hT.1 [] 6 (D + 6) 207 _ _ (And.intro (And.intro (o17 (Classical.byContradiction a2) a4 (Classical.byContradiction a7) a9 (Classical.byContradiction a13) a16 a21 (Classical.byContradiction a25)) trivial) (hT.1 [] 6 (D + 6) 207 (103, [(0, zr 74), (1, zi v)], [zi ((m 74 22) + 1), zr 74], (zu (zu (zu (zu m 74 16 ((m 74 16) + 1)) 84 ((wr (2 * (m 74 22))).toNat) v) 74 17 ((m 74 16) + 1)) 84 ((wr ((2 * (m 74 22)) + 1)).toNat) 0)) _ (And.intro trivial (o18 (Classical.byContradiction a2) a4 (Classical.byContradiction a7) a9 (Classical.byContradiction a13) a16 a21 (Classical.byContradiction a25))))))))))))))))))))))) (fun a22 => (hT.1 [] 6 (D + 4) 186 (10, [(0, zi (hrR (zu (zu m 74 16 ((m 74 16) + 1)) 84 ((wr (2 * (m 74 22))).toNat) v) 80)), (1, zi 48), (2, zi 51)], [], (zu (zu m 74 16 ((m 74 16) + 1)) 84 ((wr (2 * (m 74 22))).toNat) v)) _ (And.intro (z_b01L rfl) (hT.1 [] 6 (D + 5) 203 _ _ (And.intro (fun _ => (hT.1 [] 6 (D + 5) 203 (44, [(0, zr 74), (1, zi 0), (2, zi 3)], [zi (((m 74 16) + 1) + 1), zr 74], (zu (zu m 74 16 ((m 74 16) + 1)) 84 ((wr (2 * (m 74 22))).toNat) v)) _ (And.intro trivial (And.intro (Or.inl (o19 (Classical.byContradiction a2) a4 (Classical.byContradiction a7) a9 (Classical.byContradiction a13) a16 a22)) (And.intro (fun _ => (hT.1 [] 6 (D + 5) 203 (56, [(0, zr 74), (1, zi 0), (2, zi 3)], [zi 1, zi (((m 74 16) + 1) + 1), zr 80], (zu (zu (zu m 74 16 ((m 74 16) + 1)) 84 ((wr (2 * (m 74 22))).toNat) v) 74 16 (((m 74 16) + 1) + 1))) _ (And.intro (o20 (Classical.byContradiction a2) a4 (Classical.byContradiction a7) a9 (Classical.byContradiction a13) a16 a22) (hT.1 [] 6 (D + 6) 207 _ _ (And.intro (And.intro (o21 (Classical.byContradiction a2) a4 (Classical.byContradiction a7) a9 (Classical.byContradiction a13) a16 a22) trivial) (hT.1 [] 6 (D + 6) 207 (103, [(0, zr 74), (1, zi v)], [zi ((m 74 22) + 1), zr 74], (zu (zu (zu (zu m 74 16 ((m 74 16) + 1)) 84 ((wr (2 * (m 74 22))).toNat) v) 74 16 (((m 74 16) + 1) + 1)) 84 ((wr ((2 * (m 74 22)) + 1)).toNat) (wr ((m 80 ((wr ((((m 74 16) + 1) + 1) - 1)).toNat)) - 48)))) _ (And.intro trivial (o22 (Classical.byContradiction a2) a4 (Classical.byContradiction a7) a9 (Classical.byContradiction a13) a16 a22)))))))) (fun a28 => (z_n8086 (o19 (Classical.byContradiction a2) a4 (Classical.byContradiction a7) a9 (Classical.byContradiction a13) a16 a22) a28).elim)))))) (fun a27 => (a27 (z_litT rfl)).elim)))))))))))))) (fun a14 => (a14 (z_litT rfl)).elim))))))))))))))) (fun a11 => (a11 (z_litT rfl)).elim))))))) (fun a10 => (And.intro (z_b01L rfl) (hT.1 [] 6 (D + 5) 202 _ _ (And.intro (fun a29 => (z_litF a29 rfl).elim) (fun _ => (hT.1 [] 6 (D + 4) 200 _ _ (hT.1 [] 6 (D + 3) 199 _ _ (And.intro (fun a30 => (o23 (Classical.byContradiction a2) a4 (Classical.byContradiction a7) a10 a30).elim) (fun a31 => (hT.1 [] 6 (D + 3) 199 (13, [(0, zr 74)], [zi 1], m) _ (And.intro (z_b01L rfl) (hT.1 [] 6 (D + 4) 200 _ _ (And.intro (fun a32 => (z_litF a32 rfl).elim) (fun _ => (And.intro trivial (hT.1 [] 6 (D + 5) 202 _ _ (hT.1 [] 6 (D + 6) 207 _ _ (hT.1 [] 6 (D + 6) 207 (75, [(0, zr 74), (1, zi v)], [zi (2 * (m 74 22)), zr 84], (zu m 74 17 (m 74 16))) _ (And.intro (And.intro (o24 (Classical.byContradiction a2) a4 (Classical.byContradiction a7) a10 (Classical.byContradiction a31)) trivial) (hT.1 [] 6 (D + 6) 207 (83, [(0, zr 74), (1, zi v)], [zr 74, zi 2, zr 84], (zu (zu m 74 17 (m 74 16)) 84 ((wr (2 * (m 74 22))).toNat) v)) _ (hT.1 [] 6 (D + 6) 207 (91, [(0, zr 74), (1, zi v)], [zi 0, zr 74, zi ((2 * (m 74 22)) + 1), zr 84], (zu (zu m 74 17 (m 74 16)) 84 ((wr (2 * (m 74 22))).toNat) v)) _ (hT.1 [] 6 (D + 5) 203 _ _ (hT.1 [] 6 (D + 4) 199 _ _ (And.intro (fun a33 => (And.intro (z_b01L rfl) (hT.1 [] 6 (D + 5) 203 _ _ (And.intro (fun a35 => (z_litF a35 rfl).elim) (fun _ => (hT.1 [] 6 (D + 6) 207 _ _ (And.intro (And.intro (o25 (Classical.byContradiction a2) a4 (Classical.byContradiction a7) a10 (Classical.byContradiction a31) a33) trivial) (hT.1 [] 6 (D + 6) 207 (103, [(0, zr 74), (1, zi v)], [zi ((m 74 22) + 1), zr 74], (zu (zu (zu m 74 17 (m 74 16)) 84 ((wr (2 * (m 74 22))).toNat) v) 84 ((wr ((2 * (m 74 22)) + 1)).toNat) 0)) _ (And.intro trivial (o26 (Classical.byContradiction a2) a4 (Classical.byContradiction a7) a10 (Classical.byContradiction a31) a33)))))))))) (fun a34 => (o27 (Classical.byContradiction a2) a4 (Classical.byContradiction a7) a10 (Classical.byContradiction a31) (Classical.byContradiction a34)).elim))))))))))))))))))))))))))))))))))))))) (fun a5 => (hT.1 [] 6 (D + 6) 207 (54, [(0, zr 74), (1, zi v)], [zi (m 74 16), zr 74], m) _ (hT.1 [] 6 (D + 5) 200 _ _ (hT.1 [] 6 (D + 4) 199 _ _ (And.intro (fun a36 => (o28 (Classical.byContradiction a2) (Classical.byContradiction a5) a36).elim) (fun a37 => (hT.1 [] 6 (D + 4) 199 (13, [(0, zr 74)], [zi 1], m) _ (And.intro (z_b01L rfl) (hT.1 [] 6 (D + 5) 200 _ _ (And.intro (fun a38 => (z_litF a38 rfl).elim) (fun _ => (And.intro trivial (hT.1 [] 6 (D + 6) 207 _ _ (hT.1 [] 6 (D + 5) 202 _ _ (hT.1 [] 6 (D + 4) 201 _ _ (hT.1 [] 6 (D + 3) 199 _ _ (And.intro (fun a39 => (And.intro (z_b01L rfl) (hT.1 [] 6 (D + 4) 201 _ _ (And.intro (fun _ => (And.intro (z_b01L rfl) (hT.1 [] 6 (D + 5) 202 _ _ (And.intro (fun a42 => (z_litF a42 rfl).elim) (fun _ => (hT.1 [] 6 (D + 4) 200 _ _ (hT.1 [] 6 (D + 3) 199 _ _ (And.intro (fun a43 => (And.intro (z_b01L rfl) (hT.1 [] 6 (D + 4) 200 _ _ (And.intro (fun _ => (hT.1 [] 6 (D + 5) 202 _ _ (hT.1 [] 6 (D + 6) 207 _ _ (hT.1 [] 6 (D + 6) 207 (75, [(0, zr 74), (1, zi v)], [zi (2 * (m 74 22)), zr 84], (zu m 74 17 ((m 74 16) - 1))) _ (And.intro (And.intro (o29 (Classical.byContradiction a2) (Classical.byContradiction a5) (Classical.byContradiction a37) a39 a43) trivial) (hT.1 [] 6 (D + 6) 207 (83, [(0, zr 74), (1, zi v)], [zr 74, zi 2, zr 84], (zu (zu m 74 17 ((m 74 16) - 1)) 84 ((wr (2 * (m 74 22))).toNat) v)) _ (hT.1 [] 6 (D + 6) 207 (91, [(0, zr 74), (1, zi v)], [zi 0, zr 74, zi ((2 * (m 74 22)) + 1), zr 84], (zu (zu m 74 17 ((m 74 16) - 1)) 84 ((wr (2 * (m 74 22))).toNat) v)) _ (hT.1 [] 6 (D + 5) 203 _ _ (hT.1 [] 6 (D + 4) 199 _ _ (And.intro (fun a46 => (And.intro (z_b01L rfl) (hT.1 [] 6 (D + 5) 203 _ _ (And.intro (fun a48 => (z_litF a48 rfl).elim) (fun _ => (hT.1 [] 6 (D + 6) 207 _ _ (And.intro (And.intro (o30 (Classical.byContradiction a2) (Classical.byContradiction a5) (Classical.byContradiction a37) a39 a43 a46) trivial) (hT.1 [] 6 (D + 6) 207 (103, [(0, zr 74), (1, zi v)], [zi ((m 74 22) + 1), zr 74], (zu (zu (zu m 74 17 ((m 74 16) - 1)) 84 ((wr (2 * (m 74 22))).toNat) v) 84 ((wr ((2 * (m 74 22)) + 1)).toNat) 0)) _ (And.intro trivial (o31 (Classical.byContradiction a2) (Classical.byContradiction a5) (Classical.byContradiction a37) a39 a43 a46)))))))))) (fun a47 => (o32 (Classical.byContradiction a2) (Classical.byContradiction a5) (Classical.byContradiction a37) a39 a43 (Classical.byContradiction a47)).elim))))))))))) (fun a45 => (a45 (z_litT rfl)).elim))))) (fun a44 => (o33 (Classical.byContradiction a2) (Classical.byContradiction a5) (Classical.byContradiction a37) a39 (Classical.byContradiction a44)).elim))))))))) (fun a41 => (a41 (z_litT rfl)).elim))))) (fun a40 => (hT.1 [] 6 (D + 3) 199 (13, [(0, zr 74)], [zi 1], (zu m 74 17 ((m 74 16) - 1))) _ (And.intro (z_b01L rfl) (hT.1 [] 6 (D + 4) 201 _ _ (And.intro (fun a49 => (z_litF a49 rfl).elim) (fun _ => (z_here80 hT (o34 (Classical.byContradiction a2) (Classical.byContradiction a5) (Classical.byContradiction a37) (Classical.byContradiction a40)) (o35 (Classical.byContradiction a2) (Classical.byContradiction a5) (Classical.byContradiction a37) (Classical.byContradiction a40)) (o36 (Classical.byContradiction a2) (Classical.byContradiction a5) (Classical.byContradiction a37) (Classical.byContradiction a40)) (o37 (Classical.byContradiction a2) (Classical.byContradiction a5) (Classical.byContradiction a37) (Classical.byContradiction a40)) (hT.1 [] 6 (D + 4) 201 _ _ (And.intro (fun a50 => (hT.1 [] 6 (D + 4) 201 (23, [(0, zr 74), (1, zi 64)], [zi 1, zi (m 74 16), zr 74], (zu m 74 17 ((m 74 16) - 1))) _ (And.intro trivial (And.intro (z_b01L rfl) (hT.1 [] 6 (D + 5) 202 _ _ (And.intro (fun _ => (hT.1 [] 6 (D + 6) 207 _ _ (hT.1 [] 6 (D + 6) 207 (75, [(0, zr 74), (1, zi v)], [zi (2 * (m 74 22)), zr 84], (zu (zu m 74 17 ((m 74 16) - 1)) 74 16 ((m 74 16) + 1))) _ (And.intro (And.intro (o38 (Classical.byContradiction a2) (Classical.byContradiction a5) (Classical.byContradiction a37) (Classical.byContradiction a40) a50) trivial) (hT.1 [] 6 (D + 6) 207 (83, [(0, zr 74), (1, zi v)], [zr 74, zi 2, zr 84], (zu (zu (zu m 74 17 ((m 74 16) - 1)) 74 16 ((m 74 16) + 1)) 84 ((wr (2 * (m 74 22))).toNat) v)) _ (hT.1 [] 6 (D + 6) 207 (91, [(0, zr 74), (1, zi v)], [zi 0, zr 74, zi ((2 * (m 74 22)) + 1), zr 84], (zu (zu (zu m 74 17 ((m 74 16) - 1)) 74 16 ((m 74 16) + 1)) 84 ((wr (2 * (m 74 22))).toNat) v)) _ (hT.1 [] 6 (D + 5) 203 _ _ (hT.1 [] 6 (D + 4) 199 _ _ (And.intro (fun a53 => (o39 (Classical.byContradiction a2) (Classical.byContradiction a5) (Classical.byContradiction a37) (Classical.byContradiction a40) a50 a53).elim) (fun a54 => (hT.1 [] 6 (D + 4) 199 (13, [(0, zr 74)], [zi 1], (zu (zu (zu m 74 17 ((m 74 16) - 1)) 74 16 ((m 74 16) + 1)) 84 ((wr (2 * (m 74 22))).toNat) v)) _ (And.intro (z_b01L rfl) (hT.1 [] 6 (D + 5) 203 _ _ (And.intro (fun _ => (z_here80 hT (o40 (Classical.byContradiction a2) (Classical.byContradiction a5) (Classical.byContradiction a37) (Classical.byContradiction a40) a50 (Classical.byContradiction a54)) (o41 (Classical.byContradiction a2) (Classical.byContradiction a5) (Classical.byContradiction a37) (Classical.byContradiction a40) a50 (Classical.byContradiction a54)) (o42 (Classical.byContradiction a2) (Classical.byContradiction a5) (Classical.byContradiction a37) (Classical.byContradiction a40) a50 (Classical.byContradiction a54)) (o43 (Classical.byContradiction a2) (Classical.byContradiction a5) (Classical.byContradiction a37) (Classical.byContradiction a40) a50 (Classical.byContradiction a54)) (hT.1 [] 6 (D + 5) 203 _ _ (hT.1 [] 6 (D + 5) 203 (21, [(0, zr 74), (1, zi 0), (2, zi 3)], [zi 51, zi 48, zi (hrR (zu (zu (zu m 74 17 ((m 74 16) - 1)) 74 16 ((m 74 16) + 1)) 84 ((wr (2 * (m 74 22))).toNat) v) 80)], (zu (zu (zu m 74 17 ((m 74 16) - 1)) 74 16 ((m 74 16) + 1)) 84 ((wr (2 * (m 74 22))).toNat) v)) _ (hT.1 [] 6 (D + 4) 186 _ _ (And.intro (fun a56 => (And.intro (z_b01L rfl) (hT.1 [] 6 (D + 5) 203 _ _ (And.intro (fun a58 => (z_litF a58 rfl).elim) (fun _ => (hT.1 [] 6 (D + 4) 200 _ _ (hT.1 [] 6 (D + 3) 199 _ _ (And.intro (fun a59 => (o44 (Classical.byContradiction a2) (Classical.byContradiction a5) (Classical.byContradiction a37) (Classical.byContradiction a40) a50 (Classical.byContradiction a54) a56 a59).elim) (fun a60 => (hT.1 [] 6 (D + 3) 199 (13, [(0, zr 74)], [zi 1], (zu (zu (zu m 74 17 ((m 74 16) - 1)) 74 16 ((m 74 16) + 1)) 84 ((wr (2 * (m 74 22))).toNat) v)) _ (And.intro (z_b01L rfl) (hT.1 [] 6 (D + 4) 200 _ _ (And.intro (fun a61 => (z_litF a61 rfl).elim) (fun _ => (And.intro trivial (hT.1 [] 6 (D + 5) 203 _ _ (hT.1 [] 6 (D + 6) 207 _ _ (And.intro (And.intro (o45 (Classical.byContradiction a2) (Classical.byContradiction a5) (Classical.byContradiction a37) (Classical.byContradiction a40) a50 (Classical.byContradiction a54) a56 (Classical.byContradiction a60)) trivial) (hT.1 [] 6 (D + 6) 207 (103, [(0, zr 74), (1, zi v)], [zi ((m 74 22) + 1), zr 74], (zu (zu (zu (zu (zu m 74 17 ((m 74 16) - 1)) 74 16 ((m 74 16) + 1)) 84 ((wr (2 * (m 74 22))).toNat) v) 74 17 ((m 74 16) + 1)) 84 ((wr ((2 * (m 74 22)) + 1)).toNat) 0)) _ (And.intro trivial (o46 (Classical.byContradiction a2) (Classical.byContradiction a5) (Classical.byContradiction a37) (Classical.byContradiction a40) a50 (Classical.byContradiction a54) a56 (Classical.byContradiction a60)))))))))))))))))))))) (fun a57 => (And.intro (fun a62 => (hT.1 [] 6 (D + 4) 186 (14, [(0, zi (hrR (zu (zu (zu m 74 17 ((m 74 16) - 1)) 74 16 ((m 74 16) + 1)) 84 ((wr (2 * (m 74 22))).toNat) v) 80)), (1, zi 48), (2, zi 51)], [], (zu (zu (zu m 74 17 ((m 74 16) - 1)) 74 16 ((m 74 16) + 1)) 84 ((wr (2 * (m 74 22))).toNat) v)) _ (And.intro (z_b01L rfl) (hT.1 [] 6 (D + 5) 203 _ _ (And.intro (fun a64 => (z_litF a64 rfl).elim) (fun _ => (hT.1 [] 6 (D + 4) 200 _ _ (hT.1 [] 6 (D + 3) 199 _ _ (And.intro (fun a65 => (o47 (Classical.byContradiction a2) (Classical.byContradiction a5) (Classical.byContradiction a37) (Classical.byContradiction a40) a50 (Classical.byContradiction a54) a57 a62 a65).elim) (fun a66 => (hT.1 [] 6 (D + 3) 199 (13, [(0, zr 74)], [zi 1], (zu (zu (zu m 74 17 ((m 74 16) - 1)) 74 16 ((m 74 16) + 1)) 84 ((wr (2 * (m 74 22))).toNat) v)) _ (And.intro (z_b01L rfl) (hT.1 [] 6 (D + 4) 200 _ _ (And.intro (fun a67 => (z_litF a67 rfl).elim) (fun _ => (And.intro trivial (hT.1 [] 6 (D + 5) 203 _ _ (hT.1 [] 6 (D + 6) 207 _ _ (And.intro (And.intro (o48 (Classical.byContradiction a2) (Classical.byContradiction a5) (Classical.byContradiction a37) (Classical.byContradiction a40) a50 (Classical.byContradiction a54) a57 a62 (Classical.byContradiction a66)) trivial) (hT.1 [] 6 (D + 6) 207 (103, [(0, zr 74), (1, zi v)], [zi ((m 74 22) + 1), zr 74], (zu (zu (zu (zu (zu m 74 17 ((m 74 16) - 1)) 74 16 ((m 74 16) + 1)) 84 ((wr (2 * (m 74 22))).toNat) v) 74 17 ((m 74 16) + 1)) 84 ((wr ((2 * (m 74 22)) + 1)).toNat) 0)) _ (And.intro trivial (o49 (Classical.byContradiction a2) (Classical.byContradiction a5) (Classical.byContradiction a37) (Classical.byContradiction a40) a50 (Classical.byContradiction a54) a57 a62 (Classical.byContradiction a66))))))))))))))))))))))) (fun a63 => (hT.1 [] 6 (D + 4) 186 (10, [(0, zi (hrR (zu (zu (zu m 74 17 ((m 74 16) - 1)) 74 16 ((m 74 16) + 1)) 84 ((wr (2 * (m 74 22))).toNat) v) 80)), (1, zi 48), (2, zi 51)], [], (zu (zu (zu m 74 17 ((m 74 16) - 1)) 74 16 ((m 74 16) + 1)) 84 ((wr (2 * (m 74 22))).toNat) v)) _ (And.intro (z_b01L rfl) (hT.1 [] 6 (D + 5) 203 _ _ (And.intro (fun _ => (hT.1 [] 6 (D + 5) 203 (44, [(0, zr 74), (1, zi 0), (2, zi 3)], [zi (((m 74 16) + 1) + 1), zr 74], (zu (zu (zu m 74 17 ((m 74 16) - 1)) 74 16 ((m 74 16) + 1)) 84 ((wr (2 * (m 74 22))).toNat) v)) _ (And.intro trivial (And.intro (Or.inl (o50 (Classical.byContradiction a2) (Classical.byContradiction a5) (Classical.byContradiction a37) (Classical.byContradiction a40) a50 (Classical.byContradiction a54) a57 a63)) (And.intro (fun _ => (hT.1 [] 6 (D + 5) 203 (56, [(0, zr 74), (1, zi 0), (2, zi 3)], [zi 1, zi (((m 74 16) + 1) + 1), zr 80], (zu (zu (zu (zu m 74 17 ((m 74 16) - 1)) 74 16 ((m 74 16) + 1)) 84 ((wr (2 * (m 74 22))).toNat) v) 74 16 (((m 74 16) + 1) + 1))) _ (And.intro (o51 (Classical.byContradiction a2) (Classical.byContradiction a5) (Classical.byContradiction a37) (Classical.byContradiction a40) a50 (Classical.byContradiction a54) a57 a63) (hT.1 [] 6 (D + 6) 207 _ _ (And.intro (And.intro (o52 (Classical.byContradiction a2) (Classical.byContradiction a5) (Classical.byContradiction a37) (Classical.byContradiction a40) a50 (Classical.byContradiction a54) a57 a63) trivial) (hT.1 [] 6 (D + 6) 207 (103, [(0, zr 74), (1, zi v)], [zi ((m 74 22) + 1), zr 74], (zu (zu (zu (zu (zu m 74 17 ((m 74 16) - 1)) 74 16 ((m 74 16) + 1)) 84 ((wr (2 * (m 74 22))).toNat) v) 74 16 (((m 74 16) + 1) + 1)) 84 ((wr ((2 * (m 74 22)) + 1)).toNat) (wr ((m 80 ((wr ((((m 74 16) + 1) + 1) - 1)).toNat)) - 48)))) _ (And.intro trivial (o53 (Classical.byContradiction a2) (Classical.byContradiction a5) (Classical.byContradiction a37) (Classical.byContradiction a40) a50 (Classical.byContradiction a54) a57 a63)))))))) (fun a69 => (z_n8086 (o50 (Classical.byContradiction a2) (Classical.byContradiction a5) (Classical.byContradiction a37) (Classical.byContradiction a40) a50 (Classical.byContradiction a54) a57 a63) a69).elim)))))) (fun a68 => (a68 (z_litT rfl)).elim)))))))))))))) (fun a55 => (a55 (z_litT rfl)).elim))))))))))))))) (fun a52 => (a52 (z_litT rfl)).elim))))))) (fun a51 => (And.intro (z_b01L rfl) (hT.1 [] 6 (D + 5) 202 _ _ (And.intro (fun a70 => (z_litF a70 rfl).elim) (fun _ => (hT.1 [] 6 (D + 4) 200 _ _ (hT.1 [] 6 (D + 3) 199 _ _ (And.intro (fun a71 => (o54 (Classical.byContradiction a2) (Classical.byContradiction a5) (Classical.byContradiction a37) (Classical.byContradiction a40) a51 a71).elim) (fun a72 => (hT.1 [] 6 (D + 3) 199 (13, [(0, zr 74)], [zi 1], (zu m 74 17 ((m 74 16) - 1))) _ (And.intro (z_b01L rfl) (hT.1 [] 6 (D + 4) 200 _ _ (And.intro (fun a73 => (z_litF a73 rfl).elim) (fun _ => (And.intro trivial (hT.1 [] 6 (D + 5) 202 _ _ (hT.1 [] 6 (D + 6) 207 _ _ (hT.1 [] 6 (D + 6) 207 (75, [(0, zr 74), (1, zi v)], [zi (2 * (m 74 22)), zr 84], (zu (zu m 74 17 ((m 74 16) - 1)) 74 17 (m 74 16))) _ (And.intro (And.intro (o55 (Classical.byContradiction a2) (Classical.byContradiction a5) (Classical.byContradiction a37) (Classical.byContradiction a40) a51 (Classical.byContradiction a72)) trivial) (hT.1 [] 6 (D + 6) 207 (83, [(0, zr 74), (1, zi v)], [zr 74, zi 2, zr 84], (zu (zu (zu m 74 17 ((m 74 16) - 1)) 74 17 (m 74 16)) 84 ((wr (2 * (m 74 22))).toNat) v)) _ (hT.1 [] 6 (D + 6) 207 (91, [(0, zr 74), (1, zi v)], [zi 0, zr 74, zi ((2 * (m 74 22)) + 1), zr 84], (zu (zu (zu m 74 17 ((m 74 16) - 1)) 74 17 (m 74 16)) 84 ((wr (2 * (m 74 22))).toNat) v)) _ (hT.1 [] 6 (D + 5) 203 _ _ (hT.1 [] 6 (D + 4) 199 _ _ (And.intro (fun a74 => (And.intro (z_b01L rfl) (hT.1 [] 6 (D + 5) 203 _ _ (And.intro (fun a76 => (z_litF a76 rfl).elim) (fun _ => (hT.1 [] 6 (D + 6) 207 _ _ (And.intro (And.intro (o56 (Classical.byContradiction a2) (Classical.byContradiction a5) (Classical.byContradiction a37) (Classical.byContradiction a40) a51 (Classical.byContradiction a72) a74) trivial) (hT.1 [] 6 (D + 6) 207 (103, [(0, zr 74), (1, zi v)], [zi ((m 74 22) + 1), zr 74], (zu (zu (zu (zu m 74 17 ((m 74 16) - 1)) 74 17 (m 74 16)) 84 ((wr (2 * (m 74 22))).toNat) v) 84 ((wr ((2 * (m 74 22)) + 1)).toNat) 0)) _ (And.intro trivial (o57 (Classical.byContradiction a2) (Classical.byContradiction a5) (Classical.byContradiction a37) (Classical.byContradiction a40) a51 (Classical.byContradiction a72) a74)))))))))) (fun a75 => (o58 (Classical.byContradiction a2) (Classical.byContradiction a5) (Classical.byContradiction a37) (Classical.byContradiction a40) a51 (Classical.byContradiction a72) (Classical.byContradiction a75)).elim)))))))))))))))))))))))))))))))))))))))))))))))))))))))))))))
theorem zb207_37 (hT : zRules T) {D : Nat} {κ : Option zA → zM → Prop} {m : zM} {v : Int} {lo : zL} (hlo : z_keep [0] lo = [(0, zr 74)])  (hB : zB m) (hrd : m 74 13 = 80) (h_v : 0 ≤ v ∧ v ≤ 99) (hf0 : (-1) ≤ m 74 17 ∧ m 74 17 ≤ (-1)) (hf1 : 0 ≤ m 74 16 ∧ m 74 16 ≤ 78) (hf2 : 0 ≤ m 74 22 ∧ m 74 22 ≤ 5) 
    (k1 : ¬ v = 0 → (hrR m 80) = 64 → (hrR (zu (zu m 74 16 ((m 74 16) + 1)) 84 ((2 * (m 74 22)).toNat) v) 80) < 48 → zB (zu (zu (zu (zu (zu m 74 16 ((m 74 16) + 1)) 84 ((2 * (m 74 22)).toNat) v) 74 17 ((m 74 16) + 1)) 84 (((2 * (m 74 22)) + 1).toNat) 0) 74 22 ((m 74 22) + 1)) → κ (none) (zu (zu (zu (zu (zu m 74 16 ((m 74 16) + 1)) 84 ((2 * (m 74 22)).toNat) v) 74 17 ((m 74 16) + 1)) 84 (((2 * (m 74 22)) + 1).toNat) 0) 74 22 ((m 74 22) + 1)))
    (k2 : ¬ v = 0 → (hrR m 80) = 64 → ¬ (hrR (zu (zu m 74 16 ((m 74 16) + 1)) 84 ((2 * (m 74 22)).toNat) v) 80) < 48 → 51 < (hrR (zu (zu m 74 16 ((m 74 16) + 1)) 84 ((2 * (m 74 22)).toNat) v) 80) → zB (zu (zu (zu (zu (zu m 74 16 ((m 74 16) + 1)) 84 ((2 * (m 74 22)).toNat) v) 74 17 ((m 74 16) + 1)) 84 (((2 * (m 74 22)) + 1).toNat) 0) 74 22 ((m 74 22) + 1)) → κ (none) (zu (zu (zu (zu (zu m 74 16 ((m 74 16) + 1)) 84 ((2 * (m 74 22)).toNat) v) 74 17 ((m 74 16) + 1)) 84 (((2 * (m 74 22)) + 1).toNat) 0) 74 22 ((m 74 22) + 1)))
    (k3 : ¬ v = 0 → (hrR m 80) = 64 → ¬ (hrR (zu (zu m 74 16 ((m 74 16) + 1)) 84 ((2 * (m 74 22)).toNat) v) 80) < 48 → ¬ 51 < (hrR (zu (zu m 74 16 ((m 74 16) + 1)) 84 ((2 * (m 74 22)).toNat) v) 80) → κ (none) (zu (zu (zu (zu (zu m 74 16 ((m 74 16) + 1)) 84 ((2 * (m 74 22)).toNat) v) 74 16 (((m 74 16) + 1) + 1)) 84 (((2 * (m 74 22)) + 1).toNat) ((m 80 (((((m 74 16) + 1) + 1) - 1).toNat)) - 48)) 74 22 ((m 74 22) + 1)))
    (k4 : ¬ v = 0 → ¬ (hrR m 80) = 64 → zB (zu (zu (zu (zu m 74 17 (m 74 16)) 84 ((2 * (m 74 22)).toNat) v) 84 (((2 * (m 74 22)) + 1).toNat) 0) 74 22 ((m 74 22) + 1)) → κ (none) (zu (zu (zu (zu m 74 17 (m 74 16)) 84 ((2 * (m 74 22)).toNat) v) 84 (((2 * (m 74 22)) + 1).toNat) 0) 74 22 ((m 74 22) + 1)))
    (k5 : v = 0 → ¬ ((m 74 16) - 1) = (-1) → zB (zu (zu (zu (zu m 74 17 ((m 74 16) - 1)) 84 ((2 * (m 74 22)).toNat) v) 84 (((2 * (m 74 22)) + 1).toNat) 0) 74 22 ((m 74 22) + 1)) → κ (none) (zu (zu (zu (zu m 74 17 ((m 74 16) - 1)) 84 ((2 * (m 74 22)).toNat) v) 84 (((2 * (m 74 22)) + 1).toNat) 0) 74 22 ((m 74 22) + 1)))
    (k6 : v = 0 → ((m 74 16) - 1) = (-1) → (hrR (zu m 74 17 ((m 74 16) - 1)) 80) = 64 → (hrR (zu (zu (zu m 74 17 ((m 74 16) - 1)) 74 16 ((m 74 16) + 1)) 84 ((2 * (m 74 22)).toNat) v) 80) < 48 → zB (zu (zu (zu (zu (zu (zu m 74 17 ((m 74 16) - 1)) 74 16 ((m 74 16) + 1)) 84 ((2 * (m 74 22)).toNat) v) 74 17 ((m 74 16) + 1)) 84 (((2 * (m 74 22)) + 1).toNat) 0) 74 22 ((m 74 22) + 1)) → κ (none) (zu (zu (zu (zu (zu (zu m 74 17 ((m 74 16) - 1)) 74 16 ((m 74 16) + 1)) 84 ((2 * (m 74 22)).toNat) v) 74 17 ((m 74 16) + 1)) 84 (((2 * (m 74 22)) + 1).toNat) 0) 74 22 ((m 74 22) + 1)))
    (k7 : v = 0 → ((m 74 16) - 1) = (-1) → (hrR (zu m 74 17 ((m 74 16) - 1)) 80) = 64 → ¬ (hrR (zu (zu (zu m 74 17 ((m 74 16) - 1)) 74 16 ((m 74 16) + 1)) 84 ((2 * (m 74 22)).toNat) v) 80) < 48 → 51 < (hrR (zu (zu (zu m 74 17 ((m 74 16) - 1)) 74 16 ((m 74 16) + 1)) 84 ((2 * (m 74 22)).toNat) v) 80) → zB (zu (zu (zu (zu (zu (zu m 74 17 ((m 74 16) - 1)) 74 16 ((m 74 16) + 1)) 84 ((2 * (m 74 22)).toNat) v) 74 17 ((m 74 16) + 1)) 84 (((2 * (m 74 22)) + 1).toNat) 0) 74 22 ((m 74 22) + 1)) → κ (none) (zu (zu (zu (zu (zu (zu m 74 17 ((m 74 16) - 1)) 74 16 ((m 74 16) + 1)) 84 ((2 * (m 74 22)).toNat) v) 74 17 ((m 74 16) + 1)) 84 (((2 * (m 74 22)) + 1).toNat) 0) 74 22 ((m 74 22) + 1)))
    (k8 : v = 0 → ((m 74 16) - 1) = (-1) → (hrR (zu m 74 17 ((m 74 16) - 1)) 80) = 64 → ¬ (hrR (zu (zu (zu m 74 17 ((m 74 16) - 1)) 74 16 ((m 74 16) + 1)) 84 ((2 * (m 74 22)).toNat) v) 80) < 48 → ¬ 51 < (hrR (zu (zu (zu m 74 17 ((m 74 16) - 1)) 74 16 ((m 74 16) + 1)) 84 ((2 * (m 74 22)).toNat) v) 80) → κ (none) (zu (zu (zu (zu (zu (zu m 74 17 ((m 74 16) - 1)) 74 16 ((m 74 16) + 1)) 84 ((2 * (m 74 22)).toNat) v) 74 16 (((m 74 16) + 1) + 1)) 84 (((2 * (m 74 22)) + 1).toNat) ((m 80 (((((m 74 16) + 1) + 1) - 1).toNat)) - 48)) 74 22 ((m 74 22) + 1)))
    (k9 : v = 0 → ((m 74 16) - 1) = (-1) → ¬ (hrR (zu m 74 17 ((m 74 16) - 1)) 80) = 64 → zB (zu (zu (zu (zu (zu m 74 17 ((m 74 16) - 1)) 74 17 (m 74 16)) 84 ((2 * (m 74 22)).toNat) v) 84 (((2 * (m 74 22)) + 1).toNat) 0) 74 22 ((m 74 22) + 1)) → κ (none) (zu (zu (zu (zu (zu m 74 17 ((m 74 16) - 1)) 74 17 (m 74 16)) 84 ((2 * (m 74 22)).toNat) v) 84 (((2 * (m 74 22)) + 1).toNat) 0) 74 22 ((m 74 22) + 1))) :
    T (D + 6) 207 (37, lo, [zi v], m) κ := by
  have hb4 : 0 ≤ (m 74 14) ∧ (m 74 14) ≤ 80 := hB 74 14
  have hb5 : 0 ≤ (m 74 15) ∧ (m 74 15) ≤ 80 := hB 74 15
  have hb6 : (-1) ≤ (hrR (zu m 74 17 ((m 74 16) - 1)) 80) ∧ (hrR (zu m 74 17 ((m 74 16) - 1)) 80) ≤ 255 := hrRB (zu m 74 17 ((m 74 16) - 1)) 80
  have hb7 : (-1) ≤ (hrR (zu (zu (zu m 74 17 ((m 74 16) - 1)) 74 16 ((m 74 16) + 1)) 84 ((2 * (m 74 22)).toNat) v) 80) ∧ (hrR (zu (zu (zu m 74 17 ((m 74 16) - 1)) 74 16 ((m 74 16) + 1)) 84 ((2 * (m 74 22)).toNat) v) 80) ≤ 255 := hrRB (zu (zu (zu m 74 17 ((m 74 16) - 1)) 74 16 ((m 74 16) + 1)) 84 ((2 * (m 74 22)).toNat) v) 80
  have hb8 : (-128) ≤ (m 80 (((((m 74 16) + 1) + 1) - 1).toNat)) ∧ (m 80 (((((m 74 16) + 1) + 1) - 1).toNat)) ≤ 127 := hB 80 (((((m 74 16) + 1) + 1) - 1).toNat)
  have hb9 : (-1) ≤ (hrR m 80) ∧ (hrR m 80) ≤ 255 := hrRB m 80
  have hb10 : (-1) ≤ (hrR (zu (zu m 74 16 ((m 74 16) + 1)) 84 ((2 * (m 74 22)).toNat) v) 80) ∧ (hrR (zu (zu m 74 16 ((m 74 16) + 1)) 84 ((2 * (m 74 22)).toNat) v) 80) ≤ 255 := hrRB (zu (zu m 74 16 ((m 74 16) + 1)) 84 ((2 * (m 74 22)).toNat) v) 80
  have he0 : wr (m 74 17) = (m 74 17) := wr_id (by omega) (by omega)
  have he1 : wr v = v := wr_id (by omega) (by omega)
  have he2 : wr ((m 74 16) - 1) = ((m 74 16) - 1) := wr_id (by omega) (by omega)
  have he3 : wr (hrR (zu m 74 17 ((m 74 16) - 1)) 80) = (hrR (zu m 74 17 ((m 74 16) - 1)) 80) := wr_id (by omega) (by omega)
  have he4 : wr (2 * (m 74 22)) = (2 * (m 74 22)) := wr_id (by omega) (by omega)
  have he5 : wr (hrR (zu (zu (zu m 74 17 ((m 74 16) - 1)) 74 16 ((m 74 16) + 1)) 84 ((2 * (m 74 22)).toNat) v) 80) = (hrR (zu (zu (zu m 74 17 ((m 74 16) - 1)) 74 16 ((m 74 16) + 1)) 84 ((2 * (m 74 22)).toNat) v) 80) := wr_id (by omega) (by omega)
  have he6 : wr ((2 * (m 74 22)) + 1) = ((2 * (m 74 22)) + 1) := wr_id (by omega) (by omega)
  have he7 : wr ((((m 74 16) + 1) + 1) - 1) = ((((m 74 16) + 1) + 1) - 1) := wr_id (by omega) (by omega)
  have he8 : wr ((m 80 (((((m 74 16) + 1) + 1) - 1).toNat)) - 48) = ((m 80 (((((m 74 16) + 1) + 1) - 1).toNat)) - 48) := wr_id (by omega) (by omega)
  have he9 : wr (m 74 16) = (m 74 16) := wr_id (by omega) (by omega)
  have he10 : wr (hrR m 80) = (hrR m 80) := wr_id (by omega) (by omega)
  have he11 : wr (hrR (zu (zu m 74 16 ((m 74 16) + 1)) 84 ((2 * (m 74 22)).toNat) v) 80) = (hrR (zu (zu m 74 16 ((m 74 16) + 1)) 84 ((2 * (m 74 22)).toNat) v) 80) := wr_id (by omega) (by omega)
  have key := @zb207_37r T hT D κ m v lo hlo
  simp only [he0, he1, he2, he3, he4, he5, he6, he7, he8, he9, he10, he11, Int.toNat_natCast] at key
  exact key
    (fun x0 => by omega)
    (fun x0 x1 x2 => by omega)
    (fun x0 x1 x2 => hrd)
    (fun x0 x1 x2 => by refine ⟨?_, ?_⟩ <;> omega)
    (fun x0 x1 x2 => by refine ⟨?_, ?_⟩ <;> omega)
    (fun x0 x1 x2 => by refine ⟨?_, ?_⟩ <;> omega)
    (fun x0 x1 x2 x3 => by refine ⟨?_, ?_⟩ <;> omega)
    (fun x0 x1 x2 x3 x4 => by omega)
    (fun x0 x1 x2 x3 x4 => hrd)
    (fun x0 x1 x2 x3 x4 => by refine ⟨?_, ?_⟩ <;> omega)
    (fun x0 x1 x2 x3 x4 => by refine ⟨?_, ?_⟩ <;> omega)
    (fun x0 x1 x2 x3 x4 => by refine ⟨?_, ?_⟩ <;> omega)
    (fun x0 x1 x2 x3 x4 x5 x6 => by omega)
    (fun x0 x1 x2 x3 x4 x5 x6 => by refine ⟨?_, ?_⟩ <;> omega)
    (fun x0 x1 x2 x3 x4 x5 x6 => k1 x1 x3 x5 (zB_u (zB_u (zB_u (zB_u (zB_u hB (show 0 ≤ ((m 74 16) + 1) ∧ ((m 74 16) + 1) ≤ 100 from ⟨by omega, by omega⟩)) (show 0 ≤ v ∧ v ≤ 99 from ⟨by omega, by omega⟩)) trivial) (show 0 ≤ 0 ∧ 0 ≤ 99 from ⟨by omega, by omega⟩)) (show 0 ≤ ((m 74 22) + 1) ∧ ((m 74 22) + 1) ≤ 6 from ⟨by omega, by omega⟩)))
    (fun x0 x1 x2 x3 x4 x5 x6 x7 => by omega)
    (fun x0 x1 x2 x3 x4 x5 x6 x7 => by refine ⟨?_, ?_⟩ <;> omega)
    (fun x0 x1 x2 x3 x4 x5 x6 x7 => k2 x1 x3 x5 x6 (zB_u (zB_u (zB_u (zB_u (zB_u hB (show 0 ≤ ((m 74 16) + 1) ∧ ((m 74 16) + 1) ≤ 100 from ⟨by omega, by omega⟩)) (show 0 ≤ v ∧ v ≤ 99 from ⟨by omega, by omega⟩)) trivial) (show 0 ≤ 0 ∧ 0 ≤ 99 from ⟨by omega, by omega⟩)) (show 0 ≤ ((m 74 22) + 1) ∧ ((m 74 22) + 1) ≤ 6 from ⟨by omega, by omega⟩)))
    (fun x0 x1 x2 x3 x4 x5 x6 => hrd)
    (fun x0 x1 x2 x3 x4 x5 x6 => by refine ⟨?_, ?_⟩ <;> omega)
    (fun x0 x1 x2 x3 x4 x5 x6 => by refine ⟨?_, ?_⟩ <;> omega)
    (fun x0 x1 x2 x3 x4 x5 x6 => k3 x1 x3 x5 x6)
    (fun x0 x1 x2 x3 x4 => by omega)
    (fun x0 x1 x2 x3 x4 => by refine ⟨?_, ?_⟩ <;> omega)
    (fun x0 x1 x2 x3 x4 x5 => by refine ⟨?_, ?_⟩ <;> omega)
    (fun x0 x1 x2 x3 x4 x5 => k4 x1 x3 (zB_u (zB_u (zB_u (zB_u hB trivial) (show 0 ≤ v ∧ v ≤ 99 from ⟨by omega, by omega⟩)) (show 0 ≤ 0 ∧ 0 ≤ 99 from ⟨by omega, by omega⟩)) (show 0 ≤ ((m 74 22) + 1) ∧ ((m 74 22) + 1) ≤ 6 from ⟨by omega, by omega⟩)))
    (fun x0 x1 x2 x3 x4 x5 => by omega)
    (fun x0 x1 x2 => by omega)
    (fun x0 x1 x2 x3 x4 => by refine ⟨?_, ?_⟩ <;> omega)
    (fun x0 x1 x2 x3 x4 x5 => by refine ⟨?_, ?_⟩ <;> omega)
    (fun x0 x1 x2 x3 x4 x5 => k5 x1 x3 (zB_u (zB_u (zB_u (zB_u hB trivial) (show 0 ≤ v ∧ v ≤ 99 from ⟨by omega, by omega⟩)) (show 0 ≤ 0 ∧ 0 ≤ 99 from ⟨by omega, by omega⟩)) (show 0 ≤ ((m 74 22) + 1) ∧ ((m 74 22) + 1) ≤ 6 from ⟨by omega, by omega⟩)))
    (fun x0 x1 x2 x3 x4 x5 => by omega)
    (fun x0 x1 x2 x3 x4 => by omega)
    (fun x0 x1 x2 x3 => hrd)
    (fun x0 x1 x2 x3 => by refine ⟨?_, ?_⟩ <;> omega)
    (fun x0 x1 x2 x3 => by refine ⟨?_, ?_⟩ <;> omega)
    (fun x0 x1 x2 x3 => by refine ⟨?_, ?_⟩ <;> omega)
    (fun x0 x1 x2 x3 x4 => by refine ⟨?_, ?_⟩ <;> omega)
    (fun x0 x1 x2 x3 x4 x5 => by omega)
    (fun x0 x1 x2 x3 x4 x5 => hrd)
    (fun x0 x1 x2 x3 x4 x5 => by refine ⟨?_, ?_⟩ <;> omega)
    (fun x0 x1 x2 x3 x4 x5 => by refine ⟨?_, ?_⟩ <;> omega)
    (fun x0 x1 x2 x3 x4 x5 => by refine ⟨?_, ?_⟩ <;> omega)
    (fun x0 x1 x2 x3 x4 x5 x6 x7 => by omega)
    (fun x0 x1 x2 x3 x4 x5 x6 x7 => by refine ⟨?_, ?_⟩ <;> omega)
    (fun x0 x1 x2 x3 x4 x5 x6 x7 => k6 x1 x3 x4 x6 (zB_u (zB_u (zB_u (zB_u (zB_u (zB_u hB trivial) (show 0 ≤ ((m 74 16) + 1) ∧ ((m 74 16) + 1) ≤ 100 from ⟨by omega, by omega⟩)) (show 0 ≤ v ∧ v ≤ 99 from ⟨by omega, by omega⟩)) trivial) (show 0 ≤ 0 ∧ 0 ≤ 99 from ⟨by omega, by omega⟩)) (show 0 ≤ ((m 74 22) + 1) ∧ ((m 74 22) + 1) ≤ 6 from ⟨by omega, by omega⟩)))
    (fun x0 x1 x2 x3 x4 x5 x6 x7 x8 => by omega)
    (fun x0 x1 x2 x3 x4 x5 x6 x7 x8 => by refine ⟨?_, ?_⟩ <;> omega)
    (fun x0 x1 x2 x3 x4 x5 x6 x7 x8 => k7 x1 x3 x4 x6 x7 (zB_u (zB_u (zB_u (zB_u (zB_u (zB_u hB trivial) (show 0 ≤ ((m 74 16) + 1) ∧ ((m 74 16) + 1) ≤ 100 from ⟨by omega, by omega⟩)) (show 0 ≤ v ∧ v ≤ 99 from ⟨by omega, by omega⟩)) trivial) (show 0 ≤ 0 ∧ 0 ≤ 99 from ⟨by omega, by omega⟩)) (show 0 ≤ ((m 74 22) + 1) ∧ ((m 74 22) + 1) ≤ 6 from ⟨by omega, by omega⟩)))
    (fun x0 x1 x2 x3 x4 x5 x6 x7 => hrd)
    (fun x0 x1 x2 x3 x4 x5 x6 x7 => by refine ⟨?_, ?_⟩ <;> omega)
    (fun x0 x1 x2 x3 x4 x5 x6 x7 => by refine ⟨?_, ?_⟩ <;> omega)
    (fun x0 x1 x2 x3 x4 x5 x6 x7 => k8 x1 x3 x4 x6 x7)
    (fun x0 x1 x2 x3 x4 x5 => by omega)
    (fun x0 x1 x2 x3 x4 x5 => by refine ⟨?_, ?_⟩ <;> omega)
    (fun x0 x1 x2 x3 x4 x5 x6 => by refine ⟨?_, ?_⟩ <;> omega)
    (fun x0 x1 x2 x3 x4 x5 x6 => k9 x1 x3 x4 (zB_u (zB_u (zB_u (zB_u (zB_u hB trivial) trivial) (show 0 ≤ v ∧ v ≤ 99 from ⟨by omega, by omega⟩)) (show 0 ≤ 0 ∧ 0 ≤ 99 from ⟨by omega, by omega⟩)) (show 0 ≤ ((m 74 22) + 1) ∧ ((m 74 22) + 1) ≤ 6 from ⟨by omega, by omega⟩)))
    (fun x0 x1 x2 x3 x4 x5 x6 => by omega)
theorem zb207_37fr (hT : zRules T) {D : Nat} {κ : Option zA → zM → Prop} {m : zM} {v : Int} {lo : zL} (hlo : z_keep [0] lo = [(0, zr 74)]) 
    (o1 : ¬ wr (m 74 17) = (-1) → ¬ wr (m 74 17) = (-1) → ¬ wr (m 74 17) = (-1) → (0 ≤ wr (2 * (m 74 22)) ∧ wr (2 * (m 74 22)) < 12))
    (o2 : ¬ wr (m 74 17) = (-1) → ¬ wr (m 74 17) = (-1) → ¬ wr (m 74 17) = (-1) → ¬ wr (m 74 17) = (-1) → (0 ≤ wr ((2 * (m 74 22)) + 1) ∧ wr ((2 * (m 74 22)) + 1) < 12))
    (o3 : ¬ wr (m 74 17) = (-1) → ¬ wr (m 74 17) = (-1) → ¬ wr (m 74 17) = (-1) → ¬ wr (m 74 17) = (-1) → κ (none) (zu (zu (zu m 84 ((wr (2 * (m 74 22))).toNat) v) 84 ((wr ((2 * (m 74 22)) + 1)).toNat) 0) 74 22 ((m 74 22) + 1)))
    (o4 : ¬ wr (m 74 17) = (-1) → ¬ wr (m 74 17) = (-1) → ¬ wr (m 74 17) = (-1) → wr (m 74 17) = (-1) → False)
    (o5 : ¬ wr (m 74 17) = (-1) → ¬ wr (m 74 17) = (-1) → wr (m 74 17) = (-1) → False)
    (o6 : ¬ wr (m 74 17) = (-1) → wr (m 74 17) = (-1) → False)
    (o7 : wr (m 74 17) = (-1) → False) :
    T (D + 6) 207 (37, lo, [zi v], m) κ :=
  zkeep hT hlo (hT.1 [] 6 (D + 6) 207 _ κ (hT.1 [] 6 (D + 5) 199 _ _ (And.intro (fun a1 => (And.intro (z_b01L rfl) (hT.1 [] 6 (D + 6) 207 _ _ (And.intro (fun _ => (hT.1 [] 6 (D + 5) 202 _ _ (hT.1 [] 6 (D + 4) 201 _ _ (hT.1 [] 6 (D + 3) 199 _ _ (And.intro (fun a4 => (And.intro (z_b01L rfl) (hT.1 [] 6 (D + 4) 201 _ _ (And.intro (fun _ => (And.intro (z_b01L rfl) (hT.1 [] 6 (D + 5) 202 _ _ (And.intro (fun a7 => (z_litF a7 rfl).elim) (fun _ => (hT.1 [] 6 (D + 4) 200 _ _ (hT.1 [] 6 (D + 3) 199 _ _ (And.intro (fun a8 => (And.intro (z_b01L rfl) (hT.1 [] 6 (D + 4) 200 _ _ (And.intro (fun _ => (hT.1 [] 6 (D + 5) 202 _ _ (hT.1 [] 6 (D + 6) 207 _ _ (hT.1 [] 6 (D + 6) 207 (75, [(0, zr 74), (1, zi v)], [zi (2 * (m 74 22)), zr 84], m) _ (And.intro (And.intro (o1 a1 a4 a8) trivial) (hT.1 [] 6 (D + 6) 207 (83, [(0, zr 74), (1, zi v)], [zr 74, zi 2, zr 84], (zu m 84 ((wr (2 * (m 74 22))).toNat) v)) _ (hT.1 [] 6 (D + 6) 207 (91, [(0, zr 74), (1, zi v)], [zi 0, zr 74, zi ((2 * (m 74 22)) + 1), zr 84], (zu m 84 ((wr (2 * (m 74 22))).toNat) v)) _ (hT.1 [] 6 (D + 5) 203 _ _ (hT.1 [] 6 (D + 4) 199 _ _ (And.intro (fun a11 => (And.intro (z_b01L rfl) (hT.1 [] 6 (D + 5) 203 _ _ (And.intro (fun a13 => (z_litF a13 rfl).elim) (fun _ => (hT.1 [] 6 (D + 6) 207 _ _ (And.intro (And.intro (o2 a1 a4 a8 a11) trivial) (hT.1 [] 6 (D + 6) 207 (103, [(0, zr 74), (1, zi v)], [zi ((m 74 22) + 1), zr 74], (zu (zu m 84 ((wr (2 * (m 74 22))).toNat) v) 84 ((wr ((2 * (m 74 22)) + 1)).toNat) 0)) _ (And.intro trivial (o3 a1 a4 a8 a11)))))))))) (fun a12 => (o4 a1 a4 a8 (Classical.byContradiction a12)).elim))))))))))) (fun a10 => (a10 (z_litT rfl)).elim))))) (fun a9 => (o5 a1 a4 (Classical.byContradiction a9)).elim))))))))) (fun a6 => (a6 (z_litT rfl)).elim))))) (fun a5 => (o6 a1 (Classical.byContradiction a5)).elim)))))) (fun a3 => (a3 (z_litT rfl)).elim))))) (fun a2 => (o7 (Classical.byContradiction a2)).elim))))
theorem zb207_37f (hT : zRules T) {D : Nat} {κ : Option zA → zM → Prop} {m : zM} {v : Int} {lo : zL} (hlo : z_keep [0] lo = [(0, zr 74)])  (hB : zB m) (hrd : m 74 13 = 80) (h_v : 0 ≤ v ∧ v ≤ 99) (hf0 : 0 ≤ m 74 17 ∧ m 74 17 ≤ 100) (hf1 : 0 ≤ m 74 16 ∧ m 74 16 ≤ 78) (hf2 : 0 ≤ m 74 22 ∧ m 74 22 ≤ 5) 
    (k1 : zB (zu (zu (zu m 84 ((2 * (m 74 22)).toNat) v) 84 (((2 * (m 74 22)) + 1).toNat) 0) 74 22 ((m 74 22) + 1)) → κ (none) (zu (zu (zu m 84 ((2 * (m 74 22)).toNat) v) 84 (((2 * (m 74 22)) + 1).toNat) 0) 74 22 ((m 74 22) + 1))) :
    T (D + 6) 207 (37, lo, [zi v], m) κ := by
  have he0 : wr (m 74 17) = (m 74 17) := wr_id (by omega) (by omega)
  have he1 : wr (2 * (m 74 22)) = (2 * (m 74 22)) := wr_id (by omega) (by omega)
  have he2 : wr ((2 * (m 74 22)) + 1) = ((2 * (m 74 22)) + 1) := wr_id (by omega) (by omega)
  have key := @zb207_37fr T hT D κ m v lo hlo
  simp only [he0, he1, he2, Int.toNat_natCast] at key
  exact key
    (fun x0 x1 x2 => by refine ⟨?_, ?_⟩ <;> omega)
    (fun x0 x1 x2 x3 => by refine ⟨?_, ?_⟩ <;> omega)
    (fun x0 x1 x2 x3 => k1  (zB_u (zB_u (zB_u hB (show 0 ≤ v ∧ v ≤ 99 from ⟨by omega, by omega⟩)) (show 0 ≤ 0 ∧ 0 ≤ 99 from ⟨by omega, by omega⟩)) (show 0 ≤ ((m 74 22) + 1) ∧ ((m 74 22) + 1) ≤ 6 from ⟨by omega, by omega⟩)))
    (fun x0 x1 x2 x3 => by omega)
    (fun x0 x1 x2 => by omega)
    (fun x0 x1 => by omega)
    (fun x0 => by omega)
theorem zb207_156r (hT : zRules T) {D : Nat} {κ : Option zA → zM → Prop} {m : zM} {v : Int} {q : Nat} {lo : zL} (hlo : z_keep [0] lo = [(0, zr 74)]) 
    (o1 : (0 ≤ wr (q : Int) ∧ wr (q : Int) < 16))
    (o2 : ¬ wr (m 74 17) = (-1) → False)
    (o3 : wr (m 74 17) = (-1) → (m 74 13) = 80)
    (o4 : wr (m 74 17) = (-1) → (0 ≤ (m 74 16) ∧ (m 74 16) ≤ 1000))
    (o5 : wr (m 74 17) = (-1) → (0 ≤ (m 74 14) ∧ (m 74 14) ≤ 80))
    (o6 : wr (m 74 17) = (-1) → (0 ≤ (m 74 15) ∧ (m 74 15) ≤ 80))
    (o7 : wr (m 74 17) = (-1) → wr (hrR (zu m 85 ((wr (q : Int)).toNat) v) 80) = 43 → ¬ wr (m 74 17) = (-1) → False)
    (o8 : wr (m 74 17) = (-1) → wr (hrR (zu m 85 ((wr (q : Int)).toNat) v) 80) = 43 → wr (m 74 17) = (-1) → (m 74 13) = 80)
    (o9 : wr (m 74 17) = (-1) → wr (hrR (zu m 85 ((wr (q : Int)).toNat) v) 80) = 43 → wr (m 74 17) = (-1) → (0 ≤ ((m 74 16) + 1) ∧ ((m 74 16) + 1) ≤ 1000))
    (o10 : wr (m 74 17) = (-1) → wr (hrR (zu m 85 ((wr (q : Int)).toNat) v) 80) = 43 → wr (m 74 17) = (-1) → (0 ≤ (m 74 14) ∧ (m 74 14) ≤ 80))
    (o11 : wr (m 74 17) = (-1) → wr (hrR (zu m 85 ((wr (q : Int)).toNat) v) 80) = 43 → wr (m 74 17) = (-1) → (0 ≤ (m 74 15) ∧ (m 74 15) ≤ 80))
    (o12 : wr (m 74 17) = (-1) → wr (hrR (zu m 85 ((wr (q : Int)).toNat) v) 80) = 43 → wr (m 74 17) = (-1) → wr (hrR (zu (zu m 85 ((wr (q : Int)).toNat) v) 74 16 ((m 74 16) + 1)) 80) < 48 → ¬ wr (m 74 17) = (-1) → False)
    (o13 : wr (m 74 17) = (-1) → wr (hrR (zu m 85 ((wr (q : Int)).toNat) v) 80) = 43 → wr (m 74 17) = (-1) → wr (hrR (zu (zu m 85 ((wr (q : Int)).toNat) v) 74 16 ((m 74 16) + 1)) 80) < 48 → wr (m 74 17) = (-1) → (0 ≤ wr ((2 * (m 74 23)) + 1) ∧ wr ((2 * (m 74 23)) + 1) < 16))
    (o14 : wr (m 74 17) = (-1) → wr (hrR (zu m 85 ((wr (q : Int)).toNat) v) 80) = 43 → wr (m 74 17) = (-1) → wr (hrR (zu (zu m 85 ((wr (q : Int)).toNat) v) 74 16 ((m 74 16) + 1)) 80) < 48 → wr (m 74 17) = (-1) → κ (none) (zu (zu (zu (zu (zu m 85 ((wr (q : Int)).toNat) v) 74 16 ((m 74 16) + 1)) 74 17 ((m 74 16) + 1)) 85 ((wr ((2 * (m 74 23)) + 1)).toNat) 0) 74 23 ((m 74 23) + 1)))
    (o15 : wr (m 74 17) = (-1) → wr (hrR (zu m 85 ((wr (q : Int)).toNat) v) 80) = 43 → wr (m 74 17) = (-1) → ¬ wr (hrR (zu (zu m 85 ((wr (q : Int)).toNat) v) 74 16 ((m 74 16) + 1)) 80) < 48 → 57 < wr (hrR (zu (zu m 85 ((wr (q : Int)).toNat) v) 74 16 ((m 74 16) + 1)) 80) → ¬ wr (m 74 17) = (-1) → False)
    (o16 : wr (m 74 17) = (-1) → wr (hrR (zu m 85 ((wr (q : Int)).toNat) v) 80) = 43 → wr (m 74 17) = (-1) → ¬ wr (hrR (zu (zu m 85 ((wr (q : Int)).toNat) v) 74 16 ((m 74 16) + 1)) 80) < 48 → 57 < wr (hrR (zu (zu m 85 ((wr (q : Int)).toNat) v) 74 16 ((m 74 16) + 1)) 80) → wr (m 74 17) = (-1) → (0 ≤ wr ((2 * (m 74 23)) + 1) ∧ wr ((2 * (m 74 23)) + 1) < 16))
    (o17 : wr (m 74 17) = (-1) → wr (hrR (zu m 85 ((wr (q : Int)).toNat) v) 80) = 43 → wr (m 74 17) = (-1) → ¬ wr (hrR (zu (zu m 85 ((wr (q : Int)).toNat) v) 74 16 ((m 74 16) + 1)) 80) < 48 → 57 < wr (hrR (zu (zu m 85 ((wr (q : Int)).toNat) v) 74 16 ((m 74 16) + 1)) 80) → wr (m 74 17) = (-1) → κ (none) (zu (zu (zu (zu (zu m 85 ((wr (q : Int)).toNat) v) 74 16 ((m 74 16) + 1)) 74 17 ((m 74 16) + 1)) 85 ((wr ((2 * (m 74 23)) + 1)).toNat) 0) 74 23 ((m 74 23) + 1)))
    (o18 : wr (m 74 17) = (-1) → wr (hrR (zu m 85 ((wr (q : Int)).toNat) v) 80) = 43 → wr (m 74 17) = (-1) → ¬ wr (hrR (zu (zu m 85 ((wr (q : Int)).toNat) v) 74 16 ((m 74 16) + 1)) 80) < 48 → ¬ 57 < wr (hrR (zu (zu m 85 ((wr (q : Int)).toNat) v) 74 16 ((m 74 16) + 1)) 80) → (m 74 13) = 80)
    (o19 : wr (m 74 17) = (-1) → wr (hrR (zu m 85 ((wr (q : Int)).toNat) v) 80) = 43 → wr (m 74 17) = (-1) → ¬ wr (hrR (zu (zu m 85 ((wr (q : Int)).toNat) v) 74 16 ((m 74 16) + 1)) 80) < 48 → ¬ 57 < wr (hrR (zu (zu m 85 ((wr (q : Int)).toNat) v) 74 16 ((m 74 16) + 1)) 80) → (0 ≤ wr ((((m 74 16) + 1) + 1) - 1) ∧ wr ((((m 74 16) + 1) + 1) - 1) < 80))
    (o20 : wr (m 74 17) = (-1) → wr (hrR (zu m 85 ((wr (q : Int)).toNat) v) 80) = 43 → wr (m 74 17) = (-1) → ¬ wr (hrR (zu (zu m 85 ((wr (q : Int)).toNat) v) 74 16 ((m 74 16) + 1)) 80) < 48 → ¬ 57 < wr (hrR (zu (zu m 85 ((wr (q : Int)).toNat) v) 74 16 ((m 74 16) + 1)) 80) → (0 ≤ wr ((2 * (m 74 23)) + 1) ∧ wr ((2 * (m 74 23)) + 1) < 16))
    (o21 : wr (m 74 17) = (-1) → wr (hrR (zu m 85 ((wr (q : Int)).toNat) v) 80) = 43 → wr (m 74 17) = (-1) → ¬ wr (hrR (zu (zu m 85 ((wr (q : Int)).toNat) v) 74 16 ((m 74 16) + 1)) 80) < 48 → ¬ 57 < wr (hrR (zu (zu m 85 ((wr (q : Int)).toNat) v) 74 16 ((m 74 16) + 1)) 80) → κ (none) (zu (zu (zu (zu (zu m 85 ((wr (q : Int)).toNat) v) 74 16 ((m 74 16) + 1)) 74 16 (((m 74 16) + 1) + 1)) 85 ((wr ((2 * (m 74 23)) + 1)).toNat) (wr ((m 80 ((wr ((((m 74 16) + 1) + 1) - 1)).toNat)) - 48))) 74 23 ((m 74 23) + 1)))
    (o22 : wr (m 74 17) = (-1) → ¬ wr (hrR (zu m 85 ((wr (q : Int)).toNat) v) 80) = 43 → (0 ≤ wr ((2 * (m 74 23)) + 1) ∧ wr ((2 * (m 74 23)) + 1) < 16))
    (o23 : wr (m 74 17) = (-1) → ¬ wr (hrR (zu m 85 ((wr (q : Int)).toNat) v) 80) = 43 → κ (none) (zu (zu (zu m 85 ((wr (q : Int)).toNat) v) 85 ((wr ((2 * (m 74 23)) + 1)).toNat) 0) 74 23 ((m 74 23) + 1))) :
    T (D + 6) 207 (156, lo, [zi v, zi (q : Int), zr 85], m) κ :=
  zkeep hT hlo (hT.1 [] 6 (D + 6) 207 _ κ (And.intro (And.intro (o1) trivial) (hT.1 [] 6 (D + 6) 207 (166, [(0, zr 74)], [zi (m 74 23), zi 2, zr 85], (zu m 85 ((wr (q : Int)).toNat) v)) _ (hT.1 [] 6 (D + 5) 201 _ _ (hT.1 [] 6 (D + 4) 199 _ _ (And.intro (fun a1 => (o2 a1).elim) (fun a2 => (hT.1 [] 6 (D + 4) 199 (13, [(0, zr 74)], [zi 1], (zu m 85 ((wr (q : Int)).toNat) v)) _ (And.intro (z_b01L rfl) (hT.1 [] 6 (D + 5) 201 _ _ (And.intro (fun a3 => (z_litF a3 rfl).elim) (fun _ => (z_here80 hT (o3 (Classical.byContradiction a2)) (o4 (Classical.byContradiction a2)) (o5 (Classical.byContradiction a2)) (o6 (Classical.byContradiction a2)) (hT.1 [] 6 (D + 5) 201 _ _ (And.intro (fun a4 => (hT.1 [] 6 (D + 5) 201 (23, [(0, zr 74), (1, zi 43)], [zi 1, zi (m 74 16), zr 74], (zu m 85 ((wr (q : Int)).toNat) v)) _ (And.intro trivial (And.intro (z_b01L rfl) (hT.1 [] 6 (D + 6) 207 _ _ (And.intro (fun a6 => (z_litF a6 rfl).elim) (fun _ => (hT.1 [] 6 (D + 5) 203 _ _ (hT.1 [] 6 (D + 4) 199 _ _ (And.intro (fun a7 => (o7 (Classical.byContradiction a2) a4 a7).elim) (fun a8 => (hT.1 [] 6 (D + 4) 199 (13, [(0, zr 74)], [zi 1], (zu (zu m 85 ((wr (q : Int)).toNat) v) 74 16 ((m 74 16) + 1))) _ (And.intro (z_b01L rfl) (hT.1 [] 6 (D + 5) 203 _ _ (And.intro (fun _ => (z_here80 hT (o8 (Classical.byContradiction a2) a4 (Classical.byContradiction a8)) (o9 (Classical.byContradiction a2) a4 (Classical.byContradiction a8)) (o10 (Classical.byContradiction a2) a4 (Classical.byContradiction a8)) (o11 (Classical.byContradiction a2) a4 (Classical.byContradiction a8)) (hT.1 [] 6 (D + 5) 203 _ _ (hT.1 [] 6 (D + 5) 203 (21, [(0, zr 74), (1, zi 0), (2, zi 9)], [zi 57, zi 48, zi (hrR (zu (zu m 85 ((wr (q : Int)).toNat) v) 74 16 ((m 74 16) + 1)) 80)], (zu (zu m 85 ((wr (q : Int)).toNat) v) 74 16 ((m 74 16) + 1))) _ (hT.1 [] 6 (D + 4) 186 _ _ (And.intro (fun a10 => (And.intro (z_b01L rfl) (hT.1 [] 6 (D + 5) 203 _ _ (And.intro (fun a12 => (z_litF a12 rfl).elim) (fun _ => (hT.1 [] 6 (D + 4) 200 _ _ (hT.1 [] 6 (D + 3) 199 _ _ (And.intro (fun a13 => (o12 (Classical.byContradiction a2) a4 (Classical.byContradiction a8) a10 a13).elim) (fun a14 => (hT.1 [] 6 (D + 3) 199 (13, [(0, zr 74)], [zi 1], (zu (zu m 85 ((wr (q : Int)).toNat) v) 74 16 ((m 74 16) + 1))) _ (And.intro (z_b01L rfl) (hT.1 [] 6 (D + 4) 200 _ _ (And.intro (fun a15 => (z_litF a15 rfl).elim) (fun _ => (And.intro trivial (hT.1 [] 6 (D + 5) 203 _ _ (hT.1 [] 6 (D + 6) 207 _ _ (And.intro (And.intro (o13 (Classical.byContradiction a2) a4 (Classical.byContradiction a8) a10 (Classical.byContradiction a14)) trivial) (hT.1 [] 6 (D + 6) 207 (196, [(0, zr 74)], [zi 1, zi (m 74 23), zr 74], (zu (zu (zu (zu m 85 ((wr (q : Int)).toNat) v) 74 16 ((m 74 16) + 1)) 74 17 ((m 74 16) + 1)) 85 ((wr ((2 * (m 74 23)) + 1)).toNat) 0)) _ (And.intro trivial (o14 (Classical.byContradiction a2) a4 (Classical.byContradiction a8) a10 (Classical.byContradiction a14)))))))))))))))))))))) (fun a11 => (And.intro (fun a16 => (hT.1 [] 6 (D + 4) 186 (14, [(0, zi (hrR (zu (zu m 85 ((wr (q : Int)).toNat) v) 74 16 ((m 74 16) + 1)) 80)), (1, zi 48), (2, zi 57)], [], (zu (zu m 85 ((wr (q : Int)).toNat) v) 74 16 ((m 74 16) + 1))) _ (And.intro (z_b01L rfl) (hT.1 [] 6 (D + 5) 203 _ _ (And.intro (fun a18 => (z_litF a18 rfl).elim) (fun _ => (hT.1 [] 6 (D + 4) 200 _ _ (hT.1 [] 6 (D + 3) 199 _ _ (And.intro (fun a19 => (o15 (Classical.byContradiction a2) a4 (Classical.byContradiction a8) a11 a16 a19).elim) (fun a20 => (hT.1 [] 6 (D + 3) 199 (13, [(0, zr 74)], [zi 1], (zu (zu m 85 ((wr (q : Int)).toNat) v) 74 16 ((m 74 16) + 1))) _ (And.intro (z_b01L rfl) (hT.1 [] 6 (D + 4) 200 _ _ (And.intro (fun a21 => (z_litF a21 rfl).elim) (fun _ => (And.intro trivial (hT.1 [] 6 (D + 5) 203 _ _ (hT.1 [] 6 (D + 6) 207 _ _ (And.intro (And.intro (o16 (Classical.byContradiction a2) a4 (Classical.byContradiction a8) a11 a16 (Classical.byContradiction a20)) trivial) (hT.1 [] 6 (D + 6) 207 (196, [(0, zr 74)], [zi 1, zi (m 74 23), zr 74], (zu (zu (zu (zu m 85 ((wr (q : Int)).toNat) v) 74 16 ((m 74 16) + 1)) 74 17 ((m 74 16) + 1)) 85 ((wr ((2 * (m 74 23)) + 1)).toNat) 0)) _ (And.intro trivial (o17 (Classical.byContradiction a2) a4 (Classical.byContradiction a8) a11 a16 (Classical.byContradiction a20))))))))))))))))))))))) (fun a17 => (hT.1 [] 6 (D + 4) 186 (10, [(0, zi (hrR (zu (zu m 85 ((wr (q : Int)).toNat) v) 74 16 ((m 74 16) + 1)) 80)), (1, zi 48), (2, zi 57)], [], (zu (zu m 85 ((wr (q : Int)).toNat) v) 74 16 ((m 74 16) + 1))) _ (And.intro (z_b01L rfl) (hT.1 [] 6 (D + 5) 203 _ _ (And.intro (fun _ => (hT.1 [] 6 (D + 5) 203 (44, [(0, zr 74), (1, zi 0), (2, zi 9)], [zi (((m 74 16) + 1) + 1), zr 74], (zu (zu m 85 ((wr (q : Int)).toNat) v) 74 16 ((m 74 16) + 1))) _ (And.intro trivial (And.intro (Or.inl (o18 (Classical.byContradiction a2) a4 (Classical.byContradiction a8) a11 a17)) (And.intro (fun _ => (hT.1 [] 6 (D + 5) 203 (56, [(0, zr 74), (1, zi 0), (2, zi 9)], [zi 1, zi (((m 74 16) + 1) + 1), zr 80], (zu (zu (zu m 85 ((wr (q : Int)).toNat) v) 74 16 ((m 74 16) + 1)) 74 16 (((m 74 16) + 1) + 1))) _ (And.intro (o19 (Classical.byContradiction a2) a4 (Classical.byContradiction a8) a11 a17) (hT.1 [] 6 (D + 6) 207 _ _ (And.intro (And.intro (o20 (Classical.byContradiction a2) a4 (Classical.byContradiction a8) a11 a17) trivial) (hT.1 [] 6 (D + 6) 207 (196, [(0, zr 74)], [zi 1, zi (m 74 23), zr 74], (zu (zu (zu (zu m 85 ((wr (q : Int)).toNat) v) 74 16 ((m 74 16) + 1)) 74 16 (((m 74 16) + 1) + 1)) 85 ((wr ((2 * (m 74 23)) + 1)).toNat) (wr ((m 80 ((wr ((((m 74 16) + 1) + 1) - 1)).toNat)) - 48)))) _ (And.intro trivial (o21 (Classical.byContradiction a2) a4 (Classical.byContradiction a8) a11 a17)))))))) (fun a23 => (z_n8086 (o18 (Classical.byContradiction a2) a4 (Classical.byContradiction a8) a11 a17) a23).elim)))))) (fun a22 => (a22 (z_litT rfl)).elim)))))))))))))) (fun a9 => (a9 (z_litT rfl)).elim)))))))))))))))) (fun a5 => (And.intro (z_b01L rfl) (hT.1 [] 6 (D + 6) 207 _ _ (And.intro (fun _ => (And.intro (And.intro (o22 (Classical.byContradiction a2) a5) trivial) (hT.1 [] 6 (D + 6) 207 (195, [(0, zr 74)], [zi (m 74 23), zr 74], (zu (zu m 85 ((wr (q : Int)).toNat) v) 85 ((wr ((2 * (m 74 23)) + 1)).toNat) 0)) _ (And.intro trivial (o23 (Classical.byContradiction a2) a5))))) (fun a24 => (a24 (z_litT rfl)).elim))))))))))))))))))))
theorem zb207_156 (hT : zRules T) {D : Nat} {κ : Option zA → zM → Prop} {m : zM} {v : Int} {q : Nat} {lo : zL} (hlo : z_keep [0] lo = [(0, zr 74)])  (hB : zB m) (hrd : m 74 13 = 80) (h_v : 0 ≤ v ∧ v ≤ 99) (h_q : q ≤ 15) (hf0 : (-1) ≤ m 74 17 ∧ m 74 17 ≤ (-1)) (hf1 : 0 ≤ m 74 16 ∧ m 74 16 ≤ 78) (hf2 : 0 ≤ m 74 23 ∧ m 74 23 ≤ 7) 
    (k1 : (hrR (zu m 85 q v) 80) = 43 → (hrR (zu (zu m 85 q v) 74 16 ((m 74 16) + 1)) 80) < 48 → zB (zu (zu (zu (zu (zu m 85 q v) 74 16 ((m 74 16) + 1)) 74 17 ((m 74 16) + 1)) 85 (((2 * (m 74 23)) + 1).toNat) 0) 74 23 ((m 74 23) + 1)) → κ (none) (zu (zu (zu (zu (zu m 85 q v) 74 16 ((m 74 16) + 1)) 74 17 ((m 74 16) + 1)) 85 (((2 * (m 74 23)) + 1).toNat) 0) 74 23 ((m 74 23) + 1)))
    (k2 : (hrR (zu m 85 q v) 80) = 43 → ¬ (hrR (zu (zu m 85 q v) 74 16 ((m 74 16) + 1)) 80) < 48 → 57 < (hrR (zu (zu m 85 q v) 74 16 ((m 74 16) + 1)) 80) → zB (zu (zu (zu (zu (zu m 85 q v) 74 16 ((m 74 16) + 1)) 74 17 ((m 74 16) + 1)) 85 (((2 * (m 74 23)) + 1).toNat) 0) 74 23 ((m 74 23) + 1)) → κ (none) (zu (zu (zu (zu (zu m 85 q v) 74 16 ((m 74 16) + 1)) 74 17 ((m 74 16) + 1)) 85 (((2 * (m 74 23)) + 1).toNat) 0) 74 23 ((m 74 23) + 1)))
    (k3 : (hrR (zu m 85 q v) 80) = 43 → ¬ (hrR (zu (zu m 85 q v) 74 16 ((m 74 16) + 1)) 80) < 48 → ¬ 57 < (hrR (zu (zu m 85 q v) 74 16 ((m 74 16) + 1)) 80) → κ (none) (zu (zu (zu (zu (zu m 85 q v) 74 16 ((m 74 16) + 1)) 74 16 (((m 74 16) + 1) + 1)) 85 (((2 * (m 74 23)) + 1).toNat) ((m 80 (((((m 74 16) + 1) + 1) - 1).toNat)) - 48)) 74 23 ((m 74 23) + 1)))
    (k4 : ¬ (hrR (zu m 85 q v) 80) = 43 → zB (zu (zu (zu m 85 q v) 85 (((2 * (m 74 23)) + 1).toNat) 0) 74 23 ((m 74 23) + 1)) → κ (none) (zu (zu (zu m 85 q v) 85 (((2 * (m 74 23)) + 1).toNat) 0) 74 23 ((m 74 23) + 1))) :
    T (D + 6) 207 (156, lo, [zi v, zi (q : Int), zr 85], m) κ := by
  have hb5 : 0 ≤ (m 74 14) ∧ (m 74 14) ≤ 80 := hB 74 14
  have hb6 : 0 ≤ (m 74 15) ∧ (m 74 15) ≤ 80 := hB 74 15
  have hb7 : (-1) ≤ (hrR (zu m 85 q v) 80) ∧ (hrR (zu m 85 q v) 80) ≤ 255 := hrRB (zu m 85 q v) 80
  have hb8 : (-1) ≤ (hrR (zu (zu m 85 q v) 74 16 ((m 74 16) + 1)) 80) ∧ (hrR (zu (zu m 85 q v) 74 16 ((m 74 16) + 1)) 80) ≤ 255 := hrRB (zu (zu m 85 q v) 74 16 ((m 74 16) + 1)) 80
  have hb9 : (-128) ≤ (m 80 (((((m 74 16) + 1) + 1) - 1).toNat)) ∧ (m 80 (((((m 74 16) + 1) + 1) - 1).toNat)) ≤ 127 := hB 80 (((((m 74 16) + 1) + 1) - 1).toNat)
  have he0 : wr (q : Int) = (q : Int) := wr_id (by omega) (by omega)
  have he1 : (q : Int).toNat = q := by omega
  have he2 : wr (m 74 17) = (m 74 17) := wr_id (by omega) (by omega)
  have he3 : wr (hrR (zu m 85 q v) 80) = (hrR (zu m 85 q v) 80) := wr_id (by omega) (by omega)
  have he4 : wr (hrR (zu (zu m 85 q v) 74 16 ((m 74 16) + 1)) 80) = (hrR (zu (zu m 85 q v) 74 16 ((m 74 16) + 1)) 80) := wr_id (by omega) (by omega)
  have he5 : wr ((2 * (m 74 23)) + 1) = ((2 * (m 74 23)) + 1) := wr_id (by omega) (by omega)
  have he6 : wr ((((m 74 16) + 1) + 1) - 1) = ((((m 74 16) + 1) + 1) - 1) := wr_id (by omega) (by omega)
  have he7 : wr ((m 80 (((((m 74 16) + 1) + 1) - 1).toNat)) - 48) = ((m 80 (((((m 74 16) + 1) + 1) - 1).toNat)) - 48) := wr_id (by omega) (by omega)
  have key := @zb207_156r T hT D κ m v q lo hlo
  simp only [he0, he1, he2, he3, he4, he5, he6, he7, Int.toNat_natCast] at key
  exact key
    (by refine ⟨?_, ?_⟩ <;> omega)
    (fun x0 => by omega)
    (fun x0 => hrd)
    (fun x0 => by refine ⟨?_, ?_⟩ <;> omega)
    (fun x0 => by refine ⟨?_, ?_⟩ <;> omega)
    (fun x0 => by refine ⟨?_, ?_⟩ <;> omega)
    (fun x0 x1 x2 => by omega)
    (fun x0 x1 x2 => hrd)
    (fun x0 x1 x2 => by refine ⟨?_, ?_⟩ <;> omega)
    (fun x0 x1 x2 => by refine ⟨?_, ?_⟩ <;> omega)
    (fun x0 x1 x2 => by refine ⟨?_, ?_⟩ <;> omega)
    (fun x0 x1 x2 x3 x4 => by omega)
    (fun x0 x1 x2 x3 x4 => by refine ⟨?_, ?_⟩ <;> omega)
    (fun x0 x1 x2 x3 x4 => k1 x1 x3 (zB_u (zB_u (zB_u (zB_u (zB_u hB (show 0 ≤ v ∧ v ≤ 99 from ⟨by omega, by omega⟩)) (show 0 ≤ ((m 74 16) + 1) ∧ ((m 74 16) + 1) ≤ 100 from ⟨by omega, by omega⟩)) trivial) (show 0 ≤ 0 ∧ 0 ≤ 99 from ⟨by omega, by omega⟩)) (show 0 ≤ ((m 74 23) + 1) ∧ ((m 74 23) + 1) ≤ 8 from ⟨by omega, by omega⟩)))
    (fun x0 x1 x2 x3 x4 x5 => by omega)
    (fun x0 x1 x2 x3 x4 x5 => by refine ⟨?_, ?_⟩ <;> omega)
    (fun x0 x1 x2 x3 x4 x5 => k2 x1 x3 x4 (zB_u (zB_u (zB_u (zB_u (zB_u hB (show 0 ≤ v ∧ v ≤ 99 from ⟨by omega, by omega⟩)) (show 0 ≤ ((m 74 16) + 1) ∧ ((m 74 16) + 1) ≤ 100 from ⟨by omega, by omega⟩)) trivial) (show 0 ≤ 0 ∧ 0 ≤ 99 from ⟨by omega, by omega⟩)) (show 0 ≤ ((m 74 23) + 1) ∧ ((m 74 23) + 1) ≤ 8 from ⟨by omega, by omega⟩)))
    (fun x0 x1 x2 x3 x4 => hrd)
    (fun x0 x1 x2 x3 x4 => by refine ⟨?_, ?_⟩ <;> omega)
    (fun x0 x1 x2 x3 x4 => by refine ⟨?_, ?_⟩ <;> omega)
    (fun x0 x1 x2 x3 x4 => k3 x1 x3 x4)
    (fun x0 x1 => by refine ⟨?_, ?_⟩ <;> omega)
    (fun x0 x1 => k4 x1 (zB_u (zB_u (zB_u hB (show 0 ≤ v ∧ v ≤ 99 from ⟨by omega, by omega⟩)) (show 0 ≤ 0 ∧ 0 ≤ 99 from ⟨by omega, by omega⟩)) (show 0 ≤ ((m 74 23) + 1) ∧ ((m 74 23) + 1) ≤ 8 from ⟨by omega, by omega⟩)))
theorem zb207_156fr (hT : zRules T) {D : Nat} {κ : Option zA → zM → Prop} {m : zM} {v : Int} {q : Nat} {lo : zL} (hlo : z_keep [0] lo = [(0, zr 74)]) 
    (o1 : (0 ≤ wr (q : Int) ∧ wr (q : Int) < 16))
    (o2 : ¬ wr (m 74 17) = (-1) → (0 ≤ wr ((2 * (m 74 23)) + 1) ∧ wr ((2 * (m 74 23)) + 1) < 16))
    (o3 : ¬ wr (m 74 17) = (-1) → κ (none) (zu (zu (zu m 85 ((wr (q : Int)).toNat) v) 85 ((wr ((2 * (m 74 23)) + 1)).toNat) 0) 74 23 ((m 74 23) + 1)))
    (o4 : wr (m 74 17) = (-1) → False) :
    T (D + 6) 207 (156, lo, [zi v, zi (q : Int), zr 85], m) κ :=
  zkeep hT hlo (hT.1 [] 6 (D + 6) 207 _ κ (And.intro (And.intro (o1) trivial) (hT.1 [] 6 (D + 6) 207 (166, [(0, zr 74)], [zi (m 74 23), zi 2, zr 85], (zu m 85 ((wr (q : Int)).toNat) v)) _ (hT.1 [] 6 (D + 5) 201 _ _ (hT.1 [] 6 (D + 4) 199 _ _ (And.intro (fun a1 => (And.intro (z_b01L rfl) (hT.1 [] 6 (D + 5) 201 _ _ (And.intro (fun _ => (And.intro (z_b01L rfl) (hT.1 [] 6 (D + 6) 207 _ _ (And.intro (fun _ => (And.intro (And.intro (o2 a1) trivial) (hT.1 [] 6 (D + 6) 207 (195, [(0, zr 74)], [zi (m 74 23), zr 74], (zu (zu m 85 ((wr (q : Int)).toNat) v) 85 ((wr ((2 * (m 74 23)) + 1)).toNat) 0)) _ (And.intro trivial (o3 a1))))) (fun a4 => (a4 (z_litT rfl)).elim))))) (fun a3 => (a3 (z_litT rfl)).elim))))) (fun a2 => (o4 (Classical.byContradiction a2)).elim)))))))
theorem zb207_156f (hT : zRules T) {D : Nat} {κ : Option zA → zM → Prop} {m : zM} {v : Int} {q : Nat} {lo : zL} (hlo : z_keep [0] lo = [(0, zr 74)])  (hB : zB m) (hrd : m 74 13 = 80) (h_v : 0 ≤ v ∧ v ≤ 99) (h_q : q ≤ 15) (hf0 : 0 ≤ m 74 17 ∧ m 74 17 ≤ 100) (hf1 : 0 ≤ m 74 16 ∧ m 74 16 ≤ 78) (hf2 : 0 ≤ m 74 23 ∧ m 74 23 ≤ 7) 
    (k1 : zB (zu (zu (zu m 85 q v) 85 (((2 * (m 74 23)) + 1).toNat) 0) 74 23 ((m 74 23) + 1)) → κ (none) (zu (zu (zu m 85 q v) 85 (((2 * (m 74 23)) + 1).toNat) 0) 74 23 ((m 74 23) + 1))) :
    T (D + 6) 207 (156, lo, [zi v, zi (q : Int), zr 85], m) κ := by
  have he0 : wr (q : Int) = (q : Int) := wr_id (by omega) (by omega)
  have he1 : (q : Int).toNat = q := by omega
  have he2 : wr (m 74 17) = (m 74 17) := wr_id (by omega) (by omega)
  have he3 : wr ((2 * (m 74 23)) + 1) = ((2 * (m 74 23)) + 1) := wr_id (by omega) (by omega)
  have key := @zb207_156fr T hT D κ m v q lo hlo
  simp only [he0, he1, he2, he3, Int.toNat_natCast] at key
  exact key
    (by refine ⟨?_, ?_⟩ <;> omega)
    (fun x0 => by refine ⟨?_, ?_⟩ <;> omega)
    (fun x0 => k1  (zB_u (zB_u (zB_u hB (show 0 ≤ v ∧ v ≤ 99 from ⟨by omega, by omega⟩)) (show 0 ≤ 0 ∧ 0 ≤ 99 from ⟨by omega, by omega⟩)) (show 0 ≤ ((m 74 23) + 1) ∧ ((m 74 23) + 1) ≤ 8 from ⟨by omega, by omega⟩)))
    (fun x0 => by omega)
end ZBlocks
end
-- a5.lines.lean.txt
section
/-! house(): the lines as they are told; read by the class. -/
noncomputable def prS (s : Nat → Int) (a : Nat) : Option (Int × Int × Nat) := match twoS s a with
  | .inl _ => none
  | .inr q => if q.1 = 0 then none else if s q.2 = 64 ∧ 48 ≤ s (q.2 + 1) ∧ s (q.2 + 1) ≤ 51 then some (q.1, s (q.2 + 1) - 48, q.2 + 2) else none
noncomputable def clS (s : Nat → Int) (a : Nat) : Option (Int × Int × Nat) := match twoS s a with
  | .inl _ => none
  | .inr q => if s q.2 = 43 then (if 48 ≤ s (q.2 + 1) ∧ s (q.2 + 1) ≤ 57 then some (q.1, s (q.2 + 1) - 48, q.2 + 2) else none) else some (q.1, 0, q.2)
/-- the line that begins at a, so many people and cloths being told: of a person or a cloth, its numbers, where it ends -/
noncomputable def lnS (s : Nat → Int) (p c a : Nat) : Option (Bool × Int × Int × Nat) :=
  if s a = 112 ∧ p < 6 then (match prS s (a + 1) with
    | none => none
    | some q => some (true, q))
  else if s a = 99 ∧ c < 8 then (match clS s (a + 1) with
    | none => none
    | some q => some (false, q))
  else none
noncomputable abbrev hTy : Type := Nat × Nat × (Nat → Int) × (Nat → Int) × (Nat → Int) × (Nat → Int)
noncomputable def hsR (s : Nat → Int) (L : Nat) : Nat → Nat → Nat → Nat → (Nat → Int) → (Nat → Int) → (Nat → Int) → (Nat → Int) → Option hTy
  | 0, _, _, _, _, _, _, _ => none
  | j + 1, p, c, a, fx, fy, gx, gy => match lnS s p c a with
    | none => none
    | some (true, x, y, b) => if b = L then some (p + 1, c, fu fx p x, fu fy p y, gx, gy) else if s b = 59 then hsR s L j (p + 1) c (b + 1) (fu fx p x) (fu fy p y) gx gy else none
    | some (false, x, y, b) => if b = L then some (p, c + 1, fx, fy, fu gx c x, fu gy c y) else if s b = 59 then hsR s L j p (c + 1) (b + 1) fx fy (fu gx c x) (fu gy c y) else none
theorem prS_b {s : Nat → Int} {L : Nat} (hs : ∀ a, L ≤ a → s a = -1) {a b : Nat} {x y : Int} (ha : a ≤ L) (h : prS s a = some (x, y, b)) : a + 1 ≤ b ∧ b ≤ L ∧ (1 ≤ x ∧ x ≤ 99) ∧ (0 ≤ y ∧ y ≤ 3) := by
  have lt : ∀ b, ¬ s b = -1 → b < L := fun b h => by
    rcases Nat.lt_or_ge b L with x | x
    · exact x
    · exact absurd (hs b x) h
  unfold prS at h
  cases ht : twoS s a with
  | inl w => rw [ht] at h; cases h
  | inr w =>
    obtain ⟨v, c⟩ := w
    rw [ht] at h
    dsimp only at h
    have hb := (twoS_b hs ha).2 v c ht
    by_cases q : v = 0
    · rw [if_pos q] at h
      cases h
    · rw [if_neg q] at h
      by_cases q2 : s c = 64 ∧ 48 ≤ s (c + 1) ∧ s (c + 1) ≤ 51
      · rw [if_pos q2] at h
        cases h
        have := lt c (by omega)
        have := lt (c + 1) (by omega)
        omega
      · rw [if_neg q2] at h
        cases h
theorem clS_b {s : Nat → Int} {L : Nat} (hs : ∀ a, L ≤ a → s a = -1) {a b : Nat} {x y : Int} (ha : a ≤ L) (h : clS s a = some (x, y, b)) : a + 1 ≤ b ∧ b ≤ L ∧ (0 ≤ x ∧ x ≤ 99) ∧ (0 ≤ y ∧ y ≤ 9) := by
  have lt : ∀ b, ¬ s b = -1 → b < L := fun b h => by
    rcases Nat.lt_or_ge b L with x | x
    · exact x
    · exact absurd (hs b x) h
  unfold clS at h
  cases ht : twoS s a with
  | inl w => rw [ht] at h; cases h
  | inr w =>
    obtain ⟨v, c⟩ := w
    rw [ht] at h
    dsimp only at h
    have hb := (twoS_b hs ha).2 v c ht
    by_cases q : s c = 43
    · rw [if_pos q] at h
      by_cases q2 : 48 ≤ s (c + 1) ∧ s (c + 1) ≤ 57
      · rw [if_pos q2] at h
        cases h
        have := lt c (by omega)
        have := lt (c + 1) (by omega)
        omega
      · rw [if_neg q2] at h
        cases h
    · rw [if_neg q] at h
      cases h
      omega
theorem lnS_b {s : Nat → Int} {L : Nat} (hs : ∀ a, L ≤ a → s a = -1) {a b p c : Nat} {x y : Int} {kd : Bool} (ha : a ≤ L) (h : lnS s p c a = some (kd, x, y, b)) : a + 2 ≤ b ∧ b ≤ L ∧ (kd = true → p < 6 ∧ (1 ≤ x ∧ x ≤ 99) ∧ (0 ≤ y ∧ y ≤ 3)) ∧ (kd = false → c < 8 ∧ (0 ≤ x ∧ x ≤ 99) ∧ (0 ≤ y ∧ y ≤ 9)) := by
  have lt : ∀ b, ¬ s b = -1 → b < L := fun b h => by
    rcases Nat.lt_or_ge b L with x | x
    · exact x
    · exact absurd (hs b x) h
  unfold lnS at h
  by_cases q : s a = 112 ∧ p < 6
  · rw [if_pos q] at h
    have := lt a (by omega)
    cases hp : prS s (a + 1) with
    | none => rw [hp] at h; cases h
    | some w =>
      rw [hp] at h
      cases h
      have hb := prS_b hs (by omega) hp
      exact ⟨by omega, by omega, (fun _ => ⟨q.2, hb.2.2.1, hb.2.2.2⟩), (fun e => by cases e)⟩
  · rw [if_neg q] at h
    by_cases q2 : s a = 99 ∧ c < 8
    · rw [if_pos q2] at h
      have := lt a (by omega)
      cases hp : clS s (a + 1) with
      | none => rw [hp] at h; cases h
      | some w =>
        rw [hp] at h
        cases h
        have hb := clS_b hs (by omega) hp
        exact ⟨by omega, by omega, (fun e => by cases e), (fun _ => ⟨q2.2, hb.2.2.1, hb.2.2.2⟩)⟩
    · rw [if_neg q2] at h
      cases h
section ZLines
variable {T : Nat → Nat → zG → (Option zA → zM → Prop) → Prop} {D : Nat} {κ : Option zA → zM → Prop} {m : zM} {s : Nat → Int} {L : Nat}
noncomputable def yhL : zLs := [(2, some 3), (18, none), (19, none), (20, none), (21, none), (22, none), (23, none)]
theorem sC_h {M : zM} (hF : zFr (inL yhL) m M) : sgC M = sgC m := by
  funext a
  have e1 : M 2 2 = m 2 2 := hF 2 2 rfl
  have e2 : M 3 a = m 3 a := hF 3 a rfl
  unfold sgC
  rw [e1, e2]
theorem nx_h {M : zM} {a : Nat} (hsd : s = sgC m) (hF : zFr (inL yhL) m M) (h : M 2 3 = (a : Int)) : nxC M = s a := by
  have e : zu M 2 3 (a : Int) = M := zu_id h
  rw [hsd, ← sC_h hF, ← nx_at, e]
/-- a number of one or two digits, by the class -/
theorem z_twoC (hT : zRules T) {N : zM} {a : Nat} (hBN : zB N) (hs : sgC N = s) (h23 : N 2 3 = (a : Int)) (ha : a ≤ 80)
    (h0 : twoS s a = .inl a → κ (some (zi (-1))) N)
    (h1 : ∀ v b, twoS s a = .inr (v, b) → (0 ≤ v ∧ v ≤ 99) → a + 1 ≤ b → b ≤ 82 → zB (zu N 2 3 (b : Int)) → κ (some (zi v)) (zu N 2 3 (b : Int))) : T (D + 3) 72 (0, [(0, zr 2), (1, zi 2)], [], N) κ := by
  have lt : ∀ b, 80 ≤ b → s b = -1 := fun b hb => by
    have h22 : 0 ≤ N 2 2 ∧ N 2 2 ≤ 80 := hBN 2 2
    rw [← hs]
    unfold sgC
    rw [if_neg (by omega)]
  refine z_num_2 (D := D) (a := a) hT hBN h23 ha (fun c1 c2 hz => ?_) (fun c => ?_)
  · rw [hs] at c1 c2 hz ⊢
    have e2 : twoS s a = .inr ((rNum s 2 a 0).2, (rNum s 2 a 0).1) := by
      unfold twoS
      rw [if_pos ⟨c1, c2⟩]
    obtain ⟨t1, t2, t3, t4⟩ := (twoS_b lt ha).2 _ _ e2
    exact h1 _ _ e2 ⟨t3, t4⟩ t1 (by omega) hz
  · rw [hs] at c
    exact h0 (two0 c)
theorem z_personC (hT : zRules T) (hsd : s = sgC m) {N : zM} {a p : Nat} (hBN : zB N) (hF : zFr (inL yhL) m N) (h23 : N 2 3 = (a : Int)) (ha : a ≤ 77) (hp : p ≤ 5)
    (h0 : ∀ M, prS s a = none → zB M → zFr (inL yhL) m M → (∀ q, q ≠ p → M 18 q = N 18 q ∧ M 19 q = N 19 q ∧ M 20 q = N 20 q) → (∀ q, M 21 q = N 21 q ∧ M 22 q = N 22 q ∧ M 23 q = N 23 q) → κ (some (zi 0)) M)
    (h1 : ∀ x y b M, prS s a = some (x, y, b) → zB M → zFr (inL yhL) m M → M 2 3 = (b : Int) → M 18 p = x → M 19 p = y → M 20 p = -1 → (∀ q, q ≠ p → M 18 q = N 18 q ∧ M 19 q = N 19 q ∧ M 20 q = N 20 q) → (∀ q, M 21 q = N 21 q ∧ M 22 q = N 22 q ∧ M 23 q = N 23 q) → κ (some (zi 1)) M) : T (D + 4) 40 (0, [(0, zr 17), (1, zr 2), (2, zi (p : Int))], [], N) κ := by
  have hs : sgC N = s := by rw [hsd]; exact sC_h hF
  refine zb40_0 (D := D) hT hBN hp (by omega) ?_
  rw [h23]
  refine z_twoC (D := D) hT hBN hs h23 (by omega) (fun ht => ?_) (fun v b ht hv hab hb82 hz => ?_)
  · have e : prS s a = none := by
      unfold prS
      rw [ht]
    refine zb40_15 (D := D) (f := a) hT rfl hBN hp (by omega) (by omega) (by omega) (fun _ _ hz => ?_) (fun _ q => absurd rfl q) (fun _ q => absurd rfl q) (fun _ q => absurd rfl q) (fun _ q => absurd rfl q) (fun q => by omega) (fun q => by omega) (fun q => by omega) (fun q => by omega) (fun q => by omega) (fun q => by omega) (fun q => by omega)
    exact h0 _ e hz (hF.set rfl) (fun q hq => ⟨by rw [zu_off hq], by rw [zu_dn (by omega)], by rw [zu_dn (by omega)]⟩) (fun q => ⟨by rw [zu_dn (by omega)], by rw [zu_dn (by omega)], by rw [zu_dn (by omega)]⟩)
  · have hF1 : zFr (inL yhL) m (zu N 2 3 (b : Int)) := hF.set rfl
    have g1 : (zu N 2 3 (b : Int)) 2 3 = (b : Int) := by rw [zu_sm rfl]
    have o1 : ∀ c j, c ≠ 2 → (zu N 2 3 (b : Int)) c j = N c j := fun c j hc => zu_dn hc
    generalize zu N 2 3 (b : Int) = N1 at hz hF1 g1 o1 ⊢
    have hn1 : nxC (zu N1 18 p v) = s b := nx_h hsd (hF1.set rfl) (by rw [zu_dn (by omega)]; exact g1)
    have hn2 : nxC (zu (zu N1 18 p v) 2 3 (N1 2 3 + 1)) = s (b + 1) := nx_h hsd ((hF1.set rfl).set rfl) (by rw [zu_sm rfl, g1]; omega)
    have b23 : 0 ≤ N1 2 3 ∧ N1 2 3 ≤ 90 := by omega
    have none0 : v = 0 → prS s a = none := fun q => by
      unfold prS
      rw [ht]
      dsimp only
      rw [if_pos q]
    have none1 : ¬ (s b = 64 ∧ 48 ≤ s (b + 1) ∧ s (b + 1) ≤ 51) → prS s a = none := fun q => by
      unfold prS
      rw [ht]
      dsimp only
      by_cases q0 : v = 0
      · rw [if_pos q0]
      · rw [if_neg q0, if_neg q]
    have bad : ∀ M, prS s a = none → zB M → zFr (inL [(2, some 3), (18, some p), (19, some p), (20, some p)]) N1 M → κ (some (zi 0)) M := fun M e hBM hFM => h0 M e hBM (hF1.trans (hFM.sub (fun c j q => by
      simp only [inL, List.any_cons, List.any_nil, Bool.or_false, Bool.or_eq_true, Bool.and_eq_true] at q
      rcases q with ⟨e1, e2⟩ | ⟨e1, _⟩ | ⟨e1, _⟩ | ⟨e1, _⟩
      · have h1 := Nat.eq_of_beq_eq_true e1
        have h2 := Nat.eq_of_beq_eq_true e2
        subst h1 h2
        rfl
      · have h1 := Nat.eq_of_beq_eq_true e1
        subst h1
        rfl
      · have h1 := Nat.eq_of_beq_eq_true e1
        subst h1
        rfl
      · have h1 := Nat.eq_of_beq_eq_true e1
        subst h1
        rfl))) (fun q hq => by
      have e : Nat.beq p q = false := q_beqF (fun x => hq x.symm)
      exact ⟨by rw [hFM 18 q (by simp [inL, e]), o1 18 q (by omega)], by rw [hFM 19 q (by simp [inL, e]), o1 19 q (by omega)], by rw [hFM 20 q (by simp [inL, e]), o1 20 q (by omega)]⟩) (fun q => ⟨by rw [hFM 21 q rfl, o1 21 q (by omega)], by rw [hFM 22 q rfl, o1 22 q (by omega)], by rw [hFM 23 q rfl, o1 23 q (by omega)]⟩)
    have pb : ∀ c, inL [(2, some 3), (18, some p), (19, some p), (20, some p)] c p = true ∨ ¬ (c = 18 ∨ c = 19 ∨ c = 20) := fun c => by
      by_cases e : c = 18 ∨ c = 19 ∨ c = 20
      · left
        rcases e with rfl | rfl | rfl <;> simp [inL]
      · exact Or.inr e
    have p18 : inL [(2, some 3), (18, some p), (19, some p), (20, some p)] 18 p = true := by simp [inL]
    have p19 : inL [(2, some 3), (18, some p), (19, some p), (20, some p)] 19 p = true := by simp [inL]
    have p20 : inL [(2, some 3), (18, some p), (19, some p), (20, some p)] 20 p = true := by simp [inL]
    have p2 : inL [(2, some 3), (18, some p), (19, some p), (20, some p)] 2 3 = true := rfl
    have ok : ¬ v = 0 → s b = 64 → 48 ≤ s (b + 1) → s (b + 1) ≤ 51 → zB (zu (zu (zu (zu (zu N1 18 p v) 2 3 (N1 2 3 + 1)) 2 3 (N1 2 3 + 1 + 1)) 19 p (s (b + 1) - 48)) 20 p (-1)) → κ (some (zi 1)) (zu (zu (zu (zu (zu N1 18 p v) 2 3 (N1 2 3 + 1)) 2 3 (N1 2 3 + 1 + 1)) 19 p (s (b + 1) - 48)) 20 p (-1)) := fun q0 q1 q2 q3 hz2 => by
      refine h1 v (s (b + 1) - 48) (b + 2) _ ?_ hz2 (((((hF1.set rfl).set rfl).set rfl).set rfl).set rfl) ?_ ?_ ?_ ?_ (fun q hq => ⟨?_, ?_, ?_⟩) (fun q => ⟨?_, ?_, ?_⟩)
      · unfold prS
        rw [ht]
        dsimp only
        rw [if_neg q0, if_pos ⟨q1, q2, q3⟩]
      · rw [zu_dn (by omega), zu_dn (by omega), zu_sm rfl, g1]
        omega
      · simp (disch := omega) only [zu_sm, zu_off, zu_dn]
      · simp (disch := omega) only [zu_sm, zu_off, zu_dn]
      · rw [zu_sm rfl]
      · simp (disch := omega) only [zu_off, zu_dn]
        exact o1 18 q (by omega)
      · simp (disch := omega) only [zu_off, zu_dn]
        exact o1 19 q (by omega)
      · simp (disch := omega) only [zu_off, zu_dn]
        exact o1 20 q (by omega)
      · simp (disch := omega) only [zu_dn]
        exact o1 21 q (by omega)
      · simp (disch := omega) only [zu_dn]
        exact o1 22 q (by omega)
      · simp (disch := omega) only [zu_dn]
        exact o1 23 q (by omega)
    have cut : N1 2 3 = N1 2 2 → s b = -1 := fun q => by
      rw [← hn1]
      unfold nxC
      rw [zu_dn (by omega), zu_dn (by omega), if_neg (by omega)]
    refine zb40_15 (D := D) (f := a) hT rfl hz hp (by omega) (by omega) b23 ?_ ?_ ?_ ?_ ?_ ?_ ?_ ?_ ?_ ?_ ?_ ?_
    · exact fun _ q => by omega
    · rw [hn1, hn2]
      exact fun _ _ q1 q2 hz2 => bad _ (none1 (by omega)) hz2 ((((zFr.refl.set p18).set p2).set p19).set p20)
    · rw [hn1]
      intro q0 _ q1 q2 q3 hz2
      rw [hn2] at q2 q3 hz2 ⊢
      exact ok q0 q1 (by omega) (by omega) hz2
    · rw [hn1, hn2]
      exact fun _ _ q1 _ q2 hz2 => bad _ (none1 (by omega)) hz2 ((((zFr.refl.set p18).set p2).set p19).set p20)
    · rw [hn1]
      exact fun _ _ q1 hz2 => bad _ (none1 (fun x => q1 x.1)) hz2 (zFr.refl.set p18)
    · exact fun q0 _ hz2 => bad _ (none0 q0) hz2 ((zFr.refl.set p18).set p2)
    · exact fun q0 _ _ hz2 => bad _ (none0 q0) hz2 ((zFr.refl.set p18).set p2)
    · exact fun q0 _ _ _ hz2 => bad _ (none0 q0) hz2 ((zFr.refl.set p18).set p2)
    · rw [hn1]
      exact fun _ _ q1 _ q2 => by have := cut q1; omega
    · rw [hn1]
      exact fun _ _ q1 _ q2 => by have := cut q1; omega
    · rw [hn1]
      exact fun _ _ q1 _ q2 => by have := cut q1; omega
    · exact fun q0 _ _ _ _ hz2 => bad _ (none0 q0) hz2 (zFr.refl.set p18)
theorem z_clothC (hT : zRules T) (hsd : s = sgC m) {N : zM} {a p : Nat} (hBN : zB N) (hF : zFr (inL yhL) m N) (h23 : N 2 3 = (a : Int)) (ha : a ≤ 77) (hp : p ≤ 7)
    (h0 : ∀ M, clS s a = none → zB M → zFr (inL yhL) m M → (∀ q, q ≠ p → M 21 q = N 21 q ∧ M 22 q = N 22 q ∧ M 23 q = N 23 q) → (∀ q, M 18 q = N 18 q ∧ M 19 q = N 19 q ∧ M 20 q = N 20 q) → κ (some (zi 0)) M)
    (h1 : ∀ x y b M, clS s a = some (x, y, b) → zB M → zFr (inL yhL) m M → M 2 3 = (b : Int) → M 21 p = x → M 22 p = y → M 23 p = 0 → (∀ q, q ≠ p → M 21 q = N 21 q ∧ M 22 q = N 22 q ∧ M 23 q = N 23 q) → (∀ q, M 18 q = N 18 q ∧ M 19 q = N 19 q ∧ M 20 q = N 20 q) → κ (some (zi 1)) M) : T (D + 4) 41 (0, [(0, zr 17), (1, zr 2), (2, zi (p : Int))], [], N) κ := by
  have hs : sgC N = s := by rw [hsd]; exact sC_h hF
  refine zb41_0 (D := D) hT hBN hp (by omega) ?_
  refine z_twoC (D := D) hT hBN hs h23 (by omega) (fun ht => ?_) (fun v b ht hv hab hb82 hz => ?_)
  · have e : clS s a = none := by
      unfold clS
      rw [ht]
    refine zb41_10 (D := D) hT rfl hBN hp (by omega) (by omega) (fun q => absurd rfl q) (fun q => absurd rfl q) (fun q => absurd rfl q) (fun q => absurd rfl q) (fun _ hz => ?_)
    exact h0 _ e hz (hF.set rfl) (fun q hq => ⟨by rw [zu_off hq], by rw [zu_dn (by omega)], by rw [zu_dn (by omega)]⟩) (fun q => ⟨by rw [zu_dn (by omega)], by rw [zu_dn (by omega)], by rw [zu_dn (by omega)]⟩)
  · have hF1 : zFr (inL yhL) m (zu N 2 3 (b : Int)) := hF.set rfl
    have g1 : (zu N 2 3 (b : Int)) 2 3 = (b : Int) := by rw [zu_sm rfl]
    have o1 : ∀ c j, c ≠ 2 → (zu N 2 3 (b : Int)) c j = N c j := fun c j hc => zu_dn hc
    generalize zu N 2 3 (b : Int) = N1 at hz hF1 g1 o1 ⊢
    have hn1 : nxC (zu N1 21 p v) = s b := nx_h hsd (hF1.set rfl) (by rw [zu_dn (by omega)]; exact g1)
    have hn2 : nxC (zu (zu N1 21 p v) 2 3 (N1 2 3 + 1)) = s (b + 1) := nx_h hsd ((hF1.set rfl).set rfl) (by rw [zu_sm rfl, g1]; omega)
    have b23 : 0 ≤ N1 2 3 ∧ N1 2 3 ≤ 90 := by omega
    have bad : s b = 43 → ¬ (48 ≤ s (b + 1) ∧ s (b + 1) ≤ 57) → zB (zu (zu (zu (zu N1 21 p v) 2 3 (N1 2 3 + 1)) 22 p (-1)) 23 p 0) → κ (some (zi 0)) (zu (zu (zu (zu N1 21 p v) 2 3 (N1 2 3 + 1)) 22 p (-1)) 23 p 0) := fun q1 q2 hz2 => by
      refine h0 _ ?_ hz2 ((((hF1.set rfl).set rfl).set rfl).set rfl) (fun q hq => ⟨?_, ?_, ?_⟩) (fun q => ⟨?_, ?_, ?_⟩)
      · unfold clS
        rw [ht]
        dsimp only
        rw [if_pos q1, if_neg q2]
      · simp (disch := omega) only [zu_off, zu_dn]
        exact o1 21 q (by omega)
      · simp (disch := omega) only [zu_off, zu_dn]
        exact o1 22 q (by omega)
      · simp (disch := omega) only [zu_off, zu_dn]
        exact o1 23 q (by omega)
      · simp (disch := omega) only [zu_dn]
        exact o1 18 q (by omega)
      · simp (disch := omega) only [zu_dn]
        exact o1 19 q (by omega)
      · simp (disch := omega) only [zu_dn]
        exact o1 20 q (by omega)
    refine zb41_10 (D := D) hT rfl hz hp (by omega) b23 ?_ ?_ ?_ ?_ ?_
    · rw [hn1, hn2]
      exact fun _ q1 q2 hz2 => bad q1 (by omega) hz2
    · rw [hn1]
      intro _ q1 q2 q3 hz2
      rw [hn2] at q2 q3 hz2 ⊢
      refine h1 v (s (b + 1) - 48) (b + 2) _ ?_ hz2 (((((hF1.set rfl).set rfl).set rfl).set rfl).set rfl) ?_ ?_ ?_ ?_ (fun q hq => ⟨?_, ?_, ?_⟩) (fun q => ⟨?_, ?_, ?_⟩)
      · unfold clS
        rw [ht]
        dsimp only
        rw [if_pos q1, if_pos (by omega)]
      · rw [zu_dn (by omega), zu_dn (by omega), zu_sm rfl, g1]
        omega
      · simp (disch := omega) only [zu_sm, zu_off, zu_dn]
      · simp (disch := omega) only [zu_sm, zu_off, zu_dn]
      · rw [zu_sm rfl]
      · simp (disch := omega) only [zu_off, zu_dn]
        exact o1 21 q (by omega)
      · simp (disch := omega) only [zu_off, zu_dn]
        exact o1 22 q (by omega)
      · simp (disch := omega) only [zu_off, zu_dn]
        exact o1 23 q (by omega)
      · simp (disch := omega) only [zu_dn]
        exact o1 18 q (by omega)
      · simp (disch := omega) only [zu_dn]
        exact o1 19 q (by omega)
      · simp (disch := omega) only [zu_dn]
        exact o1 20 q (by omega)
    · rw [hn1, hn2]
      exact fun _ q1 _ q2 hz2 => bad q1 (by omega) hz2
    · rw [hn1]
      intro _ q1 hz2
      refine h1 v 0 b _ ?_ hz2 (((hF1.set rfl).set rfl).set rfl) ?_ ?_ ?_ ?_ (fun q hq => ⟨?_, ?_, ?_⟩) (fun q => ⟨?_, ?_, ?_⟩)
      · unfold clS
        rw [ht]
        dsimp only
        rw [if_neg q1]
      · rw [zu_dn (by omega), zu_dn (by omega), zu_dn (by omega), g1]
      · simp (disch := omega) only [zu_sm, zu_off, zu_dn]
      · simp (disch := omega) only [zu_sm, zu_off, zu_dn]
      · rw [zu_sm rfl]
      · simp (disch := omega) only [zu_off, zu_dn]
        exact o1 21 q (by omega)
      · simp (disch := omega) only [zu_off, zu_dn]
        exact o1 22 q (by omega)
      · simp (disch := omega) only [zu_off, zu_dn]
        exact o1 23 q (by omega)
      · simp (disch := omega) only [zu_dn]
        exact o1 18 q (by omega)
      · simp (disch := omega) only [zu_dn]
        exact o1 19 q (by omega)
      · simp (disch := omega) only [zu_dn]
        exact o1 20 q (by omega)
    · exact fun q => by omega
/-- what a reading of lines says of the cells of the class -/
noncomputable def HouC (n k : Nat) (m M : zM) (w : hTy) : Prop := (n ≤ w.1 ∧ w.1 ≤ 6) ∧ (k ≤ w.2.1 ∧ w.2.1 ≤ 8) ∧ (∀ q, q < w.1 → M 18 q = w.2.2.1 q ∧ M 19 q = w.2.2.2.1 q) ∧ (∀ q, n ≤ q → q < w.1 → M 20 q = -1 ∧ (1 ≤ w.2.2.1 q ∧ w.2.2.1 q ≤ 99) ∧ (0 ≤ w.2.2.2.1 q ∧ w.2.2.2.1 q ≤ 3)) ∧ (∀ q, q < n → M 18 q = m 18 q ∧ M 19 q = m 19 q ∧ M 20 q = m 20 q) ∧ (∀ q, q < w.2.1 → M 21 q = w.2.2.2.2.1 q ∧ M 22 q = w.2.2.2.2.2 q) ∧ (∀ q, k ≤ q → q < w.2.1 → M 23 q = 0 ∧ (0 ≤ w.2.2.2.2.1 q ∧ w.2.2.2.2.1 q ≤ 99) ∧ (0 ≤ w.2.2.2.2.2 q ∧ w.2.2.2.2.2 q ≤ 9)) ∧ (∀ q, q < k → M 21 q = m 21 q ∧ M 22 q = m 22 q ∧ M 23 q = m 23 q)
set_option maxHeartbeats 4000000 in
theorem z_linesC (hT : zRules T) (hB : zB m) (hsd : s = sgC m) {n k L76 : Nat} (hn : m 17 0 = (n : Int)) (hk : m 17 1 = (k : Int)) (hL : m 2 1 = (L : Int)) (h76 : L76 ≤ 76) (hs : ∀ a, L76 ≤ a → s a = -1) (h230 : m 2 3 = 0)
    (h0 : ∀ M, hsR s L 14 n k 0 (m 18) (m 19) (m 21) (m 22) = none → zB M → zFr (inL yhL) m M → (∀ q, q < n → M 18 q = m 18 q ∧ M 19 q = m 19 q ∧ M 20 q = m 20 q) → (∀ q, q < k → M 21 q = m 21 q ∧ M 22 q = m 22 q ∧ M 23 q = m 23 q) → κ (some (zi (-1))) M)
    (h1 : ∀ w i M, hsR s L 14 n k 0 (m 18) (m 19) (m 21) (m 22) = some w → (1 ≤ i ∧ i ≤ 14) → n + k < w.1 + w.2.1 → zB M → zFr (inL (yhL ++ [(17, some 0), (17, some 1)])) m M → M 17 0 = (w.1 : Int) → M 17 1 = (w.2.1 : Int) → HouC n k m M w → κ (some (zi ((i : Nat) : Int))) M) : T (D + 6) 39 (0, [(0, zr 17), (1, zr 2)], [], m) κ := by
  have b17 : 0 ≤ m 17 0 ∧ m 17 0 ≤ 6 := hB 17 0
  have b171 : 0 ≤ m 17 1 ∧ m 17 1 ≤ 8 := hB 17 1
  refine zb39_0 (D := D) hT hB ?_
  rw [hn, hk]
  have key : ∀ (j i a : Nat) (w : hTy) (M : zM), i + j = 15 → 1 ≤ i → a ≤ L76 → n + k + i = w.1 + w.2.1 + 1 → hsR s L j w.1 w.2.1 a w.2.2.1 w.2.2.2.1 w.2.2.2.2.1 w.2.2.2.2.2 = hsR s L 14 n k 0 (m 18) (m 19) (m 21) (m 22) → zB M → zFr (inL yhL) m M → M 2 3 = (a : Int) → HouC n k m M w → T (D + 6) 39 (13, [(0, zr 17), (1, zr 2), (2, zi (w.1 : Int)), (3, zi (w.2.1 : Int)), (4, zi (i : Int))], [], M) κ := by
    intro j
    induction j with
    | zero =>
      intro i a w M hi h1i ha hcnt hrun hBM hF h23 hH
      rw [hsR] at hrun
      obtain ⟨⟨w1, w2⟩, ⟨w3, w4⟩, -, -, w7, -, -, w10⟩ := hH
      exact zb39_13 (D := D) hT rfl hBM (by omega) (by omega) (by omega) (by omega) (fun _ => h0 M hrun.symm hBM hF w7 w10) (fun q => by omega) (fun q => by omega) (fun q => by omega) (fun q => by omega) (fun q => by omega) (fun q => by omega) (fun q => by omega)
    | succ j ih =>
      intro i a w M hi h1i ha hcnt hrun hBM hF h23 hH
      obtain ⟨p, c, fx, fy, gx, gy⟩ := w
      dsimp only at hcnt hrun
      have hH0 := hH
      obtain ⟨⟨w1, w2⟩, ⟨w3, w4⟩, w5, w6, w7, w8, w9, w10⟩ := hH
      dsimp only at w1 w2 w3 w4 w5 w6 w8 w9
      rw [hsR] at hrun
      have hnx : nxC M = s a := nx_h hsd hF h23
      have no : lnS s p c a = none → κ (some (zi (-1))) M := fun e => by
        rw [e] at hrun
        exact h0 M hrun.symm hBM hF w7 w10
      have hF1 : zFr (inL yhL) m (zu M 2 3 (M 2 3 + 1)) := hF.set rfl
      have g1 : (zu M 2 3 (M 2 3 + 1)) 2 3 = ((a + 1 : Nat) : Int) := by rw [zu_sm rfl, h23]; omega
      have o1 : ∀ x j, x ≠ 2 → (zu M 2 3 (M 2 3 + 1)) x j = M x j := fun x j hx => zu_dn hx
      have person : s a = 112 → p < 6 → zB (zu M 2 3 (M 2 3 + 1)) → T (D + 5) 40 (0, [(0, zr 17), (1, zr 2), (2, zi (p : Int))], [], zu M 2 3 (M 2 3 + 1)) (fun r m1 => T (D + 6) 39 (44, [(0, zr 17), (1, zr 2), (2, zi (p : Int)), (3, zi (c : Int)), (4, zi (i : Int)), (5, zi 0)], r.toList ++ [], m1) κ) := by
        intro q1 q2 hz
        have el : lnS s p c a = (match prS s (a + 1) with
          | none => none
          | some q => some (true, q)) := by
          unfold lnS
          rw [if_pos ⟨q1, q2⟩]
        generalize zu M 2 3 (M 2 3 + 1) = M1 at hz hF1 g1 o1 ⊢
        refine z_personC (D := D + 1) hT hsd hz hF1 g1 (by omega) (by omega) (fun M2 e hB2 hF2 t1 t2 => ?_) (fun x y b M2 e hB2 hF2 g2 t0 t3 t4 t1 t2 => ?_)
        · rw [e] at el
          dsimp only at el
          rw [el] at hrun
          refine zb39_44b (D := D) (lo := [(0, zr 17), (1, zr 2), (2, zi (p : Int)), (3, zi (c : Int)), (4, zi (i : Int)), (5, zi 0)]) hT rfl hB2 (by omega) (by omega) (by omega) ?_
          refine h0 M2 hrun.symm hB2 hF2 (fun q hq => ?_) (fun q hq => ?_)
          · obtain ⟨u1, u2, u3⟩ := t1 q (by omega)
            obtain ⟨v1, v2, v3⟩ := w7 q hq
            exact ⟨by rw [u1, o1 18 q (by omega), v1], by rw [u2, o1 19 q (by omega), v2], by rw [u3, o1 20 q (by omega), v3]⟩
          · obtain ⟨u1, u2, u3⟩ := t2 q
            obtain ⟨v1, v2, v3⟩ := w10 q hq
            exact ⟨by rw [u1, o1 21 q (by omega), v1], by rw [u2, o1 22 q (by omega), v2], by rw [u3, o1 23 q (by omega), v3]⟩
        · rw [e] at el
          dsimp only at el
          obtain ⟨l1, l2, l3, l4⟩ := lnS_b hs ha el
          obtain ⟨l5, l6, l7⟩ := l3 rfl
          rw [el] at hrun
          dsimp only at hrun
          have hH2 : HouC n k m M2 (p + 1, c, fu fx p x, fu fy p y, gx, gy) := by
            refine ⟨⟨by dsimp only; omega, by dsimp only; omega⟩, ⟨w3, w4⟩, fun q hq => ?_, fun q hq1 hq2 => ?_, fun q hq => ?_, fun q hq => ?_, fun q hq1 hq2 => ?_, fun q hq => ?_⟩
            · dsimp only at hq ⊢
              by_cases eq : q = p
              · rw [eq, fu_eq rfl, fu_eq rfl]
                exact ⟨t0, t3⟩
              · obtain ⟨u1, u2, u3⟩ := t1 q eq
                rw [fu_ne eq, fu_ne eq, u1, u2, o1 18 q (by omega), o1 19 q (by omega)]
                exact w5 q (by omega)
            · dsimp only at hq2 ⊢
              by_cases eq : q = p
              · rw [eq, fu_eq rfl, fu_eq rfl]
                exact ⟨t4, l6, l7⟩
              · obtain ⟨u1, u2, u3⟩ := t1 q eq
                rw [fu_ne eq, fu_ne eq, u3, o1 20 q (by omega)]
                exact w6 q hq1 (by omega)
            · obtain ⟨u1, u2, u3⟩ := t1 q (by omega)
              rw [u1, u2, u3, o1 18 q (by omega), o1 19 q (by omega), o1 20 q (by omega)]
              exact w7 q hq
            · obtain ⟨u1, u2, u3⟩ := t2 q
              rw [u1, u2, o1 21 q (by omega), o1 22 q (by omega)]
              exact w8 q hq
            · obtain ⟨u1, u2, u3⟩ := t2 q
              rw [u3, o1 23 q (by omega)]
              exact w9 q hq1 hq2
            · obtain ⟨u1, u2, u3⟩ := t2 q
              rw [u1, u2, u3, o1 21 q (by omega), o1 22 q (by omega), o1 23 q (by omega)]
              exact w10 q hq
          have e21 : M2 2 1 = (L : Int) := (hF2 2 1 rfl).trans hL
          have hn2 : nxC M2 = s b := nx_h hsd hF2 g2
          refine zb39_44 (D := D) (lo := [(0, zr 17), (1, zr 2), (2, zi (p : Int)), (3, zi (c : Int)), (4, zi (i : Int)), (5, zi 0)]) hT rfl hB2 (by omega) (by omega) (by omega) (by omega) (by omega) (fun q => by omega) (fun _ q3 q4 hz2 => ?_) (fun _ q3 q4 => ?_) (fun _ q3 hz2 => ?_)
          · rw [hn2] at q4
            rw [if_neg (by omega), if_pos q4] at hrun
            have hb76 : b < L76 := by
              rcases Nat.lt_or_ge b L76 with x | x
              · exact x
              · have := hs b x
                omega
            refine ih (i + 1) (b + 1) (p + 1, c, fu fx p x, fu fy p y, gx, gy) _ (by omega) (by omega) (by omega) (by dsimp only; omega) hrun hz2 (hF2.set rfl) (by rw [zu_sm rfl, g2]; omega) ?_
            obtain ⟨y1, y2, y3, y4, y5, y6, y7, y8⟩ := hH2
            refine ⟨y1, y2, fun q hq => ?_, fun q hq1 hq2 => ?_, fun q hq => ?_, fun q hq => ?_, fun q hq1 hq2 => ?_, fun q hq => ?_⟩
            · rw [zu_dn (by omega), zu_dn (by omega)]
              exact y3 q hq
            · rw [zu_dn (by omega)]
              exact y4 q hq1 hq2
            · rw [zu_dn (by omega), zu_dn (by omega), zu_dn (by omega)]
              exact y5 q hq
            · rw [zu_dn (by omega), zu_dn (by omega)]
              exact y6 q hq
            · rw [zu_dn (by omega)]
              exact y7 q hq1 hq2
            · rw [zu_dn (by omega), zu_dn (by omega), zu_dn (by omega)]
              exact y8 q hq
          · rw [hn2] at q4
            rw [if_neg (by omega), if_neg q4] at hrun
            exact h0 M2 hrun.symm hB2 hF2 hH2.2.2.2.2.1 hH2.2.2.2.2.2.2.2
          · rw [if_pos (by omega)] at hrun
            refine h1 _ i _ hrun.symm ⟨h1i, by omega⟩ (by dsimp only; omega) hz2 (((hF2.sub (inL_sub (by decide))).set rfl).set rfl) (by rw [zu_off (by omega), zu_sm rfl]; rfl) (by rw [zu_sm rfl]) ?_
            obtain ⟨y1, y2, y3, y4, y5, y6, y7, y8⟩ := hH2
            refine ⟨y1, y2, fun q hq => ?_, fun q hq1 hq2 => ?_, fun q hq => ?_, fun q hq => ?_, fun q hq1 hq2 => ?_, fun q hq => ?_⟩
            · simp (disch := omega) only [zu_dn]
              exact y3 q hq
            · simp (disch := omega) only [zu_dn]
              exact y4 q hq1 hq2
            · simp (disch := omega) only [zu_dn]
              exact y5 q hq
            · simp (disch := omega) only [zu_dn]
              exact y6 q hq
            · simp (disch := omega) only [zu_dn]
              exact y7 q hq1 hq2
            · simp (disch := omega) only [zu_dn]
              exact y8 q hq
      have cloth : ¬ (s a = 112 ∧ p < 6) → s a = 99 → c < 8 → zB (zu M 2 3 (M 2 3 + 1)) → T (D + 5) 41 (0, [(0, zr 17), (1, zr 2), (2, zi (c : Int))], [], zu M 2 3 (M 2 3 + 1)) (fun r m1 => T (D + 6) 39 (73, [(0, zr 17), (1, zr 2), (2, zi (p : Int)), (3, zi (c : Int)), (4, zi (i : Int)), (5, zi 0)], r.toList ++ [], m1) κ) := by
        intro q0 q1 q2 hz
        have el : lnS s p c a = (match clS s (a + 1) with
          | none => none
          | some q => some (false, q)) := by
          unfold lnS
          rw [if_neg q0, if_pos ⟨q1, q2⟩]
        generalize zu M 2 3 (M 2 3 + 1) = M1 at hz hF1 g1 o1 ⊢
        refine z_clothC (D := D + 1) hT hsd hz hF1 g1 (by omega) (by omega) (fun M2 e hB2 hF2 t1 t2 => ?_) (fun x y b M2 e hB2 hF2 g2 t0 t3 t4 t1 t2 => ?_)
        · rw [e] at el
          dsimp only at el
          rw [el] at hrun
          refine zb39_73b (D := D) (lo := [(0, zr 17), (1, zr 2), (2, zi (p : Int)), (3, zi (c : Int)), (4, zi (i : Int)), (5, zi 0)]) hT rfl hB2 (by omega) (by omega) (by omega) ?_
          refine h0 M2 hrun.symm hB2 hF2 (fun q hq => ?_) (fun q hq => ?_)
          · obtain ⟨u1, u2, u3⟩ := t2 q
            obtain ⟨v1, v2, v3⟩ := w7 q hq
            exact ⟨by rw [u1, o1 18 q (by omega), v1], by rw [u2, o1 19 q (by omega), v2], by rw [u3, o1 20 q (by omega), v3]⟩
          · obtain ⟨u1, u2, u3⟩ := t1 q (by omega)
            obtain ⟨v1, v2, v3⟩ := w10 q hq
            exact ⟨by rw [u1, o1 21 q (by omega), v1], by rw [u2, o1 22 q (by omega), v2], by rw [u3, o1 23 q (by omega), v3]⟩
        · rw [e] at el
          dsimp only at el
          obtain ⟨l1, l2, l3, l4⟩ := lnS_b hs ha el
          obtain ⟨l5, l6, l7⟩ := l4 rfl
          rw [el] at hrun
          dsimp only at hrun
          have hH2 : HouC n k m M2 (p, c + 1, fx, fy, fu gx c x, fu gy c y) := by
            refine ⟨⟨w1, w2⟩, ⟨by dsimp only; omega, by dsimp only; omega⟩, fun q hq => ?_, fun q hq1 hq2 => ?_, fun q hq => ?_, fun q hq => ?_, fun q hq1 hq2 => ?_, fun q hq => ?_⟩
            · obtain ⟨u1, u2, u3⟩ := t2 q
              rw [u1, u2, o1 18 q (by omega), o1 19 q (by omega)]
              exact w5 q hq
            · obtain ⟨u1, u2, u3⟩ := t2 q
              rw [u3, o1 20 q (by omega)]
              exact w6 q hq1 hq2
            · obtain ⟨u1, u2, u3⟩ := t2 q
              rw [u1, u2, u3, o1 18 q (by omega), o1 19 q (by omega), o1 20 q (by omega)]
              exact w7 q hq
            · dsimp only at hq ⊢
              by_cases eq : q = c
              · rw [eq, fu_eq rfl, fu_eq rfl]
                exact ⟨t0, t3⟩
              · obtain ⟨u1, u2, u3⟩ := t1 q eq
                rw [fu_ne eq, fu_ne eq, u1, u2, o1 21 q (by omega), o1 22 q (by omega)]
                exact w8 q (by omega)
            · dsimp only at hq2 ⊢
              by_cases eq : q = c
              · rw [eq, fu_eq rfl, fu_eq rfl]
                exact ⟨t4, l6, l7⟩
              · obtain ⟨u1, u2, u3⟩ := t1 q eq
                rw [fu_ne eq, fu_ne eq, u3, o1 23 q (by omega)]
                exact w9 q hq1 (by omega)
            · obtain ⟨u1, u2, u3⟩ := t1 q (by omega)
              rw [u1, u2, u3, o1 21 q (by omega), o1 22 q (by omega), o1 23 q (by omega)]
              exact w10 q hq
          have e21 : M2 2 1 = (L : Int) := (hF2 2 1 rfl).trans hL
          have hn2 : nxC M2 = s b := nx_h hsd hF2 g2
          refine zb39_73 (D := D) (lo := [(0, zr 17), (1, zr 2), (2, zi (p : Int)), (3, zi (c : Int)), (4, zi (i : Int)), (5, zi 0)]) hT rfl hB2 (by omega) (by omega) (by omega) (by omega) (by omega) (fun q => by omega) (fun _ q3 q4 hz2 => ?_) (fun _ q3 q4 => ?_) (fun _ q3 hz2 => ?_)
          · rw [hn2] at q4
            rw [if_neg (by omega), if_pos q4] at hrun
            have hb76 : b < L76 := by
              rcases Nat.lt_or_ge b L76 with x | x
              · exact x
              · have := hs b x
                omega
            refine ih (i + 1) (b + 1) (p, c + 1, fx, fy, fu gx c x, fu gy c y) _ (by omega) (by omega) (by omega) (by dsimp only; omega) hrun hz2 (hF2.set rfl) (by rw [zu_sm rfl, g2]; omega) ?_
            obtain ⟨y1, y2, y3, y4, y5, y6, y7, y8⟩ := hH2
            refine ⟨y1, y2, fun q hq => ?_, fun q hq1 hq2 => ?_, fun q hq => ?_, fun q hq => ?_, fun q hq1 hq2 => ?_, fun q hq => ?_⟩
            · rw [zu_dn (by omega), zu_dn (by omega)]
              exact y3 q hq
            · rw [zu_dn (by omega)]
              exact y4 q hq1 hq2
            · rw [zu_dn (by omega), zu_dn (by omega), zu_dn (by omega)]
              exact y5 q hq
            · rw [zu_dn (by omega), zu_dn (by omega)]
              exact y6 q hq
            · rw [zu_dn (by omega)]
              exact y7 q hq1 hq2
            · rw [zu_dn (by omega), zu_dn (by omega), zu_dn (by omega)]
              exact y8 q hq
          · rw [hn2] at q4
            rw [if_neg (by omega), if_neg q4] at hrun
            exact h0 M2 hrun.symm hB2 hF2 hH2.2.2.2.2.1 hH2.2.2.2.2.2.2.2
          · rw [if_pos (by omega)] at hrun
            refine h1 _ i _ hrun.symm ⟨h1i, by omega⟩ (by dsimp only; omega) hz2 (((hF2.sub (inL_sub (by decide))).set rfl).set rfl) (by rw [zu_off (by omega), zu_sm rfl]) (by rw [zu_sm rfl]; rfl) ?_
            obtain ⟨y1, y2, y3, y4, y5, y6, y7, y8⟩ := hH2
            refine ⟨y1, y2, fun q hq => ?_, fun q hq1 hq2 => ?_, fun q hq => ?_, fun q hq => ?_, fun q hq1 hq2 => ?_, fun q hq => ?_⟩
            · simp (disch := omega) only [zu_dn]
              exact y3 q hq
            · simp (disch := omega) only [zu_dn]
              exact y4 q hq1 hq2
            · simp (disch := omega) only [zu_dn]
              exact y5 q hq
            · simp (disch := omega) only [zu_dn]
              exact y6 q hq
            · simp (disch := omega) only [zu_dn]
              exact y7 q hq1 hq2
            · simp (disch := omega) only [zu_dn]
              exact y8 q hq
      have n1 : ∀ x : ¬ (s a = 112 ∧ p < 6), ¬ (s a = 99 ∧ c < 8) → lnS s p c a = none := fun x y => by
        unfold lnS
        rw [if_neg x, if_neg y]
      show T (D + 6) 39 (13, [(0, zr 17), (1, zr 2), (2, zi (p : Int)), (3, zi (c : Int)), (4, zi (i : Int))], [], M) κ
      refine zb39_13 (D := D) (p := p) (c := c) hT rfl hBM w2 w4 (by omega) (by omega) (fun q => by omega) ?_ ?_ ?_ ?_ ?_ ?_ ?_
      · exact fun _ q1 q2 => no (n1 (fun x => q1 (by omega)) (fun x => q2 (by omega)))
      · rw [hnx]
        exact fun _ q1 q2 q3 hz => cloth (fun x => q1 (by omega)) q3 (by omega) hz
      · rw [hnx]
        exact fun _ q1 _ q3 => no (n1 (fun x => q1 (by omega)) (fun x => q3 x.1))
      · rw [hnx]
        exact fun _ q1 q2 hz => person q2 (by omega) hz
      · rw [hnx]
        exact fun _ _ q2 q3 => no (n1 (fun x => q2 x.1) (fun x => q3 (by omega)))
      · rw [hnx]
        exact fun _ _ q2 q3 q4 hz => cloth (fun x => q2 x.1) q4 (by omega) hz
      · rw [hnx]
        exact fun _ _ q2 _ q4 => no (n1 (fun x => q2 x.1) (fun x => q4 x.1))
  refine key 14 1 0 (n, k, m 18, m 19, m 21, m 22) m (by omega) (Nat.le_refl 1) (by omega) (by dsimp only) rfl hB zFr.refl (by rw [h230]; rfl) ?_
  exact ⟨⟨Nat.le_refl n, by dsimp only; omega⟩, ⟨Nat.le_refl k, by dsimp only; omega⟩, fun q _ => ⟨rfl, rfl⟩, fun q q1 q2 => absurd q2 (by dsimp only; omega), fun q _ => ⟨rfl, rfl, rfl⟩, fun q _ => ⟨rfl, rfl⟩, fun q q1 q2 => absurd q2 (by dsimp only; omega), fun q _ => ⟨rfl, rfl, rfl⟩⟩
end ZLines
end
-- a6.linesr.lean.txt
section
/-! house(): the lines read by the reference. -/
section ZLinesR
variable {T : Nat → Nat → zG → (Option zA → zM → Prop) → Prop} {D : Nat} {κ : Option zA → zM → Prop} {m : zM} {s : Nat → Int} {L : Nat}
noncomputable def yrhL : zLs := [(74, some 16), (74, some 17), (74, some 22), (74, some 23), (84, none), (85, none)]
theorem hr_h {M : zM} {a : Nat} (hsd : s = sgR m 80) (hF : zFr (inL yrhL) m M) (h16 : M 74 16 = (a : Int)) : hrR M 80 = s a := by
  have e14 : M 74 14 = m 74 14 := hF 74 14 rfl
  have e15 : M 74 15 = m 74 15 := hF 74 15 rfl
  have eq : M 80 a = m 80 a := hF 80 a rfl
  rw [hsd]
  unfold hrR sgR
  rw [h16, e14, e15, Int.toNat_natCast, eq]
theorem sR_h {M : zM} (hsd : s = sgR m 80) (hF : zFr (inL yrhL) m M) : s = sgR M 80 := by
  rw [hsd]
  funext x
  unfold sgR
  rw [hF 74 14 rfl, hF 74 15 rfl, hF 80 x rfl]
theorem dg_h {M : zM} {a : Nat} (hsd : s = sgR m 80) (hB : zB m) (hF : zFr (inL yrhL) m M) (h : 48 ≤ s a ∧ s a ≤ 57) : M 80 a = s a := by
  have b80 : -128 ≤ m 80 a ∧ m 80 a ≤ 127 := hB 80 a
  rw [hF 80 a rfl]
  rw [hsd] at h ⊢
  unfold sgR at h ⊢
  split at h
  · rename_i q
    rw [if_pos q]
    rw [z_and255] at h ⊢
    omega
  · omega
set_option maxHeartbeats 4000000 in
theorem z_lineR (hT : zRules T) (hB : zB m) (hrd : m 74 13 = 80) (hsd : s = sgR m 80) {n k pp cc a : Nat} (n4 : m 74 4 = (n : Int)) (k6 : m 74 6 = (k : Int)) {N : zM} (hBN : zB N) (hF : zFr (inL yrhL) m N) (h16 : N 74 16 = (a : Int)) (h17 : N 74 17 = -1) (ha : a ≤ 76) (h22 : N 74 22 = (pp : Int)) (h23 : N 74 23 = (cc : Int)) (hs : ∀ b, 76 ≤ b → s b = -1)
    (h0 : ∀ M, lnS s (n + pp) (k + cc) a = none → zB M → zFr (inL yrhL) m M → (0 ≤ M 74 17 ∧ M 74 17 ≤ 100) → (0 ≤ M 74 16 ∧ M 74 16 ≤ 100) → κ none M)
    (h1 : ∀ x y b M, lnS s (n + pp) (k + cc) a = some (true, x, y, b) → zB M → zFr (inL yrhL) m M → M 74 16 = (b : Int) → M 74 17 = -1 → M 74 22 = ((pp + 1 : Nat) : Int) → M 74 23 = (cc : Int) → M 84 (2 * pp) = x → M 84 (2 * pp + 1) = y → (∀ j, j < 2 * pp → M 84 j = N 84 j) → (∀ j, M 85 j = N 85 j) → κ none M)
    (h2 : ∀ x y b M, lnS s (n + pp) (k + cc) a = some (false, x, y, b) → zB M → zFr (inL yrhL) m M → M 74 16 = (b : Int) → M 74 17 = -1 → M 74 22 = (pp : Int) → M 74 23 = ((cc + 1 : Nat) : Int) → M 85 (2 * cc) = x → M 85 (2 * cc + 1) = y → (∀ j, j < 2 * cc → M 85 j = N 85 j) → (∀ j, M 84 j = N 84 j) → κ none M) : T (D + 6) 207 (0, [(0, zr 74)], [], N) κ := by
  have r0 : hrR N 80 = s a := hr_h hsd hF h16
  have c4 : N 74 4 = (n : Int) := (hF 74 4 rfl).trans n4
  have c6 : N 74 6 = (k : Int) := (hF 74 6 rfl).trans k6
  have b22 : 0 ≤ N 74 22 ∧ N 74 22 ≤ 6 := hBN 74 22
  have b23 : 0 ≤ N 74 23 ∧ N 74 23 ≤ 8 := hBN 74 23
  have f1 : ((2 : Int) * (pp : Int)).toNat = 2 * pp := by omega
  have f2 : ((2 : Int) * (pp : Int) + 1).toNat = 2 * pp + 1 := by omega
  have f3 : ((2 : Int) * (cc : Int)).toNat = 2 * cc := by omega
  have f4 : ((2 : Int) * (cc : Int) + 1).toNat = 2 * cc + 1 := by omega
  have hFa : zFr (inL yrhL) m (zu N 74 16 (N 74 16 + 1)) := hF.set rfl
  have g16 : (zu N 74 16 (N 74 16 + 1)) 74 16 = ((a + 1 : Nat) : Int) := by rw [zu_sm rfl, h16]; omega
  have g17 : (zu N 74 16 (N 74 16 + 1)) 74 17 = -1 := by rw [zu_off (by omega)]; exact h17
  have g22 : (zu N 74 16 (N 74 16 + 1)) 74 22 = (pp : Int) := by rw [zu_off (by omega)]; exact h22
  have g23 : (zu N 74 16 (N 74 16 + 1)) 74 23 = (cc : Int) := by rw [zu_off (by omega)]; exact h23
  have g84 : ∀ j, (zu N 74 16 (N 74 16 + 1)) 84 j = N 84 j := fun j => zu_dn (by omega)
  have g85 : ∀ j, (zu N 74 16 (N 74 16 + 1)) 85 j = N 85 j := fun j => zu_dn (by omega)
  have bad : lnS s (n + pp) (k + cc) a = none → zB (zu N 74 17 (N 74 16)) → κ none (zu N 74 17 (N 74 16)) := fun e hz => h0 _ e hz (hF.set rfl) (by rw [zu_sm rfl]; omega) (by rw [zu_off (by omega)]; omega)
  have a75 : ¬ s a = -1 → a ≤ 75 := fun h => by
    rcases Nat.lt_or_ge a 76 with x | x
    · omega
    · exact absurd (hs a x) h
  refine zb207_0 (D := D) hT hBN ((hF 74 13 rfl).trans hrd) (by omega) (by omega) ?_ ?_ ?_ ?_ ?_ <;> rw [r0]
  · exact fun q1 q2 hz => bad (by unfold lnS; rw [if_neg (fun x => q1 x.1), if_neg (fun x => q2 x.1)]) hz
  · exact fun q1 q2 q3 hz => bad (by unfold lnS; rw [if_neg (fun x => q1 x.1), if_neg (by omega)]) hz
  · intro q1 q2 q3 hz
    have el : lnS s (n + pp) (k + cc) a = (match clS s (a + 1) with
      | none => none
      | some q => some (false, q)) := by
      unfold lnS
      rw [if_neg (fun x => q1 x.1), if_pos ⟨q2, by omega⟩]
      all_goals (cases clS s (a + 1) <;> rfl)
    have hq : (2 : Int) * N 74 23 = ((2 * cc : Nat) : Int) := by rw [h23]; omega
    rw [hq]
    have ha75 := a75 (by omega)
    generalize zu N 74 16 (N 74 16 + 1) = N1 at hz hFa g16 g17 g22 g23 g84 g85 ⊢
    refine z_twoR (D := D + 2) hT hz ((hFa 74 13 rfl).trans hrd) g16 g17 (by omega) (sR_h hsd hFa) (fun ht hz2 => ?_) (fun v e M ht hv hBM hFM f16 => ?_)
    · have e9 : lnS s (n + pp) (k + cc) a = none := by
        rw [el]
        unfold clS
        rw [ht]
      have hFz : zFr (inL yrhL) m (zu N1 74 17 ((a + 1 : Nat) : Int)) := hFa.set rfl
      refine zb207_156f (D := D) (q := 2 * cc) (v := 0) hT rfl hz2 ((hFz 74 13 rfl).trans hrd) (by omega) (by omega) (by rw [zu_sm rfl]; omega) (by rw [zu_off (by omega)]; omega) (by rw [zu_off (by omega)]; omega) (fun hz3 => ?_)
      exact h0 _ e9 hz3 (((hFz.set rfl).set rfl).set rfl) (by rw [zu_off (by omega), zu_dn (by omega), zu_dn (by omega), zu_sm rfl]; omega) (by rw [zu_off (by omega), zu_dn (by omega), zu_dn (by omega), zu_off (by omega)]; omega)
    · obtain ⟨t1, t2, t3, t4⟩ := (twoS_b hs (a := a + 1) (by omega)).2 v e ht
      have hFM2 : zFr (inL yrhL) m M := hFa.trans (hFM.sub (inL_sub (by decide)))
      have m17 : M 74 17 = -1 := (hFM 74 17 rfl).trans g17
      have m22 : M 74 22 = (pp : Int) := (hFM 74 22 rfl).trans g22
      have m23 : M 74 23 = (cc : Int) := (hFM 74 23 rfl).trans g23
      have m84 : ∀ j, M 84 j = N 84 j := fun j => (hFM 84 j rfl).trans (g84 j)
      have m85 : ∀ j, M 85 j = N 85 j := fun j => (hFM 85 j rfl).trans (g85 j)
      have s1 : hrR (zu M 85 (2 * cc) v) 80 = s e := hr_h hsd (hFM2.set rfl) (by rw [zu_dn (by omega)]; exact f16)
      have s2 : hrR (zu (zu M 85 (2 * cc) v) 74 16 ((e : Int) + 1)) 80 = s (e + 1) := hr_h hsd ((hFM2.set rfl).set rfl) (by rw [zu_sm rfl]; omega)
      have e1 : ((e : Int) + 1 + 1 - 1).toNat = e + 1 := by omega
      have key := zb207_156 (D := D) (q := 2 * cc) (v := v) (κ := κ) (m := M) hT (lo := [(0, zr 74)]) rfl hBM ((hFM2 74 13 rfl).trans hrd) hv (by omega) (by omega) (by omega) (by omega)
      simp only [f16, s1, s2, m23, f4, e1] at key
      have fault : s e = 43 → ¬ (48 ≤ s (e + 1) ∧ s (e + 1) ≤ 57) → lnS s (n + pp) (k + cc) a = none := fun y1 y2 => by
        rw [el]
        unfold clS
        rw [ht]
        dsimp only
        rw [if_pos y1, if_neg y2]
      refine key (fun y1 y2 hz3 => ?_) (fun y1 y2 y3 hz3 => ?_) (fun y1 y2 y3 => ?_) (fun y1 hz3 => ?_)
      · exact h0 _ (fault y1 (by omega)) hz3 (((((hFM2.set rfl).set rfl).set rfl).set rfl).set rfl) (by simp (disch := omega) only [zu_sm, zu_off, zu_dn]; omega) (by simp (disch := omega) only [zu_sm, zu_off, zu_dn]; omega)
      · exact h0 _ (fault y1 (by omega)) hz3 (((((hFM2.set rfl).set rfl).set rfl).set rfl).set rfl) (by simp (disch := omega) only [zu_sm, zu_off, zu_dn]; omega) (by simp (disch := omega) only [zu_sm, zu_off, zu_dn]; omega)
      · have dgt : M 80 (e + 1) = s (e + 1) := dg_h hsd hB hFM2 (by omega)
        rw [dgt]
        have hz3 : zB (zu (zu (zu (zu (zu M 85 (2 * cc) v) 74 16 ((e : Int) + 1)) 74 16 ((e : Int) + 1 + 1)) 85 (2 * cc + 1) (s (e + 1) - 48)) 74 23 ((cc : Int) + 1)) := zB_u (zB_u (zB_u (zB_u (zB_u hBM (show 0 ≤ v ∧ v ≤ 99 from hv)) (show 0 ≤ (e : Int) + 1 ∧ (e : Int) + 1 ≤ 100 by omega)) (show 0 ≤ (e : Int) + 1 + 1 ∧ (e : Int) + 1 + 1 ≤ 100 by omega)) (show 0 ≤ s (e + 1) - 48 ∧ s (e + 1) - 48 ≤ 99 by omega)) (show 0 ≤ (cc : Int) + 1 ∧ (cc : Int) + 1 ≤ 8 by omega)
        refine h2 v (s (e + 1) - 48) (e + 2) _ ?_ hz3 (((((hFM2.set rfl).set rfl).set rfl).set rfl).set rfl) ?_ ?_ ?_ ?_ ?_ ?_ (fun j hj => ?_) (fun j => ?_)
        · rw [el]
          unfold clS
          rw [ht]
          dsimp only
          rw [if_pos y1, if_pos (by omega)]
        · simp (disch := omega) only [zu_sm, zu_off, zu_dn]
          omega
        · simp (disch := omega) only [zu_off, zu_dn]
          exact m17
        · simp (disch := omega) only [zu_off, zu_dn]
          exact m22
        · rw [zu_sm rfl]
          omega
        · simp (disch := omega) only [zu_sm, zu_off, zu_dn]
        · simp (disch := omega) only [zu_sm, zu_off, zu_dn]
        · simp (disch := omega) only [zu_off, zu_dn]
          exact m85 j
        · simp (disch := omega) only [zu_dn]
          exact m84 j
      · refine h2 v 0 e _ ?_ hz3 (((hFM2.set rfl).set rfl).set rfl) ?_ ?_ ?_ ?_ ?_ ?_ (fun j hj => ?_) (fun j => ?_)
        · rw [el]
          unfold clS
          rw [ht]
          dsimp only
          rw [if_neg y1]
        · simp (disch := omega) only [zu_off, zu_dn]
          exact f16
        · simp (disch := omega) only [zu_off, zu_dn]
          exact m17
        · simp (disch := omega) only [zu_off, zu_dn]
          exact m22
        · rw [zu_sm rfl]
          omega
        · simp (disch := omega) only [zu_sm, zu_off, zu_dn]
        · simp (disch := omega) only [zu_sm, zu_off, zu_dn]
        · simp (disch := omega) only [zu_off, zu_dn]
          exact m85 j
        · simp (disch := omega) only [zu_dn]
          exact m84 j
  · exact fun q1 q2 hz => bad (by unfold lnS; rw [if_neg (by omega), if_neg (by omega)]) hz
  · intro q1 q2 hz
    have el : lnS s (n + pp) (k + cc) a = (match prS s (a + 1) with
      | none => none
      | some q => some (true, q)) := by
      unfold lnS
      rw [if_pos ⟨q1, by omega⟩]
      all_goals (cases prS s (a + 1) <;> rfl)
    have ha75 := a75 (by omega)
    generalize zu N 74 16 (N 74 16 + 1) = N1 at hz hFa g16 g17 g22 g23 g84 g85 ⊢
    refine z_twoR (D := D + 2) hT hz ((hFa 74 13 rfl).trans hrd) g16 g17 (by omega) (sR_h hsd hFa) (fun ht hz2 => ?_) (fun v e M ht hv hBM hFM f16 => ?_)
    · have e9 : lnS s (n + pp) (k + cc) a = none := by
        rw [el]
        unfold prS
        rw [ht]
      have hFz : zFr (inL yrhL) m (zu N1 74 17 ((a + 1 : Nat) : Int)) := hFa.set rfl
      refine zb207_37f (D := D) (v := 0) hT rfl hz2 ((hFz 74 13 rfl).trans hrd) (by omega) (by rw [zu_sm rfl]; omega) (by rw [zu_off (by omega)]; omega) (by rw [zu_off (by omega)]; omega) (fun hz3 => ?_)
      exact h0 _ e9 hz3 (((hFz.set rfl).set rfl).set rfl) (by rw [zu_off (by omega), zu_dn (by omega), zu_dn (by omega), zu_sm rfl]; omega) (by rw [zu_off (by omega), zu_dn (by omega), zu_dn (by omega), zu_off (by omega)]; omega)
    · obtain ⟨t1, t2, t3, t4⟩ := (twoS_b hs (a := a + 1) (by omega)).2 v e ht
      have hFM2 : zFr (inL yrhL) m M := hFa.trans (hFM.sub (inL_sub (by decide)))
      have m17 : M 74 17 = -1 := (hFM 74 17 rfl).trans g17
      have m22 : M 74 22 = (pp : Int) := (hFM 74 22 rfl).trans g22
      have m23 : M 74 23 = (cc : Int) := (hFM 74 23 rfl).trans g23
      have m84 : ∀ j, M 84 j = N 84 j := fun j => (hFM 84 j rfl).trans (g84 j)
      have m85 : ∀ j, M 85 j = N 85 j := fun j => (hFM 85 j rfl).trans (g85 j)
      have s1 : hrR M 80 = s e := hr_h hsd hFM2 f16
      have s2 : hrR (zu (zu M 74 16 ((e : Int) + 1)) 84 (2 * pp) v) 80 = s (e + 1) := hr_h hsd ((hFM2.set rfl).set rfl) (by rw [zu_dn (by omega), zu_sm rfl]; omega)
      have e1 : ((e : Int) + 1 + 1 - 1).toNat = e + 1 := by omega
      have key := zb207_37 (D := D) (v := v) (κ := κ) (m := M) hT (lo := [(0, zr 74)]) rfl hBM ((hFM2 74 13 rfl).trans hrd) hv (by omega) (by omega) (by omega)
      simp only [f16, s1, m22, f1, s2, f2, e1] at key
      have fault : ¬ (¬ v = 0 ∧ s e = 64 ∧ 48 ≤ s (e + 1) ∧ s (e + 1) ≤ 51) → lnS s (n + pp) (k + cc) a = none := fun y => by
        rw [el]
        unfold prS
        rw [ht]
        dsimp only
        by_cases y0 : v = 0
        · rw [if_pos y0]
        · rw [if_neg y0, if_neg (fun x => y ⟨y0, x⟩)]
      refine key (fun y0 y1 y2 hz3 => ?_) (fun y0 y1 y2 y3 hz3 => ?_) (fun y0 y1 y2 y3 => ?_) (fun y0 y1 hz3 => ?_) (fun y0 y1 hz3 => ?_) (fun y0 y1 => by omega) (fun y0 y1 => by omega) (fun y0 y1 => by omega) (fun y0 y1 => by omega)
      · exact h0 _ (fault (by omega)) hz3 (((((hFM2.set rfl).set rfl).set rfl).set rfl).set rfl) (by simp (disch := omega) only [zu_sm, zu_off, zu_dn]; omega) (by simp (disch := omega) only [zu_sm, zu_off, zu_dn]; omega)
      · exact h0 _ (fault (by omega)) hz3 (((((hFM2.set rfl).set rfl).set rfl).set rfl).set rfl) (by simp (disch := omega) only [zu_sm, zu_off, zu_dn]; omega) (by simp (disch := omega) only [zu_sm, zu_off, zu_dn]; omega)
      · have dgt : M 80 (e + 1) = s (e + 1) := dg_h hsd hB hFM2 (by omega)
        rw [dgt]
        have hz3 : zB (zu (zu (zu (zu (zu M 74 16 ((e : Int) + 1)) 84 (2 * pp) v) 74 16 ((e : Int) + 1 + 1)) 84 (2 * pp + 1) (s (e + 1) - 48)) 74 22 ((pp : Int) + 1)) := zB_u (zB_u (zB_u (zB_u (zB_u hBM (show 0 ≤ (e : Int) + 1 ∧ (e : Int) + 1 ≤ 100 by omega)) (show 0 ≤ v ∧ v ≤ 99 from hv)) (show 0 ≤ (e : Int) + 1 + 1 ∧ (e : Int) + 1 + 1 ≤ 100 by omega)) (show 0 ≤ s (e + 1) - 48 ∧ s (e + 1) - 48 ≤ 99 by omega)) (show 0 ≤ (pp : Int) + 1 ∧ (pp : Int) + 1 ≤ 6 by omega)
        refine h1 v (s (e + 1) - 48) (e + 2) _ ?_ hz3 (((((hFM2.set rfl).set rfl).set rfl).set rfl).set rfl) ?_ ?_ ?_ ?_ ?_ ?_ (fun j hj => ?_) (fun j => ?_)
        · rw [el]
          unfold prS
          rw [ht]
          dsimp only
          rw [if_neg y0, if_pos (by omega)]
        · simp (disch := omega) only [zu_sm, zu_off, zu_dn]
          omega
        · simp (disch := omega) only [zu_off, zu_dn]
          exact m17
        · rw [zu_sm rfl]
          omega
        · simp (disch := omega) only [zu_off, zu_dn]
          exact m23
        · simp (disch := omega) only [zu_sm, zu_off, zu_dn]
        · simp (disch := omega) only [zu_sm, zu_off, zu_dn]
        · simp (disch := omega) only [zu_off, zu_dn]
          exact m84 j
        · simp (disch := omega) only [zu_dn]
          exact m85 j
      · exact h0 _ (fault (by omega)) hz3 ((((hFM2.set rfl).set rfl).set rfl).set rfl) (by simp (disch := omega) only [zu_sm, zu_off, zu_dn]; omega) (by simp (disch := omega) only [zu_sm, zu_off, zu_dn]; omega)
      · exact h0 _ (fault (by omega)) hz3 ((((hFM2.set rfl).set rfl).set rfl).set rfl) (by simp (disch := omega) only [zu_sm, zu_off, zu_dn]; omega) (by simp (disch := omega) only [zu_sm, zu_off, zu_dn]; omega)
/-- what a reading of lines says of the cells of the reference -/
noncomputable def HouR (n k : Nat) (M : zM) (w : hTy) : Prop := (n ≤ w.1 ∧ w.1 ≤ 6) ∧ (k ≤ w.2.1 ∧ w.2.1 ≤ 8) ∧ M 74 22 = ((w.1 - n : Nat) : Int) ∧ M 74 23 = ((w.2.1 - k : Nat) : Int) ∧ (∀ q, n ≤ q → q < w.1 → M 84 (2 * (q - n)) = w.2.2.1 q ∧ M 84 (2 * (q - n) + 1) = w.2.2.2.1 q) ∧ (∀ q, k ≤ q → q < w.2.1 → M 85 (2 * (q - k)) = w.2.2.2.2.1 q ∧ M 85 (2 * (q - k) + 1) = w.2.2.2.2.2 q)
set_option maxHeartbeats 4000000 in
theorem z_linesR (hT : zRules T) (hB : zB m) (hrd : m 74 13 = 80) (hsd : s = sgR m 80) {n k L76 : Nat} {fx fy gx gy : Nat → Int} (n4 : m 74 4 = (n : Int)) (k6 : m 74 6 = (k : Int)) (hL : m 74 14 = (L : Int)) (hL80 : L ≤ 80) (h76 : L76 ≤ 76) (hle : L76 ≤ L) (hs : ∀ a, L76 ≤ a → s a = -1) (h16 : m 74 16 = 0) (h17 : m 74 17 = -1) (h22 : m 74 22 = 0) (h23 : m 74 23 = 0)
    (h0 : ∀ r M, hsR s L 14 n k 0 fx fy gx gy = none → zB M → zFr (inL yrhL) m M → κ (some (zi r)) M)
    (h1 : ∀ w M, hsR s L 14 n k 0 fx fy gx gy = some w → zB M → zFr (inL yrhL) m M → HouR n k M w → T (D + 7) 206 (105, [(0, zr 74), (2, zi 0)], [], M) κ) : T (D + 7) 206 (45, [(0, zr 74), (1, zi 1)], [], m) κ := by
  have b4 : 0 ≤ m 74 4 ∧ m 74 4 ≤ 6 := hB 74 4
  have b6 : 0 ≤ m 74 6 ∧ m 74 6 ≤ 8 := hB 74 6
  have hs76 : ∀ b, 76 ≤ b → s b = -1 := fun b hb => hs b (by omega)
  have bad : ∀ N : zM, hsR s L 14 n k 0 fx fy gx gy = none → zB N → zFr (inL yrhL) m N → (0 ≤ N 74 17 ∧ N 74 17 ≤ 100) → (0 ≤ N 74 16 ∧ N 74 16 ≤ 100) → T (D + 7) 206 (60, [(0, zr 74), (1, zi 1)], [], N) κ := by
    intro N he hBN hFN g17 g16
    have h74 : N 74 13 = 80 := (hFN 74 13 rfl).trans hrd
    refine zb206_60f (D := D) hT rfl hBN h74 g17 g16 ?_
    have fin := fun r => h0 r N he hBN hFN
    exact zb206_45f (D := D) (mo := 0) hT rfl hBN h74 (by omega) g17 g16 (fun _ _ => fin _) (fun _ _ => fin _) (fun _ _ => fin _) (fun _ _ => fin _)
  have key : ∀ (j a : Nat) (w : hTy) (M : zM), n + k + 14 = w.1 + w.2.1 + j → a ≤ L76 → hsR s L j w.1 w.2.1 a w.2.2.1 w.2.2.2.1 w.2.2.2.2.1 w.2.2.2.2.2 = hsR s L 14 n k 0 fx fy gx gy → zB M → zFr (inL yrhL) m M → M 74 16 = (a : Int) → M 74 17 = -1 → HouR n k M w → T (D + 7) 206 (45, [(0, zr 74), (1, zi 1)], [], M) κ := by
    intro j
    induction j with
    | zero =>
      intro a w M hcnt ha hrun hBM hF g16 g17 hH
      rw [hsR] at hrun
      obtain ⟨⟨w1, w2⟩, ⟨w3, w4⟩, w5, w6, -, -⟩ := hH
      refine zb206_45b (D := D) hT rfl hBM ((hF 74 13 rfl).trans hrd) (by omega) (by omega) ?_
      have en : lnS s (n + (w.1 - n)) (k + (w.2.1 - k)) a = none := by
        unfold lnS
        rw [if_neg (by omega), if_neg (by omega)]
      exact z_lineR (D := D) (pp := w.1 - n) (cc := w.2.1 - k) (a := a) hT hB hrd hsd n4 k6 hBM hF g16 g17 (by omega) w5 w6 hs76 (fun M2 _ hB2 hF2 t17 t16 => bad M2 hrun.symm hB2 hF2 t17 t16) (fun x y b M2 e => by rw [en] at e; cases e) (fun x y b M2 e => by rw [en] at e; cases e)
    | succ j ih =>
      intro a w M hcnt ha hrun hBM hF g16 g17 hH
      obtain ⟨p, c, hx, hy, lx, ly⟩ := w
      dsimp only at hcnt hrun
      obtain ⟨⟨w1, w2⟩, ⟨w3, w4⟩, w5, w6, w7, w8⟩ := hH
      dsimp only at w1 w2 w3 w4 w5 w6 w7 w8
      rw [hsR] at hrun
      have ep : n + (p - n) = p := by omega
      have ec : k + (c - k) = c := by omega
      refine zb206_45b (D := D) hT rfl hBM ((hF 74 13 rfl).trans hrd) (by omega) (by omega) ?_
      -- behind a line: to the next, to the end, or at fault
      have next : ∀ (b : Nat) (w2 : hTy) (M2 : zM), a + 2 ≤ b → b ≤ L76 → n + k + 14 = w2.1 + w2.2.1 + j → (if b = L then some w2 else if s b = 59 then hsR s L j w2.1 w2.2.1 (b + 1) w2.2.2.1 w2.2.2.2.1 w2.2.2.2.2.1 w2.2.2.2.2.2 else none) = hsR s L 14 n k 0 fx fy gx gy → zB M2 → zFr (inL yrhL) m M2 → M2 74 16 = (b : Int) → M2 74 17 = -1 → HouR n k M2 w2 → T (D + 7) 206 (60, [(0, zr 74), (1, zi 1)], [], M2) κ := by
        intro b w2 M2 hab hb hcnt2 hrun2 hB2 hF2 t16 t17 hH2
        have h74 : M2 74 13 = 80 := (hF2 74 13 rfl).trans hrd
        have e14 : M2 74 14 = (L : Int) := (hF2 74 14 rfl).trans hL
        have hn : hrR M2 80 = s b := hr_h hsd hF2 t16
        refine zb206_60 (D := D) hT rfl hB2 h74 (by omega) (by omega) (fun q hz => ?_) (fun q => ?_)
        · rw [hn] at q
          have hlt : b < L76 := by
            rcases Nat.lt_or_ge b L76 with x | x
            · exact x
            · have := hs b x
              omega
          rw [if_neg (by omega), if_pos q] at hrun2
          obtain ⟨v1, v2, v5, v6, v7, v8⟩ := hH2
          refine ih (b + 1) w2 _ hcnt2 (by omega) hrun2 hz (hF2.set rfl) (by rw [zu_sm rfl, t16]; omega) (by rw [zu_off (by omega)]; exact t17) ⟨v1, v2, by rw [zu_off (by omega)]; exact v5, by rw [zu_off (by omega)]; exact v6, fun q h1 h2 => ?_, fun q h1 h2 => ?_⟩
          · rw [zu_dn (by omega), zu_dn (by omega)]
            exact v7 q h1 h2
          · rw [zu_dn (by omega), zu_dn (by omega)]
            exact v8 q h1 h2
        · rw [hn] at q
          refine zb206_45a (D := D) hT rfl hB2 h74 (by omega) (by omega) (fun x => ?_) (fun x hz => ?_)
          · rw [if_pos (by omega)] at hrun2
            exact h1 w2 M2 hrun2.symm hB2 hF2 hH2
          · rw [if_neg (by omega), if_neg q] at hrun2
            exact h0 _ _ hrun2.symm hz (hF2.set rfl)
      refine z_lineR (D := D) (pp := p - n) (cc := c - k) (a := a) hT hB hrd hsd n4 k6 hBM hF g16 g17 (by omega) w5 w6 hs76 (fun M2 e hB2 hF2 t17 t16 => ?_) (fun x y b M2 e hB2 hF2 t16 t17 t22 t23 tx ty t84 t85 => ?_) (fun x y b M2 e hB2 hF2 t16 t17 t22 t23 tx ty t85 t84 => ?_)
      · rw [ep, ec] at e
        rw [e] at hrun
        exact bad M2 hrun.symm hB2 hF2 t17 t16
      · rw [ep, ec] at e
        obtain ⟨l1, l2, l3, l4⟩ := lnS_b hs ha e
        obtain ⟨l5, l6, l7⟩ := l3 rfl
        rw [e] at hrun
        dsimp only at hrun
        refine next b (p + 1, c, fu hx p x, fu hy p y, lx, ly) M2 l1 l2 (by dsimp only; omega) hrun hB2 hF2 t16 t17 ⟨⟨by dsimp only; omega, by dsimp only; omega⟩, ⟨w3, w4⟩, by rw [t22]; dsimp only; omega, t23, fun q q1 q2 => ?_, fun q q1 q2 => ?_⟩
        · dsimp only at q2 ⊢
          by_cases eq : q = p
          · rw [eq, fu_eq rfl, fu_eq rfl]
            exact ⟨tx, ty⟩
          · rw [fu_ne eq, fu_ne eq, t84 _ (by omega), t84 _ (by omega)]
            exact w7 q q1 (by omega)
        · rw [t85, t85]
          exact w8 q q1 q2
      · rw [ep, ec] at e
        obtain ⟨l1, l2, l3, l4⟩ := lnS_b hs ha e
        obtain ⟨l5, l6, l7⟩ := l4 rfl
        rw [e] at hrun
        dsimp only at hrun
        refine next b (p, c + 1, hx, hy, fu lx c x, fu ly c y) M2 l1 l2 (by dsimp only; omega) hrun hB2 hF2 t16 t17 ⟨⟨w1, w2⟩, ⟨by dsimp only; omega, by dsimp only; omega⟩, t22, by rw [t23]; dsimp only; omega, fun q q1 q2 => ?_, fun q q1 q2 => ?_⟩
        · rw [t84, t84]
          exact w7 q q1 q2
        · dsimp only at q2 ⊢
          by_cases eq : q = c
          · rw [eq, fu_eq rfl, fu_eq rfl]
            exact ⟨tx, ty⟩
          · rw [fu_ne eq, fu_ne eq, t85 _ (by omega), t85 _ (by omega)]
            exact w8 q q1 (by omega)
  refine key 14 0 (n, k, fx, fy, gx, gy) m (by dsimp only) (by omega) rfl hB zFr.refl (by rw [h16]; rfl) h17 ⟨⟨Nat.le_refl n, by dsimp only; omega⟩, ⟨Nat.le_refl k, by dsimp only; omega⟩, by rw [h22]; dsimp only; omega, by rw [h23]; dsimp only; omega, fun q q1 q2 => absurd q2 (by dsimp only; omega), fun q q1 q2 => absurd q2 (by dsimp only; omega)⟩
end ZLinesR
end
