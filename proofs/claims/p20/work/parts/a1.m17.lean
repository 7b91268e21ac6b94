-- a1.b29.lean.txt
section
section ZBlocks
variable {T : Nat → Nat → zG → (Option zA → zM → Prop) → Prop}
theorem zb128_0r (hT : zRules T) {D : Nat} {κ : Option zA → zM → Prop} {m : zM} 
    (o1 : 60 < wr (m 2 1) → ¬ wr (m 2 1) = 0 → T (D + 6) 107 (0, [(0, zr 48), (1, zr 2)], [], (zu (zu m 2 3 0) 2 2 60)) (fun r m1 => T (D + 7) 128 (35, [(0, zr 1)], r.toList ++ [zr 1], m1) κ))
    (o2 : 60 < wr (m 2 1) → wr (m 2 1) = 0 → False)
    (o3 : ¬ 60 < wr (m 2 1) → ¬ wr (m 2 1) = 0 → T (D + 6) 107 (0, [(0, zr 48), (1, zr 2)], [], (zu (zu m 2 3 0) 2 2 (wr (m 2 1)))) (fun r m1 => T (D + 7) 128 (35, [(0, zr 1)], r.toList ++ [zr 1], m1) κ))
    (o4 : ¬ 60 < wr (m 2 1) → wr (m 2 1) = 0 → T (D + 6) 16 (0, [(0, zr 28), (1, zr 17)], [], (zu (zu (zu m 2 3 0) 2 2 (wr (m 2 1))) 2 1 0)) (fun r m1 => T (D + 7) 128 (56, [(0, zr 1), (1, zi 0)], r.toList ++ [], m1) κ)) :
    T (D + 7) 128 (0, [(0, zr 1)], [], m) κ :=
  hT.1 [(65, [0, 1, 2])] 6 (D + 7) 128 _ κ (hT.1 [] 6 (D + 6) 66 _ _ (And.intro trivial (hT.1 [] 6 (D + 6) 66 (10, [(0, zr 2), (1, zi 60)], [zi (m 2 1), zr 2], (zu m 2 3 0)) _ (hT.1 [] 6 (D + 5) 294 _ _ (And.intro (fun a1 => (hT.1 [] 6 (D + 6) 66 _ _ (And.intro trivial (hT.1 [(65, [0, 1, 2])] 6 (D + 7) 128 _ _ (hT.1 [] 6 (D + 6) 65 _ _ (And.intro (fun a3 => (And.intro (z_b01L rfl) (hT.1 [(65, [0, 1, 2])] 6 (D + 7) 128 _ _ (And.intro (fun _ => (o1 a1 a3)) (fun a5 => (a5 (z_litT rfl)).elim))))) (fun a4 => (o2 a1 (Classical.byContradiction a4)).elim))))))) (fun a2 => (hT.1 [] 6 (D + 6) 66 _ _ (And.intro trivial (hT.1 [(65, [0, 1, 2])] 6 (D + 7) 128 _ _ (hT.1 [] 6 (D + 6) 65 _ _ (And.intro (fun a6 => (And.intro (z_b01L rfl) (hT.1 [(65, [0, 1, 2])] 6 (D + 7) 128 _ _ (And.intro (fun _ => (o3 a2 a6)) (fun a8 => (a8 (z_litT rfl)).elim))))) (fun a7 => (And.intro (z_b01L rfl) (hT.1 [(65, [0, 1, 2])] 6 (D + 7) 128 _ _ (And.intro (fun a9 => (z_litF a9 rfl).elim) (fun _ => (hT.1 [] 6 (D + 6) 168 _ _ (And.intro (fun _ => (hT.1 [] 6 (D + 6) 168 (22, [(0, zr 1), (1, zi 0), (2, zi 0)], [zr 2], (zu (zu m 2 3 0) 2 2 (wr (m 2 1)))) _ (And.intro trivial (hT.1 [(65, [0, 1, 2])] 6 (D + 7) 128 _ _ (And.intro (fun _ => (hT.1 [(65, [0, 1, 2])] 6 (D + 7) 128 (50, [(0, zr 1), (1, zi 0)], [zr 1, zr 28], (zu (zu (zu m 2 3 0) 2 2 (wr (m 2 1))) 2 1 0)) _ (o4 a2 (Classical.byContradiction a7)))) (fun a11 => (a11 (z_litT rfl)).elim)))))) (fun a10 => (a10 (z_litT rfl)).elim)))))))))))))))))))
theorem zb128_0 (hT : zRules T) {D : Nat} {κ : Option zA → zM → Prop} {m : zM}  (hB : zB m) 
    (k1 : 60 < (m 2 1) → zB (zu (zu m 2 3 0) 2 2 60) → T (D + 6) 107 (0, [(0, zr 48), (1, zr 2)], [], (zu (zu m 2 3 0) 2 2 60)) (fun r m1 => T (D + 7) 128 (35, [(0, zr 1)], r.toList ++ [zr 1], m1) κ))
    (k2 : ¬ 60 < (m 2 1) → ¬ (m 2 1) = 0 → zB (zu (zu m 2 3 0) 2 2 (m 2 1)) → T (D + 6) 107 (0, [(0, zr 48), (1, zr 2)], [], (zu (zu m 2 3 0) 2 2 (m 2 1))) (fun r m1 => T (D + 7) 128 (35, [(0, zr 1)], r.toList ++ [zr 1], m1) κ))
    (k3 : ¬ 60 < (m 2 1) → (m 2 1) = 0 → zB (zu (zu (zu m 2 3 0) 2 2 (m 2 1)) 2 1 0) → T (D + 6) 16 (0, [(0, zr 28), (1, zr 17)], [], (zu (zu (zu m 2 3 0) 2 2 (m 2 1)) 2 1 0)) (fun r m1 => T (D + 7) 128 (56, [(0, zr 1), (1, zi 0)], r.toList ++ [], m1) κ)) :
    T (D + 7) 128 (0, [(0, zr 1)], [], m) κ := by
  have hb0 : 0 ≤ (m 2 1) ∧ (m 2 1) ≤ 80 := hB 2 1
  have he0 : wr (m 2 1) = (m 2 1) := wr_id (by omega) (by omega)
  have key := @zb128_0r T hT D κ m 
  simp only [he0, Int.toNat_natCast] at key
  exact key
    (fun x0 x1 => k1 x0 (zB_u (zB_u hB (show (-1) ≤ 0 ∧ 0 ≤ 100 from ⟨by omega, by omega⟩)) (show 0 ≤ 60 ∧ 60 ≤ 80 from ⟨by omega, by omega⟩)))
    (fun x0 x1 => by omega)
    (fun x0 x1 => k2 x0 x1 (zB_u (zB_u hB (show (-1) ≤ 0 ∧ 0 ≤ 100 from ⟨by omega, by omega⟩)) (show 0 ≤ (m 2 1) ∧ (m 2 1) ≤ 80 from ⟨by omega, by omega⟩)))
    (fun x0 x1 => k3 x0 x1 (zB_u (zB_u (zB_u hB (show (-1) ≤ 0 ∧ 0 ≤ 100 from ⟨by omega, by omega⟩)) (show 0 ≤ (m 2 1) ∧ (m 2 1) ≤ 80 from ⟨by omega, by omega⟩)) (show 0 ≤ 0 ∧ 0 ≤ 80 from ⟨by omega, by omega⟩)))
theorem zb128_35r (hT : zRules T) {D : Nat} {κ : Option zA → zM → Prop} {m : zM} {v : Int} {lo : zL} (hlo : z_keep [0] lo = [(0, zr 1)]) 
    (o1 : ¬ wr v < 0 → ¬ wr (wr v) < 0 → T (D + 6) 16 (0, [(0, zr 28), (1, zr 17)], [], (zu m 2 1 0)) (fun r m1 => T (D + 7) 128 (56, [(0, zr 1), (1, zi (wr v))], r.toList ++ [], m1) κ))
    (o2 : ¬ wr v < 0 → wr (wr v) < 0 → False)
    (o3 : wr v < 0 → ¬ wr (wr ((-1) - (m 2 3))) < 0 → T (D + 6) 16 (0, [(0, zr 28), (1, zr 17)], [], (zu m 2 1 0)) (fun r m1 => T (D + 7) 128 (56, [(0, zr 1), (1, zi (wr ((-1) - (m 2 3))))], r.toList ++ [], m1) κ))
    (o4 : wr v < 0 → wr (wr ((-1) - (m 2 3))) < 0 → κ (some (zi (wr (wr ((-1) - (m 2 3)))))) (zu m 2 1 0)) :
    T (D + 7) 128 (35, lo, [zi v, zr 1], m) κ :=
  zkeep hT hlo (hT.1 [(65, [0, 1, 2])] 6 (D + 7) 128 _ κ (hT.1 [] 6 (D + 6) 168 _ _ (And.intro (fun a1 => (hT.1 [] 6 (D + 6) 168 (22, [(0, zr 1), (1, zi v), (2, zi v)], [zr 2], m) _ (And.intro trivial (hT.1 [(65, [0, 1, 2])] 6 (D + 7) 128 _ _ (And.intro (fun a3 => (hT.1 [(65, [0, 1, 2])] 6 (D + 7) 128 (50, [(0, zr 1), (1, zi (wr v))], [zr 1, zr 28], (zu m 2 1 0)) _ (o1 a1 a3))) (fun a4 => (o2 a1 (Classical.byContradiction a4)).elim)))))) (fun a2 => (hT.1 [] 6 (D + 6) 168 (12, [(0, zr 1), (1, zi v)], [zi (m 2 3), zi (-1)], m) _ (hT.1 [] 6 (D + 6) 168 (23, [(0, zr 1), (1, zi v), (2, zi ((-1) - (m 2 3)))], [zi 0, zr 2], m) _ (And.intro trivial (hT.1 [(65, [0, 1, 2])] 6 (D + 7) 128 _ _ (And.intro (fun a5 => (hT.1 [(65, [0, 1, 2])] 6 (D + 7) 128 (50, [(0, zr 1), (1, zi (wr ((-1) - (m 2 3))))], [zr 1, zr 28], (zu m 2 1 0)) _ (o3 (Classical.byContradiction a2) a5))) (fun a6 => (o4 (Classical.byContradiction a2) (Classical.byContradiction a6))))))))))))
theorem zb128_35 (hT : zRules T) {D : Nat} {κ : Option zA → zM → Prop} {m : zM} {v : Int} {lo : zL} (hlo : z_keep [0] lo = [(0, zr 1)])  (hB : zB m) (h_v : (-1) ≤ v ∧ v ≤ 30) 
    (k1 : ¬ v < 0 → zB (zu m 2 1 0) → T (D + 6) 16 (0, [(0, zr 28), (1, zr 17)], [], (zu m 2 1 0)) (fun r m1 => T (D + 7) 128 (56, [(0, zr 1), (1, zi v)], r.toList ++ [], m1) κ))
    (k2 : v < 0 → ¬ ((-1) - (m 2 3)) < 0 → zB (zu m 2 1 0) → T (D + 6) 16 (0, [(0, zr 28), (1, zr 17)], [], (zu m 2 1 0)) (fun r m1 => T (D + 7) 128 (56, [(0, zr 1), (1, zi ((-1) - (m 2 3)))], r.toList ++ [], m1) κ))
    (k3 : v < 0 → ((-1) - (m 2 3)) < 0 → zB (zu m 2 1 0) → κ (some (zi ((-1) - (m 2 3)))) (zu m 2 1 0)) :
    T (D + 7) 128 (35, lo, [zi v, zr 1], m) κ := by
  have hb1 : (-1) ≤ (m 2 3) ∧ (m 2 3) ≤ 100 := hB 2 3
  have he0 : wr v = v := wr_id (by omega) (by omega)
  have he1 : wr ((-1) - (m 2 3)) = ((-1) - (m 2 3)) := wr_id (by omega) (by omega)
  have key := @zb128_35r T hT D κ m v lo hlo
  simp only [he0, he1, Int.toNat_natCast] at key
  exact key
    (fun x0 x1 => k1 x0 (zB_u hB (show 0 ≤ 0 ∧ 0 ≤ 80 from ⟨by omega, by omega⟩)))
    (fun x0 x1 => by omega)
    (fun x0 x1 => k2 x0 x1 (zB_u hB (show 0 ≤ 0 ∧ 0 ≤ 80 from ⟨by omega, by omega⟩)))
    (fun x0 x1 => k3 x0 x1 (zB_u hB (show 0 ≤ 0 ∧ 0 ≤ 80 from ⟨by omega, by omega⟩)))
theorem zb128_56r (hT : zRules T) {D : Nat} {κ : Option zA → zM → Prop} {m : zM} {n : Nat} {lo : zL} (hlo : z_keep [0, 1] lo = [(0, zr 1), (1, zi (n : Int))]) 
    (o1 : T (D + 7) 128 (65, [(0, zr 1), (1, zi (n : Int)), (2, zi 0)], [], (zu (zu (zu m 17 12 0) 17 13 0) 17 14 0)) κ) :
    T (D + 7) 128 (56, lo, [], m) κ :=
  zkeep hT hlo (hT.1 [(65, [0, 1, 2])] 6 (D + 7) 128 _ κ (hT.1 [] 6 (D + 6) 35 _ _ (And.intro trivial (And.intro trivial (hT.1 [] 6 (D + 6) 35 (10, [(0, zr 17)], [], (zu (zu m 17 12 0) 17 13 0)) _ (And.intro trivial (hT.1 [(65, [0, 1, 2])] 6 (D + 7) 128 _ _ (o1))))))))
theorem zb128_56 (hT : zRules T) {D : Nat} {κ : Option zA → zM → Prop} {m : zM} {n : Nat} {lo : zL} (hlo : z_keep [0, 1] lo = [(0, zr 1), (1, zi (n : Int))])  (hB : zB m) (h_n : n ≤ 30) 
    (k1 : zB (zu (zu (zu m 17 12 0) 17 13 0) 17 14 0) → T (D + 7) 128 (65, [(0, zr 1), (1, zi (n : Int)), (2, zi 0)], [], (zu (zu (zu m 17 12 0) 17 13 0) 17 14 0)) κ) :
    T (D + 7) 128 (56, lo, [], m) κ := by
  exact zb128_56r hT hlo
    (k1  (zB_u (zB_u (zB_u hB trivial) trivial) trivial))
theorem zb128_65r (hT : zRules T) {D : Nat} {κ : Option zA → zM → Prop} {m : zM} {n : Nat} {d : Nat} {lo : zL} (hlo : z_keep [0, 1, 2] lo = [(0, zr 1), (1, zi (n : Int)), (2, zi (d : Int))]) 
    (o1 : ¬ wr (d : Int) < wr (n : Int) → ¬ 0 < wr (d : Int) → ¬ wr (d : Int) < wr (n : Int) → κ (some (zi (wr (d : Int)))) (zu (zu (zu (zu m 17 10 ((m 17 10) - wr (wr (((m 17 12) * (m 24 1)) + ((m 17 13) * (m 24 2)))))) 72 1 2) 73 0 0) 73 1 (wr (wr (wr (((m 17 12) * (m 24 1)) + ((m 17 13) * (m 24 2))))))))
    (o2 : ¬ wr (d : Int) < wr (n : Int) → ¬ 0 < wr (d : Int) → wr (d : Int) < wr (n : Int) → False)
    (o3 : ¬ wr (d : Int) < wr (n : Int) → 0 < wr (d : Int) → ¬ wr (m 28 5) < 12 → ¬ wr (d : Int) < wr (n : Int) → κ (some (zi (wr (d : Int)))) (zu (zu (zu (zu (zu m 28 4 (Int.tmod (wr ((m 28 4) + 1)) 13)) 17 10 ((m 17 10) - wr (wr (((m 17 12) * (m 24 1)) + ((m 17 13) * (m 24 2)))))) 72 1 2) 73 0 0) 73 1 (wr (wr (wr (((m 17 12) * (m 24 1)) + ((m 17 13) * (m 24 2))))))))
    (o4 : ¬ wr (d : Int) < wr (n : Int) → 0 < wr (d : Int) → ¬ wr (m 28 5) < 12 → wr (d : Int) < wr (n : Int) → False)
    (o5 : ¬ wr (d : Int) < wr (n : Int) → 0 < wr (d : Int) → wr (m 28 5) < 12 → ¬ wr (d : Int) < wr (n : Int) → κ (some (zi (wr (d : Int)))) (zu (zu (zu (zu (zu m 28 5 ((m 28 5) + 1)) 17 10 ((m 17 10) - wr (wr (((m 17 12) * (m 24 1)) + ((m 17 13) * (m 24 2)))))) 72 1 2) 73 0 0) 73 1 (wr (wr (wr (((m 17 12) * (m 24 1)) + ((m 17 13) * (m 24 2))))))))
    (o6 : ¬ wr (d : Int) < wr (n : Int) → 0 < wr (d : Int) → wr (m 28 5) < 12 → wr (d : Int) < wr (n : Int) → False)
    (o7 : wr (d : Int) < wr (n : Int) → (0 ≤ wr (d : Int) ∧ wr (d : Int) < 30))
    (o8 : wr (d : Int) < wr (n : Int) → (0 ≤ wr (d : Int) ∧ wr (d : Int) < 30))
    (o9 : wr (d : Int) < wr (n : Int) → (0 ≤ wr (d : Int) ∧ wr (d : Int) < 30))
    (o10 : wr (d : Int) < wr (n : Int) → T (D + 6) 176 (0, [(0, zr 1), (1, zi (m 49 ((wr (d : Int)).toNat))), (2, zi (m 50 ((wr (d : Int)).toNat))), (3, zi (m 51 ((wr (d : Int)).toNat)))], [], m) (fun r m1 => T (D + 7) 128 (101, [(0, zr 1), (1, zi (n : Int)), (2, zi (d : Int))], r.toList ++ [], m1) κ)) :
    T (D + 7) 128 (65, lo, [], m) κ :=
  zkeep hT hlo (hT.1 [(65, [0, 1, 2])] 6 (D + 7) 128 _ κ (And.intro (fun a1 => (And.intro (fun a3 => (hT.1 [(65, [0, 1, 2])] 6 (D + 7) 128 (122, [(0, zr 1), (1, zi (n : Int)), (2, zi (d : Int))], [zr 1], m) _ (And.intro (fun a5 => (hT.1 [(65, [0, 1, 2])] 6 (D + 7) 128 (136, [(0, zr 1), (1, zi (n : Int)), (2, zi (d : Int))], [zr 1, zi 0, zr 72], m) _ (hT.1 [] 6 (D + 6) 37 _ _ (hT.1 [] 6 (D + 5) 36 _ _ (hT.1 [] 6 (D + 4) 33 _ _ (And.intro (z_ixL rfl) (hT.1 [] 6 (D + 4) 33 (8, [(0, zr 17), (1, zi (m 17 12)), (2, zi (m 17 13))], [zi ((m 17 12) * (m 24 1))], m) _ (And.intro (z_ixL rfl) (hT.1 [] 6 (D + 4) 33 (16, [(0, zr 17), (1, zi (m 17 12)), (2, zi (m 17 13))], [zi ((m 17 13) * (m 24 2)), zi ((m 17 12) * (m 24 1))], m) _ (hT.1 [] 6 (D + 5) 36 _ _ (hT.1 [] 6 (D + 6) 37 _ _ (And.intro trivial (hT.1 [] 6 (D + 5) 36 _ _ (hT.1 [] 6 (D + 4) 33 _ _ (And.intro (z_ixL rfl) (hT.1 [] 6 (D + 4) 33 (8, [(0, zr 17), (1, zi (m 17 12)), (2, zi (m 17 13))], [zi ((m 17 12) * (m 24 1))], (zu m 17 10 ((m 17 10) - wr (wr (((m 17 12) * (m 24 1)) + ((m 17 13) * (m 24 2))))))) _ (And.intro (z_ixL rfl) (hT.1 [] 6 (D + 4) 33 (16, [(0, zr 17), (1, zi (m 17 12)), (2, zi (m 17 13))], [zi ((m 17 13) * (m 24 2)), zi ((m 17 12) * (m 24 1))], (zu m 17 10 ((m 17 10) - wr (wr (((m 17 12) * (m 24 1)) + ((m 17 13) * (m 24 2))))))) _ (hT.1 [] 6 (D + 5) 36 _ _ (hT.1 [] 6 (D + 6) 37 _ _ (hT.1 [(65, [0, 1, 2])] 6 (D + 7) 128 _ _ (hT.1 [] 6 (D + 6) 46 _ _ (And.intro trivial (hT.1 [] 6 (D + 6) 46 (10, [(0, zr 72), (1, zi 0), (2, zi (wr (wr (wr (((m 17 12) * (m 24 1)) + ((m 17 13) * (m 24 2)))))))], [zi 0, zr 73], (zu (zu m 17 10 ((m 17 10) - wr (wr (((m 17 12) * (m 24 1)) + ((m 17 13) * (m 24 2)))))) 72 1 2)) _ (And.intro (And.intro (z_ixL rfl) trivial) (hT.1 [] 6 (D + 6) 46 (18, [(0, zr 72), (1, zi 0), (2, zi (wr (wr (wr (((m 17 12) * (m 24 1)) + ((m 17 13) * (m 24 2)))))))], [zi (wr (wr (wr (((m 17 12) * (m 24 1)) + ((m 17 13) * (m 24 2)))))), zi 1, zr 73], (zu (zu (zu m 17 10 ((m 17 10) - wr (wr (((m 17 12) * (m 24 1)) + ((m 17 13) * (m 24 2)))))) 72 1 2) 73 0 0)) _ (And.intro (And.intro (z_ixL rfl) trivial) (hT.1 [(65, [0, 1, 2])] 6 (D + 7) 128 _ _ (o1 a1 a3 a5))))))))))))))))))))))))))))) (fun a6 => (o2 a1 a3 (Classical.byContradiction a6)).elim)))) (fun a4 => (hT.1 [(65, [0, 1, 2])] 6 (D + 7) 128 (115, [(0, zr 1), (1, zi (n : Int)), (2, zi (d : Int))], [zr 1], m) _ (hT.1 [] 6 (D + 6) 17 _ _ (And.intro (fun a7 => (hT.1 [] 6 (D + 6) 17 (24, [(0, zr 28)], [zr 28, zr 28], m) _ (And.intro (z_neL rfl) (And.intro trivial (hT.1 [] 6 (D + 6) 17 (35, [(0, zr 28)], [], (zu m 28 4 (Int.tmod (wr ((m 28 4) + 1)) 13))) _ (hT.1 [(65, [0, 1, 2])] 6 (D + 7) 128 _ _ (And.intro (fun a9 => (hT.1 [(65, [0, 1, 2])] 6 (D + 7) 128 (135, [(0, zr 1), (1, zi (n : Int)), (2, zi (d : Int))], [zi 0, zr 72], (zu m 28 4 (Int.tmod (wr ((m 28 4) + 1)) 13))) _ (hT.1 [] 6 (D + 6) 37 _ _ (hT.1 [] 6 (D + 5) 36 _ _ (hT.1 [] 6 (D + 4) 33 _ _ (And.intro (z_ixL rfl) (hT.1 [] 6 (D + 4) 33 (8, [(0, zr 17), (1, zi (m 17 12)), (2, zi (m 17 13))], [zi ((m 17 12) * (m 24 1))], (zu m 28 4 (Int.tmod (wr ((m 28 4) + 1)) 13))) _ (And.intro (z_ixL rfl) (hT.1 [] 6 (D + 4) 33 (16, [(0, zr 17), (1, zi (m 17 12)), (2, zi (m 17 13))], [zi ((m 17 13) * (m 24 2)), zi ((m 17 12) * (m 24 1))], (zu m 28 4 (Int.tmod (wr ((m 28 4) + 1)) 13))) _ (hT.1 [] 6 (D + 5) 36 _ _ (hT.1 [] 6 (D + 6) 37 _ _ (And.intro trivial (hT.1 [] 6 (D + 5) 36 _ _ (hT.1 [] 6 (D + 4) 33 _ _ (And.intro (z_ixL rfl) (hT.1 [] 6 (D + 4) 33 (8, [(0, zr 17), (1, zi (m 17 12)), (2, zi (m 17 13))], [zi ((m 17 12) * (m 24 1))], (zu (zu m 28 4 (Int.tmod (wr ((m 28 4) + 1)) 13)) 17 10 ((m 17 10) - wr (wr (((m 17 12) * (m 24 1)) + ((m 17 13) * (m 24 2))))))) _ (And.intro (z_ixL rfl) (hT.1 [] 6 (D + 4) 33 (16, [(0, zr 17), (1, zi (m 17 12)), (2, zi (m 17 13))], [zi ((m 17 13) * (m 24 2)), zi ((m 17 12) * (m 24 1))], (zu (zu m 28 4 (Int.tmod (wr ((m 28 4) + 1)) 13)) 17 10 ((m 17 10) - wr (wr (((m 17 12) * (m 24 1)) + ((m 17 13) * (m 24 2))))))) _ (hT.1 [] 6 (D + 5) 36 _ _ (hT.1 [] 6 (D + 6) 37 _ _ (hT.1 [(65, [0, 1, 2])] 6 (D + 7) 128 _ _ (hT.1 [] 6 (D + 6) 46 _ _ (And.intro trivial (hT.1 [] 6 (D + 6) 46 (10, [(0, zr 72), (1, zi 0), (2, zi (wr (wr (wr (((m 17 12) * (m 24 1)) + ((m 17 13) * (m 24 2)))))))], [zi 0, zr 73], (zu (zu (zu m 28 4 (Int.tmod (wr ((m 28 4) + 1)) 13)) 17 10 ((m 17 10) - wr (wr (((m 17 12) * (m 24 1)) + ((m 17 13) * (m 24 2)))))) 72 1 2)) _ (And.intro (And.intro (z_ixL rfl) trivial) (hT.1 [] 6 (D + 6) 46 (18, [(0, zr 72), (1, zi 0), (2, zi (wr (wr (wr (((m 17 12) * (m 24 1)) + ((m 17 13) * (m 24 2)))))))], [zi (wr (wr (wr (((m 17 12) * (m 24 1)) + ((m 17 13) * (m 24 2)))))), zi 1, zr 73], (zu (zu (zu (zu m 28 4 (Int.tmod (wr ((m 28 4) + 1)) 13)) 17 10 ((m 17 10) - wr (wr (((m 17 12) * (m 24 1)) + ((m 17 13) * (m 24 2)))))) 72 1 2) 73 0 0)) _ (And.intro (And.intro (z_ixL rfl) trivial) (hT.1 [(65, [0, 1, 2])] 6 (D + 7) 128 _ _ (o3 a1 (Classical.byContradiction a4) a7 a9))))))))))))))))))))))))))))) (fun a10 => (o4 a1 (Classical.byContradiction a4) a7 (Classical.byContradiction a10)).elim)))))))) (fun a8 => (hT.1 [] 6 (D + 6) 17 (11, [(0, zr 28)], [zr 28, zr 28], m) _ (And.intro trivial (hT.1 [(65, [0, 1, 2])] 6 (D + 7) 128 _ _ (And.intro (fun a11 => (hT.1 [(65, [0, 1, 2])] 6 (D + 7) 128 (135, [(0, zr 1), (1, zi (n : Int)), (2, zi (d : Int))], [zi 0, zr 72], (zu m 28 5 ((m 28 5) + 1))) _ (hT.1 [] 6 (D + 6) 37 _ _ (hT.1 [] 6 (D + 5) 36 _ _ (hT.1 [] 6 (D + 4) 33 _ _ (And.intro (z_ixL rfl) (hT.1 [] 6 (D + 4) 33 (8, [(0, zr 17), (1, zi (m 17 12)), (2, zi (m 17 13))], [zi ((m 17 12) * (m 24 1))], (zu m 28 5 ((m 28 5) + 1))) _ (And.intro (z_ixL rfl) (hT.1 [] 6 (D + 4) 33 (16, [(0, zr 17), (1, zi (m 17 12)), (2, zi (m 17 13))], [zi ((m 17 13) * (m 24 2)), zi ((m 17 12) * (m 24 1))], (zu m 28 5 ((m 28 5) + 1))) _ (hT.1 [] 6 (D + 5) 36 _ _ (hT.1 [] 6 (D + 6) 37 _ _ (And.intro trivial (hT.1 [] 6 (D + 5) 36 _ _ (hT.1 [] 6 (D + 4) 33 _ _ (And.intro (z_ixL rfl) (hT.1 [] 6 (D + 4) 33 (8, [(0, zr 17), (1, zi (m 17 12)), (2, zi (m 17 13))], [zi ((m 17 12) * (m 24 1))], (zu (zu m 28 5 ((m 28 5) + 1)) 17 10 ((m 17 10) - wr (wr (((m 17 12) * (m 24 1)) + ((m 17 13) * (m 24 2))))))) _ (And.intro (z_ixL rfl) (hT.1 [] 6 (D + 4) 33 (16, [(0, zr 17), (1, zi (m 17 12)), (2, zi (m 17 13))], [zi ((m 17 13) * (m 24 2)), zi ((m 17 12) * (m 24 1))], (zu (zu m 28 5 ((m 28 5) + 1)) 17 10 ((m 17 10) - wr (wr (((m 17 12) * (m 24 1)) + ((m 17 13) * (m 24 2))))))) _ (hT.1 [] 6 (D + 5) 36 _ _ (hT.1 [] 6 (D + 6) 37 _ _ (hT.1 [(65, [0, 1, 2])] 6 (D + 7) 128 _ _ (hT.1 [] 6 (D + 6) 46 _ _ (And.intro trivial (hT.1 [] 6 (D + 6) 46 (10, [(0, zr 72), (1, zi 0), (2, zi (wr (wr (wr (((m 17 12) * (m 24 1)) + ((m 17 13) * (m 24 2)))))))], [zi 0, zr 73], (zu (zu (zu m 28 5 ((m 28 5) + 1)) 17 10 ((m 17 10) - wr (wr (((m 17 12) * (m 24 1)) + ((m 17 13) * (m 24 2)))))) 72 1 2)) _ (And.intro (And.intro (z_ixL rfl) trivial) (hT.1 [] 6 (D + 6) 46 (18, [(0, zr 72), (1, zi 0), (2, zi (wr (wr (wr (((m 17 12) * (m 24 1)) + ((m 17 13) * (m 24 2)))))))], [zi (wr (wr (wr (((m 17 12) * (m 24 1)) + ((m 17 13) * (m 24 2)))))), zi 1, zr 73], (zu (zu (zu (zu m 28 5 ((m 28 5) + 1)) 17 10 ((m 17 10) - wr (wr (((m 17 12) * (m 24 1)) + ((m 17 13) * (m 24 2)))))) 72 1 2) 73 0 0)) _ (And.intro (And.intro (z_ixL rfl) trivial) (hT.1 [(65, [0, 1, 2])] 6 (D + 7) 128 _ _ (o5 a1 (Classical.byContradiction a4) (Classical.byContradiction a8) a11))))))))))))))))))))))))))))) (fun a12 => (o6 a1 (Classical.byContradiction a4) (Classical.byContradiction a8) (Classical.byContradiction a12)).elim)))))))))))) (fun a2 => (hT.1 [(65, [0, 1, 2])] 6 (D + 7) 128 (75, [(0, zr 1), (1, zi (n : Int)), (2, zi (d : Int))], [zr 48, zr 1], m) _ (And.intro (o7 (Classical.byContradiction a2)) (hT.1 [(65, [0, 1, 2])] 6 (D + 7) 128 (87, [(0, zr 1), (1, zi (n : Int)), (2, zi (d : Int))], [zr 50, zi (m 49 ((wr (d : Int)).toNat)), zr 1], m) _ (And.intro (o8 (Classical.byContradiction a2)) (hT.1 [(65, [0, 1, 2])] 6 (D + 7) 128 (97, [(0, zr 1), (1, zi (n : Int)), (2, zi (d : Int))], [zi (d : Int), zr 51, zi (m 50 ((wr (d : Int)).toNat)), zi (m 49 ((wr (d : Int)).toNat)), zr 1], m) _ (And.intro (o9 (Classical.byContradiction a2)) (o10 (Classical.byContradiction a2)))))))))))
theorem zb128_65 (hT : zRules T) {D : Nat} {κ : Option zA → zM → Prop} {m : zM} {n : Nat} {d : Nat} {lo : zL} (hlo : z_keep [0, 1, 2] lo = [(0, zr 1), (1, zi (n : Int)), (2, zi (d : Int))])  (hB : zB m) (h_n : n ≤ 30) (h_d : d ≤ 30) 
    (k1 : ¬ (d : Int) < (n : Int) → ¬ 0 < (d : Int) → zB (zu (zu (zu (zu m 17 10 ((m 17 10) - wr (((m 17 12) * (m 24 1)) + ((m 17 13) * (m 24 2))))) 72 1 2) 73 0 0) 73 1 (wr (((m 17 12) * (m 24 1)) + ((m 17 13) * (m 24 2))))) → κ (some (zi (d : Int))) (zu (zu (zu (zu m 17 10 ((m 17 10) - wr (((m 17 12) * (m 24 1)) + ((m 17 13) * (m 24 2))))) 72 1 2) 73 0 0) 73 1 (wr (((m 17 12) * (m 24 1)) + ((m 17 13) * (m 24 2))))))
    (k2 : ¬ (d : Int) < (n : Int) → 0 < (d : Int) → ¬ (m 28 5) < 12 → zB (zu (zu (zu (zu (zu m 28 4 (Int.tmod ((m 28 4) + 1) 13)) 17 10 ((m 17 10) - wr (((m 17 12) * (m 24 1)) + ((m 17 13) * (m 24 2))))) 72 1 2) 73 0 0) 73 1 (wr (((m 17 12) * (m 24 1)) + ((m 17 13) * (m 24 2))))) → κ (some (zi (d : Int))) (zu (zu (zu (zu (zu m 28 4 (Int.tmod ((m 28 4) + 1) 13)) 17 10 ((m 17 10) - wr (((m 17 12) * (m 24 1)) + ((m 17 13) * (m 24 2))))) 72 1 2) 73 0 0) 73 1 (wr (((m 17 12) * (m 24 1)) + ((m 17 13) * (m 24 2))))))
    (k3 : ¬ (d : Int) < (n : Int) → 0 < (d : Int) → (m 28 5) < 12 → zB (zu (zu (zu (zu (zu m 28 5 ((m 28 5) + 1)) 17 10 ((m 17 10) - wr (((m 17 12) * (m 24 1)) + ((m 17 13) * (m 24 2))))) 72 1 2) 73 0 0) 73 1 (wr (((m 17 12) * (m 24 1)) + ((m 17 13) * (m 24 2))))) → κ (some (zi (d : Int))) (zu (zu (zu (zu (zu m 28 5 ((m 28 5) + 1)) 17 10 ((m 17 10) - wr (((m 17 12) * (m 24 1)) + ((m 17 13) * (m 24 2))))) 72 1 2) 73 0 0) 73 1 (wr (((m 17 12) * (m 24 1)) + ((m 17 13) * (m 24 2))))))
    (k4 : (d : Int) < (n : Int) → T (D + 6) 176 (0, [(0, zr 1), (1, zi (m 49 d)), (2, zi (m 50 d)), (3, zi (m 51 d))], [], m) (fun r m1 => T (D + 7) 128 (101, [(0, zr 1), (1, zi (n : Int)), (2, zi (d : Int))], r.toList ++ [], m1) κ)) :
    T (D + 7) 128 (65, lo, [], m) κ := by
  have hb2 : 0 ≤ (m 28 5) ∧ (m 28 5) ≤ 12 := hB 28 5
  have hb3 : 0 ≤ (m 24 1) ∧ (m 24 1) ≤ 9 := hB 24 1
  have hb4 : 0 ≤ (m 24 2) ∧ (m 24 2) ≤ 9 := hB 24 2
  have hb5 : (-2147483648) ≤ wr (((m 17 12) * (m 24 1)) + ((m 17 13) * (m 24 2))) ∧ wr (((m 17 12) * (m 24 1)) + ((m 17 13) * (m 24 2))) ≤ 2147483647 := wrB (((m 17 12) * (m 24 1)) + ((m 17 13) * (m 24 2)))
  have hb6 : 0 ≤ (m 28 4) ∧ (m 28 4) ≤ 12 := hB 28 4
  have hb7 : 0 ≤ (Int.tmod ((m 28 4) + 1) 13) ∧ (Int.tmod ((m 28 4) + 1) 13) ≤ 12 := z_tmodB ((m 28 4) + 1) 13 12 (by omega) (by omega) (by omega)
  have he0 : wr (d : Int) = (d : Int) := wr_id (by omega) (by omega)
  have he1 : wr (n : Int) = (n : Int) := wr_id (by omega) (by omega)
  have he2 : (d : Int).toNat = d := by omega
  have he3 : wr (m 28 5) = (m 28 5) := wr_id (by omega) (by omega)
  have he4 : wr (wr (((m 17 12) * (m 24 1)) + ((m 17 13) * (m 24 2)))) = wr (((m 17 12) * (m 24 1)) + ((m 17 13) * (m 24 2))) := wr_id (by omega) (by omega)
  have he5 : wr ((m 28 4) + 1) = ((m 28 4) + 1) := wr_id (by omega) (by omega)
  have key := @zb128_65r T hT D κ m n d lo hlo
  simp only [he0, he1, he2, he3, he4, he5, Int.toNat_natCast] at key
  exact key
    (fun x0 x1 x2 => k1 x0 x1 (zB_u (zB_u (zB_u (zB_u hB trivial) (show 0 ≤ 2 ∧ 2 ≤ 26 from ⟨by omega, by omega⟩)) trivial) trivial))
    (fun x0 x1 x2 => by omega)
    (fun x0 x1 x2 x3 => k2 x0 x1 x2 (zB_u (zB_u (zB_u (zB_u (zB_u hB (show 0 ≤ (Int.tmod ((m 28 4) + 1) 13) ∧ (Int.tmod ((m 28 4) + 1) 13) ≤ 12 from ⟨by omega, by omega⟩)) trivial) (show 0 ≤ 2 ∧ 2 ≤ 26 from ⟨by omega, by omega⟩)) trivial) trivial))
    (fun x0 x1 x2 x3 => by omega)
    (fun x0 x1 x2 x3 => k3 x0 x1 x2 (zB_u (zB_u (zB_u (zB_u (zB_u hB (show 0 ≤ ((m 28 5) + 1) ∧ ((m 28 5) + 1) ≤ 12 from ⟨by omega, by omega⟩)) trivial) (show 0 ≤ 2 ∧ 2 ≤ 26 from ⟨by omega, by omega⟩)) trivial) trivial))
    (fun x0 x1 x2 x3 => by omega)
    (fun x0 => by refine ⟨?_, ?_⟩ <;> omega)
    (fun x0 => by refine ⟨?_, ?_⟩ <;> omega)
    (fun x0 => by refine ⟨?_, ?_⟩ <;> omega)
    k4
theorem zb128_101r (hT : zRules T) {D : Nat} {κ : Option zA → zM → Prop} {m : zM} {n : Nat} {d : Nat} {v : Int} {lo : zL} (hlo : z_keep [0, 1, 2] lo = [(0, zr 1), (1, zi (n : Int)), (2, zi (d : Int))]) 
    (o1 : wr v = 0 → ¬ 0 < wr (d : Int) → ¬ wr (d : Int) < wr (n : Int) → κ (some (zi (wr (d : Int)))) (zu (zu (zu (zu m 17 10 ((m 17 10) - wr (wr (((m 17 12) * (m 24 1)) + ((m 17 13) * (m 24 2)))))) 72 1 2) 73 0 0) 73 1 (wr (wr (wr (((m 17 12) * (m 24 1)) + ((m 17 13) * (m 24 2))))))))
    (o2 : wr v = 0 → ¬ 0 < wr (d : Int) → wr (d : Int) < wr (n : Int) → κ (some (zi (wr (d : Int)))) (zu (zu (zu (zu m 17 10 ((m 17 10) - wr (wr (((m 17 12) * (m 24 1)) + ((m 17 13) * (m 24 2)))))) 72 1 2) 73 0 1) 73 1 (wr (wr (wr (((m 17 12) * (m 24 1)) + ((m 17 13) * (m 24 2))))))))
    (o3 : wr v = 0 → 0 < wr (d : Int) → ¬ wr (m 28 5) < 12 → ¬ wr (d : Int) < wr (n : Int) → κ (some (zi (wr (d : Int)))) (zu (zu (zu (zu (zu m 28 4 (Int.tmod (wr ((m 28 4) + 1)) 13)) 17 10 ((m 17 10) - wr (wr (((m 17 12) * (m 24 1)) + ((m 17 13) * (m 24 2)))))) 72 1 2) 73 0 0) 73 1 (wr (wr (wr (((m 17 12) * (m 24 1)) + ((m 17 13) * (m 24 2))))))))
    (o4 : wr v = 0 → 0 < wr (d : Int) → ¬ wr (m 28 5) < 12 → wr (d : Int) < wr (n : Int) → κ (some (zi (wr (d : Int)))) (zu (zu (zu (zu (zu m 28 4 (Int.tmod (wr ((m 28 4) + 1)) 13)) 17 10 ((m 17 10) - wr (wr (((m 17 12) * (m 24 1)) + ((m 17 13) * (m 24 2)))))) 72 1 2) 73 0 1) 73 1 (wr (wr (wr (((m 17 12) * (m 24 1)) + ((m 17 13) * (m 24 2))))))))
    (o5 : wr v = 0 → 0 < wr (d : Int) → wr (m 28 5) < 12 → ¬ wr (d : Int) < wr (n : Int) → κ (some (zi (wr (d : Int)))) (zu (zu (zu (zu (zu m 28 5 ((m 28 5) + 1)) 17 10 ((m 17 10) - wr (wr (((m 17 12) * (m 24 1)) + ((m 17 13) * (m 24 2)))))) 72 1 2) 73 0 0) 73 1 (wr (wr (wr (((m 17 12) * (m 24 1)) + ((m 17 13) * (m 24 2))))))))
    (o6 : wr v = 0 → 0 < wr (d : Int) → wr (m 28 5) < 12 → wr (d : Int) < wr (n : Int) → κ (some (zi (wr (d : Int)))) (zu (zu (zu (zu (zu m 28 5 ((m 28 5) + 1)) 17 10 ((m 17 10) - wr (wr (((m 17 12) * (m 24 1)) + ((m 17 13) * (m 24 2)))))) 72 1 2) 73 0 1) 73 1 (wr (wr (wr (((m 17 12) * (m 24 1)) + ((m 17 13) * (m 24 2))))))))
    (o7 : ¬ wr v = 0 → T (D + 7) 128 (65, [(0, zr 1), (1, zi (n : Int)), (2, zi ((d : Int) + 1))], [], m) κ) :
    T (D + 7) 128 (101, lo, [zi v], m) κ :=
  zkeep hT hlo (hT.1 [(65, [0, 1, 2])] 6 (D + 7) 128 _ κ (And.intro (fun a1 => (And.intro (fun a3 => (hT.1 [(65, [0, 1, 2])] 6 (D + 7) 128 (126, [(0, zr 1), (1, zi (n : Int)), (2, zi (d : Int))], [zi (d : Int), zr 72], m) _ (And.intro (fun a5 => (hT.1 [] 6 (D + 6) 37 _ _ (hT.1 [] 6 (D + 5) 36 _ _ (hT.1 [] 6 (D + 4) 33 _ _ (And.intro (z_ixL rfl) (hT.1 [] 6 (D + 4) 33 (8, [(0, zr 17), (1, zi (m 17 12)), (2, zi (m 17 13))], [zi ((m 17 12) * (m 24 1))], m) _ (And.intro (z_ixL rfl) (hT.1 [] 6 (D + 4) 33 (16, [(0, zr 17), (1, zi (m 17 12)), (2, zi (m 17 13))], [zi ((m 17 13) * (m 24 2)), zi ((m 17 12) * (m 24 1))], m) _ (hT.1 [] 6 (D + 5) 36 _ _ (hT.1 [] 6 (D + 6) 37 _ _ (And.intro trivial (hT.1 [] 6 (D + 5) 36 _ _ (hT.1 [] 6 (D + 4) 33 _ _ (And.intro (z_ixL rfl) (hT.1 [] 6 (D + 4) 33 (8, [(0, zr 17), (1, zi (m 17 12)), (2, zi (m 17 13))], [zi ((m 17 12) * (m 24 1))], (zu m 17 10 ((m 17 10) - wr (wr (((m 17 12) * (m 24 1)) + ((m 17 13) * (m 24 2))))))) _ (And.intro (z_ixL rfl) (hT.1 [] 6 (D + 4) 33 (16, [(0, zr 17), (1, zi (m 17 12)), (2, zi (m 17 13))], [zi ((m 17 13) * (m 24 2)), zi ((m 17 12) * (m 24 1))], (zu m 17 10 ((m 17 10) - wr (wr (((m 17 12) * (m 24 1)) + ((m 17 13) * (m 24 2))))))) _ (hT.1 [] 6 (D + 5) 36 _ _ (hT.1 [] 6 (D + 6) 37 _ _ (hT.1 [(65, [0, 1, 2])] 6 (D + 7) 128 _ _ (hT.1 [] 6 (D + 6) 46 _ _ (And.intro trivial (hT.1 [] 6 (D + 6) 46 (10, [(0, zr 72), (1, zi 0), (2, zi (wr (wr (wr (((m 17 12) * (m 24 1)) + ((m 17 13) * (m 24 2)))))))], [zi 0, zr 73], (zu (zu m 17 10 ((m 17 10) - wr (wr (((m 17 12) * (m 24 1)) + ((m 17 13) * (m 24 2)))))) 72 1 2)) _ (And.intro (And.intro (z_ixL rfl) trivial) (hT.1 [] 6 (D + 6) 46 (18, [(0, zr 72), (1, zi 0), (2, zi (wr (wr (wr (((m 17 12) * (m 24 1)) + ((m 17 13) * (m 24 2)))))))], [zi (wr (wr (wr (((m 17 12) * (m 24 1)) + ((m 17 13) * (m 24 2)))))), zi 1, zr 73], (zu (zu (zu m 17 10 ((m 17 10) - wr (wr (((m 17 12) * (m 24 1)) + ((m 17 13) * (m 24 2)))))) 72 1 2) 73 0 0)) _ (And.intro (And.intro (z_ixL rfl) trivial) (hT.1 [(65, [0, 1, 2])] 6 (D + 7) 128 _ _ (o1 a1 a3 a5)))))))))))))))))))))))))))) (fun a6 => (hT.1 [(65, [0, 1, 2])] 6 (D + 7) 128 (139, [(0, zr 1), (1, zi (n : Int)), (2, zi (d : Int))], [zr 17, zi 1, zr 72], m) _ (hT.1 [] 6 (D + 6) 37 _ _ (hT.1 [] 6 (D + 5) 36 _ _ (hT.1 [] 6 (D + 4) 33 _ _ (And.intro (z_ixL rfl) (hT.1 [] 6 (D + 4) 33 (8, [(0, zr 17), (1, zi (m 17 12)), (2, zi (m 17 13))], [zi ((m 17 12) * (m 24 1))], m) _ (And.intro (z_ixL rfl) (hT.1 [] 6 (D + 4) 33 (16, [(0, zr 17), (1, zi (m 17 12)), (2, zi (m 17 13))], [zi ((m 17 13) * (m 24 2)), zi ((m 17 12) * (m 24 1))], m) _ (hT.1 [] 6 (D + 5) 36 _ _ (hT.1 [] 6 (D + 6) 37 _ _ (And.intro trivial (hT.1 [] 6 (D + 5) 36 _ _ (hT.1 [] 6 (D + 4) 33 _ _ (And.intro (z_ixL rfl) (hT.1 [] 6 (D + 4) 33 (8, [(0, zr 17), (1, zi (m 17 12)), (2, zi (m 17 13))], [zi ((m 17 12) * (m 24 1))], (zu m 17 10 ((m 17 10) - wr (wr (((m 17 12) * (m 24 1)) + ((m 17 13) * (m 24 2))))))) _ (And.intro (z_ixL rfl) (hT.1 [] 6 (D + 4) 33 (16, [(0, zr 17), (1, zi (m 17 12)), (2, zi (m 17 13))], [zi ((m 17 13) * (m 24 2)), zi ((m 17 12) * (m 24 1))], (zu m 17 10 ((m 17 10) - wr (wr (((m 17 12) * (m 24 1)) + ((m 17 13) * (m 24 2))))))) _ (hT.1 [] 6 (D + 5) 36 _ _ (hT.1 [] 6 (D + 6) 37 _ _ (hT.1 [(65, [0, 1, 2])] 6 (D + 7) 128 _ _ (hT.1 [] 6 (D + 6) 46 _ _ (And.intro trivial (hT.1 [] 6 (D + 6) 46 (10, [(0, zr 72), (1, zi 1), (2, zi (wr (wr (wr (((m 17 12) * (m 24 1)) + ((m 17 13) * (m 24 2)))))))], [zi 0, zr 73], (zu (zu m 17 10 ((m 17 10) - wr (wr (((m 17 12) * (m 24 1)) + ((m 17 13) * (m 24 2)))))) 72 1 2)) _ (And.intro (And.intro (z_ixL rfl) trivial) (hT.1 [] 6 (D + 6) 46 (18, [(0, zr 72), (1, zi 1), (2, zi (wr (wr (wr (((m 17 12) * (m 24 1)) + ((m 17 13) * (m 24 2)))))))], [zi (wr (wr (wr (((m 17 12) * (m 24 1)) + ((m 17 13) * (m 24 2)))))), zi 1, zr 73], (zu (zu (zu m 17 10 ((m 17 10) - wr (wr (((m 17 12) * (m 24 1)) + ((m 17 13) * (m 24 2)))))) 72 1 2) 73 0 1)) _ (And.intro (And.intro (z_ixL rfl) trivial) (hT.1 [(65, [0, 1, 2])] 6 (D + 7) 128 _ _ (o2 a1 a3 (Classical.byContradiction a6))))))))))))))))))))))))))))))))) (fun a4 => (hT.1 [] 6 (D + 6) 17 _ _ (And.intro (fun a7 => (hT.1 [] 6 (D + 6) 17 (24, [(0, zr 28)], [zr 28, zr 28], m) _ (And.intro (z_neL rfl) (And.intro trivial (hT.1 [] 6 (D + 6) 17 (35, [(0, zr 28)], [], (zu m 28 4 (Int.tmod (wr ((m 28 4) + 1)) 13))) _ (hT.1 [(65, [0, 1, 2])] 6 (D + 7) 128 _ _ (And.intro (fun a9 => (hT.1 [(65, [0, 1, 2])] 6 (D + 7) 128 (135, [(0, zr 1), (1, zi (n : Int)), (2, zi (d : Int))], [zi 0, zr 72], (zu m 28 4 (Int.tmod (wr ((m 28 4) + 1)) 13))) _ (hT.1 [] 6 (D + 6) 37 _ _ (hT.1 [] 6 (D + 5) 36 _ _ (hT.1 [] 6 (D + 4) 33 _ _ (And.intro (z_ixL rfl) (hT.1 [] 6 (D + 4) 33 (8, [(0, zr 17), (1, zi (m 17 12)), (2, zi (m 17 13))], [zi ((m 17 12) * (m 24 1))], (zu m 28 4 (Int.tmod (wr ((m 28 4) + 1)) 13))) _ (And.intro (z_ixL rfl) (hT.1 [] 6 (D + 4) 33 (16, [(0, zr 17), (1, zi (m 17 12)), (2, zi (m 17 13))], [zi ((m 17 13) * (m 24 2)), zi ((m 17 12) * (m 24 1))], (zu m 28 4 (Int.tmod (wr ((m 28 4) + 1)) 13))) _ (hT.1 [] 6 (D + 5) 36 _ _ (hT.1 [] 6 (D + 6) 37 _ _ (And.intro trivial (hT.1 [] 6 (D + 5) 36 _ _ (hT.1 [] 6 (D + 4) 33 _ _ (And.intro (z_ixL rfl) (hT.1 [] 6 (D + 4) 33 (8, [(0, zr 17), (1, zi (m 17 12)), (2, zi (m 17 13))], [zi ((m 17 12) * (m 24 1))], (zu (zu m 28 4 (Int.tmod (wr ((m 28 4) + 1)) 13)) 17 10 ((m 17 10) - wr (wr (((m 17 12) * (m 24 1)) + ((m 17 13) * (m 24 2))))))) _ (And.intro (z_ixL rfl) (hT.1 [] 6 (D + 4) 33 (16, [(0, zr 17), (1, zi (m 17 12)), (2, zi (m 17 13))], [zi ((m 17 13) * (m 24 2)), zi ((m 17 12) * (m 24 1))], (zu (zu m 28 4 (Int.tmod (wr ((m 28 4) + 1)) 13)) 17 10 ((m 17 10) - wr (wr (((m 17 12) * (m 24 1)) + ((m 17 13) * (m 24 2))))))) _ (hT.1 [] 6 (D + 5) 36 _ _ (hT.1 [] 6 (D + 6) 37 _ _ (hT.1 [(65, [0, 1, 2])] 6 (D + 7) 128 _ _ (hT.1 [] 6 (D + 6) 46 _ _ (And.intro trivial (hT.1 [] 6 (D + 6) 46 (10, [(0, zr 72), (1, zi 0), (2, zi (wr (wr (wr (((m 17 12) * (m 24 1)) + ((m 17 13) * (m 24 2)))))))], [zi 0, zr 73], (zu (zu (zu m 28 4 (Int.tmod (wr ((m 28 4) + 1)) 13)) 17 10 ((m 17 10) - wr (wr (((m 17 12) * (m 24 1)) + ((m 17 13) * (m 24 2)))))) 72 1 2)) _ (And.intro (And.intro (z_ixL rfl) trivial) (hT.1 [] 6 (D + 6) 46 (18, [(0, zr 72), (1, zi 0), (2, zi (wr (wr (wr (((m 17 12) * (m 24 1)) + ((m 17 13) * (m 24 2)))))))], [zi (wr (wr (wr (((m 17 12) * (m 24 1)) + ((m 17 13) * (m 24 2)))))), zi 1, zr 73], (zu (zu (zu (zu m 28 4 (Int.tmod (wr ((m 28 4) + 1)) 13)) 17 10 ((m 17 10) - wr (wr (((m 17 12) * (m 24 1)) + ((m 17 13) * (m 24 2)))))) 72 1 2) 73 0 0)) _ (And.intro (And.intro (z_ixL rfl) trivial) (hT.1 [(65, [0, 1, 2])] 6 (D + 7) 128 _ _ (o3 a1 (Classical.byContradiction a4) a7 a9))))))))))))))))))))))))))))) (fun a10 => (hT.1 [(65, [0, 1, 2])] 6 (D + 7) 128 (131, [(0, zr 1), (1, zi (n : Int)), (2, zi (d : Int))], [zi 1, zr 72], (zu m 28 4 (Int.tmod (wr ((m 28 4) + 1)) 13))) _ (hT.1 [] 6 (D + 6) 37 _ _ (hT.1 [] 6 (D + 5) 36 _ _ (hT.1 [] 6 (D + 4) 33 _ _ (And.intro (z_ixL rfl) (hT.1 [] 6 (D + 4) 33 (8, [(0, zr 17), (1, zi (m 17 12)), (2, zi (m 17 13))], [zi ((m 17 12) * (m 24 1))], (zu m 28 4 (Int.tmod (wr ((m 28 4) + 1)) 13))) _ (And.intro (z_ixL rfl) (hT.1 [] 6 (D + 4) 33 (16, [(0, zr 17), (1, zi (m 17 12)), (2, zi (m 17 13))], [zi ((m 17 13) * (m 24 2)), zi ((m 17 12) * (m 24 1))], (zu m 28 4 (Int.tmod (wr ((m 28 4) + 1)) 13))) _ (hT.1 [] 6 (D + 5) 36 _ _ (hT.1 [] 6 (D + 6) 37 _ _ (And.intro trivial (hT.1 [] 6 (D + 5) 36 _ _ (hT.1 [] 6 (D + 4) 33 _ _ (And.intro (z_ixL rfl) (hT.1 [] 6 (D + 4) 33 (8, [(0, zr 17), (1, zi (m 17 12)), (2, zi (m 17 13))], [zi ((m 17 12) * (m 24 1))], (zu (zu m 28 4 (Int.tmod (wr ((m 28 4) + 1)) 13)) 17 10 ((m 17 10) - wr (wr (((m 17 12) * (m 24 1)) + ((m 17 13) * (m 24 2))))))) _ (And.intro (z_ixL rfl) (hT.1 [] 6 (D + 4) 33 (16, [(0, zr 17), (1, zi (m 17 12)), (2, zi (m 17 13))], [zi ((m 17 13) * (m 24 2)), zi ((m 17 12) * (m 24 1))], (zu (zu m 28 4 (Int.tmod (wr ((m 28 4) + 1)) 13)) 17 10 ((m 17 10) - wr (wr (((m 17 12) * (m 24 1)) + ((m 17 13) * (m 24 2))))))) _ (hT.1 [] 6 (D + 5) 36 _ _ (hT.1 [] 6 (D + 6) 37 _ _ (hT.1 [(65, [0, 1, 2])] 6 (D + 7) 128 _ _ (hT.1 [] 6 (D + 6) 46 _ _ (And.intro trivial (hT.1 [] 6 (D + 6) 46 (10, [(0, zr 72), (1, zi 1), (2, zi (wr (wr (wr (((m 17 12) * (m 24 1)) + ((m 17 13) * (m 24 2)))))))], [zi 0, zr 73], (zu (zu (zu m 28 4 (Int.tmod (wr ((m 28 4) + 1)) 13)) 17 10 ((m 17 10) - wr (wr (((m 17 12) * (m 24 1)) + ((m 17 13) * (m 24 2)))))) 72 1 2)) _ (And.intro (And.intro (z_ixL rfl) trivial) (hT.1 [] 6 (D + 6) 46 (18, [(0, zr 72), (1, zi 1), (2, zi (wr (wr (wr (((m 17 12) * (m 24 1)) + ((m 17 13) * (m 24 2)))))))], [zi (wr (wr (wr (((m 17 12) * (m 24 1)) + ((m 17 13) * (m 24 2)))))), zi 1, zr 73], (zu (zu (zu (zu m 28 4 (Int.tmod (wr ((m 28 4) + 1)) 13)) 17 10 ((m 17 10) - wr (wr (((m 17 12) * (m 24 1)) + ((m 17 13) * (m 24 2)))))) 72 1 2) 73 0 1)) _ (And.intro (And.intro (z_ixL rfl) trivial) (hT.1 [(65, [0, 1, 2])] 6 (D + 7) 128 _ _ (o4 a1 (Classical.byContradiction a4) a7 (Classical.byContradiction a10))))))))))))))))))))))))))))))))))))) (fun a8 => (hT.1 [] 6 (D + 6) 17 (11, [(0, zr 28)], [zr 28, zr 28], m) _ (And.intro trivial (hT.1 [(65, [0, 1, 2])] 6 (D + 7) 128 _ _ (And.intro (fun a11 => (hT.1 [(65, [0, 1, 2])] 6 (D + 7) 128 (135, [(0, zr 1), (1, zi (n : Int)), (2, zi (d : Int))], [zi 0, zr 72], (zu m 28 5 ((m 28 5) + 1))) _ (hT.1 [] 6 (D + 6) 37 _ _ (hT.1 [] 6 (D + 5) 36 _ _ (hT.1 [] 6 (D + 4) 33 _ _ (And.intro (z_ixL rfl) (hT.1 [] 6 (D + 4) 33 (8, [(0, zr 17), (1, zi (m 17 12)), (2, zi (m 17 13))], [zi ((m 17 12) * (m 24 1))], (zu m 28 5 ((m 28 5) + 1))) _ (And.intro (z_ixL rfl) (hT.1 [] 6 (D + 4) 33 (16, [(0, zr 17), (1, zi (m 17 12)), (2, zi (m 17 13))], [zi ((m 17 13) * (m 24 2)), zi ((m 17 12) * (m 24 1))], (zu m 28 5 ((m 28 5) + 1))) _ (hT.1 [] 6 (D + 5) 36 _ _ (hT.1 [] 6 (D + 6) 37 _ _ (And.intro trivial (hT.1 [] 6 (D + 5) 36 _ _ (hT.1 [] 6 (D + 4) 33 _ _ (And.intro (z_ixL rfl) (hT.1 [] 6 (D + 4) 33 (8, [(0, zr 17), (1, zi (m 17 12)), (2, zi (m 17 13))], [zi ((m 17 12) * (m 24 1))], (zu (zu m 28 5 ((m 28 5) + 1)) 17 10 ((m 17 10) - wr (wr (((m 17 12) * (m 24 1)) + ((m 17 13) * (m 24 2))))))) _ (And.intro (z_ixL rfl) (hT.1 [] 6 (D + 4) 33 (16, [(0, zr 17), (1, zi (m 17 12)), (2, zi (m 17 13))], [zi ((m 17 13) * (m 24 2)), zi ((m 17 12) * (m 24 1))], (zu (zu m 28 5 ((m 28 5) + 1)) 17 10 ((m 17 10) - wr (wr (((m 17 12) * (m 24 1)) + ((m 17 13) * (m 24 2))))))) _ (hT.1 [] 6 (D + 5) 36 _ _ (hT.1 [] 6 (D + 6) 37 _ _ (hT.1 [(65, [0, 1, 2])] 6 (D + 7) 128 _ _ (hT.1 [] 6 (D + 6) 46 _ _ (And.intro trivial (hT.1 [] 6 (D + 6) 46 (10, [(0, zr 72), (1, zi 0), (2, zi (wr (wr (wr (((m 17 12) * (m 24 1)) + ((m 17 13) * (m 24 2)))))))], [zi 0, zr 73], (zu (zu (zu m 28 5 ((m 28 5) + 1)) 17 10 ((m 17 10) - wr (wr (((m 17 12) * (m 24 1)) + ((m 17 13) * (m 24 2)))))) 72 1 2)) _ (And.intro (And.intro (z_ixL rfl) trivial) (hT.1 [] 6 (D + 6) 46 (18, [(0, zr 72), (1, zi 0), (2, zi (wr (wr (wr (((m 17 12) * (m 24 1)) + ((m 17 13) * (m 24 2)))))))], [zi (wr (wr (wr (((m 17 12) * (m 24 1)) + ((m 17 13) * (m 24 2)))))), zi 1, zr 73], (zu (zu (zu (zu m 28 5 ((m 28 5) + 1)) 17 10 ((m 17 10) - wr (wr (((m 17 12) * (m 24 1)) + ((m 17 13) * (m 24 2)))))) 72 1 2) 73 0 0)) _ (And.intro (And.intro (z_ixL rfl) trivial) (hT.1 [(65, [0, 1, 2])] 6 (D + 7) 128 _ _ (o5 a1 (Classical.byContradiction a4) (Classical.byContradiction a8) a11))))))))))))))))))))))))))))) (fun a12 => (hT.1 [(65, [0, 1, 2])] 6 (D + 7) 128 (131, [(0, zr 1), (1, zi (n : Int)), (2, zi (d : Int))], [zi 1, zr 72], (zu m 28 5 ((m 28 5) + 1))) _ (hT.1 [] 6 (D + 6) 37 _ _ (hT.1 [] 6 (D + 5) 36 _ _ (hT.1 [] 6 (D + 4) 33 _ _ (And.intro (z_ixL rfl) (hT.1 [] 6 (D + 4) 33 (8, [(0, zr 17), (1, zi (m 17 12)), (2, zi (m 17 13))], [zi ((m 17 12) * (m 24 1))], (zu m 28 5 ((m 28 5) + 1))) _ (And.intro (z_ixL rfl) (hT.1 [] 6 (D + 4) 33 (16, [(0, zr 17), (1, zi (m 17 12)), (2, zi (m 17 13))], [zi ((m 17 13) * (m 24 2)), zi ((m 17 12) * (m 24 1))], (zu m 28 5 ((m 28 5) + 1))) _ (hT.1 [] 6 (D + 5) 36 _ _ (hT.1 [] 6 (D + 6) 37 _ _ (And.intro trivial (hT.1 [] 6 (D + 5) 36 _ _ (hT.1 [] 6 (D + 4) 33 _ _ (And.intro (z_ixL rfl) (hT.1 [] 6 (D + 4) 33 (8, [(0, zr 17), (1, zi (m 17 12)), (2, zi (m 17 13))], [zi ((m 17 12) * (m 24 1))], (zu (zu m 28 5 ((m 28 5) + 1)) 17 10 ((m 17 10) - wr (wr (((m 17 12) * (m 24 1)) + ((m 17 13) * (m 24 2))))))) _ (And.intro (z_ixL rfl) (hT.1 [] 6 (D + 4) 33 (16, [(0, zr 17), (1, zi (m 17 12)), (2, zi (m 17 13))], [zi ((m 17 13) * (m 24 2)), zi ((m 17 12) * (m 24 1))], (zu (zu m 28 5 ((m 28 5) + 1)) 17 10 ((m 17 10) - wr (wr (((m 17 12) * (m 24 1)) + ((m 17 13) * (m 24 2))))))) _ (hT.1 [] 6 (D + 5) 36 _ _ (hT.1 [] 6 (D + 6) 37 _ _ (hT.1 [(65, [0, 1, 2])] 6 (D + 7) 128 _ _ (hT.1 [] 6 (D + 6) 46 _ _ (And.intro trivial (hT.1 [] 6 (D + 6) 46 (10, [(0, zr 72), (1, zi 1), (2, zi (wr (wr (wr (((m 17 12) * (m 24 1)) + ((m 17 13) * (m 24 2)))))))], [zi 0, zr 73], (zu (zu (zu m 28 5 ((m 28 5) + 1)) 17 10 ((m 17 10) - wr (wr (((m 17 12) * (m 24 1)) + ((m 17 13) * (m 24 2)))))) 72 1 2)) _ (And.intro (And.intro (z_ixL rfl) trivial) (hT.1 [] 6 (D + 6) 46 (18, [(0, zr 72), (1, zi 1), (2, zi (wr (wr (wr (((m 17 12) * (m 24 1)) + ((m 17 13) * (m 24 2)))))))], [zi (wr (wr (wr (((m 17 12) * (m 24 1)) + ((m 17 13) * (m 24 2)))))), zi 1, zr 73], (zu (zu (zu (zu m 28 5 ((m 28 5) + 1)) 17 10 ((m 17 10) - wr (wr (((m 17 12) * (m 24 1)) + ((m 17 13) * (m 24 2)))))) 72 1 2) 73 0 1)) _ (And.intro (And.intro (z_ixL rfl) trivial) (hT.1 [(65, [0, 1, 2])] 6 (D + 7) 128 _ _ (o6 a1 (Classical.byContradiction a4) (Classical.byContradiction a8) (Classical.byContradiction a12)))))))))))))))))))))))))))))))))))))))) (fun a2 => (o7 a2))))
theorem zb128_101 (hT : zRules T) {D : Nat} {κ : Option zA → zM → Prop} {m : zM} {n : Nat} {d : Nat} {v : Int} {lo : zL} (hlo : z_keep [0, 1, 2] lo = [(0, zr 1), (1, zi (n : Int)), (2, zi (d : Int))])  (hB : zB m) (h_n : n ≤ 30) (h_d : d ≤ 29) (h_v : 0 ≤ v ∧ v ≤ 1) 
    (k1 : v = 0 → ¬ 0 < (d : Int) → ¬ (d : Int) < (n : Int) → zB (zu (zu (zu (zu m 17 10 ((m 17 10) - wr (((m 17 12) * (m 24 1)) + ((m 17 13) * (m 24 2))))) 72 1 2) 73 0 0) 73 1 (wr (((m 17 12) * (m 24 1)) + ((m 17 13) * (m 24 2))))) → κ (some (zi (d : Int))) (zu (zu (zu (zu m 17 10 ((m 17 10) - wr (((m 17 12) * (m 24 1)) + ((m 17 13) * (m 24 2))))) 72 1 2) 73 0 0) 73 1 (wr (((m 17 12) * (m 24 1)) + ((m 17 13) * (m 24 2))))))
    (k2 : v = 0 → ¬ 0 < (d : Int) → (d : Int) < (n : Int) → zB (zu (zu (zu (zu m 17 10 ((m 17 10) - wr (((m 17 12) * (m 24 1)) + ((m 17 13) * (m 24 2))))) 72 1 2) 73 0 1) 73 1 (wr (((m 17 12) * (m 24 1)) + ((m 17 13) * (m 24 2))))) → κ (some (zi (d : Int))) (zu (zu (zu (zu m 17 10 ((m 17 10) - wr (((m 17 12) * (m 24 1)) + ((m 17 13) * (m 24 2))))) 72 1 2) 73 0 1) 73 1 (wr (((m 17 12) * (m 24 1)) + ((m 17 13) * (m 24 2))))))
    (k3 : v = 0 → 0 < (d : Int) → ¬ (m 28 5) < 12 → ¬ (d : Int) < (n : Int) → zB (zu (zu (zu (zu (zu m 28 4 (Int.tmod ((m 28 4) + 1) 13)) 17 10 ((m 17 10) - wr (((m 17 12) * (m 24 1)) + ((m 17 13) * (m 24 2))))) 72 1 2) 73 0 0) 73 1 (wr (((m 17 12) * (m 24 1)) + ((m 17 13) * (m 24 2))))) → κ (some (zi (d : Int))) (zu (zu (zu (zu (zu m 28 4 (Int.tmod ((m 28 4) + 1) 13)) 17 10 ((m 17 10) - wr (((m 17 12) * (m 24 1)) + ((m 17 13) * (m 24 2))))) 72 1 2) 73 0 0) 73 1 (wr (((m 17 12) * (m 24 1)) + ((m 17 13) * (m 24 2))))))
    (k4 : v = 0 → 0 < (d : Int) → ¬ (m 28 5) < 12 → (d : Int) < (n : Int) → zB (zu (zu (zu (zu (zu m 28 4 (Int.tmod ((m 28 4) + 1) 13)) 17 10 ((m 17 10) - wr (((m 17 12) * (m 24 1)) + ((m 17 13) * (m 24 2))))) 72 1 2) 73 0 1) 73 1 (wr (((m 17 12) * (m 24 1)) + ((m 17 13) * (m 24 2))))) → κ (some (zi (d : Int))) (zu (zu (zu (zu (zu m 28 4 (Int.tmod ((m 28 4) + 1) 13)) 17 10 ((m 17 10) - wr (((m 17 12) * (m 24 1)) + ((m 17 13) * (m 24 2))))) 72 1 2) 73 0 1) 73 1 (wr (((m 17 12) * (m 24 1)) + ((m 17 13) * (m 24 2))))))
    (k5 : v = 0 → 0 < (d : Int) → (m 28 5) < 12 → ¬ (d : Int) < (n : Int) → zB (zu (zu (zu (zu (zu m 28 5 ((m 28 5) + 1)) 17 10 ((m 17 10) - wr (((m 17 12) * (m 24 1)) + ((m 17 13) * (m 24 2))))) 72 1 2) 73 0 0) 73 1 (wr (((m 17 12) * (m 24 1)) + ((m 17 13) * (m 24 2))))) → κ (some (zi (d : Int))) (zu (zu (zu (zu (zu m 28 5 ((m 28 5) + 1)) 17 10 ((m 17 10) - wr (((m 17 12) * (m 24 1)) + ((m 17 13) * (m 24 2))))) 72 1 2) 73 0 0) 73 1 (wr (((m 17 12) * (m 24 1)) + ((m 17 13) * (m 24 2))))))
    (k6 : v = 0 → 0 < (d : Int) → (m 28 5) < 12 → (d : Int) < (n : Int) → zB (zu (zu (zu (zu (zu m 28 5 ((m 28 5) + 1)) 17 10 ((m 17 10) - wr (((m 17 12) * (m 24 1)) + ((m 17 13) * (m 24 2))))) 72 1 2) 73 0 1) 73 1 (wr (((m 17 12) * (m 24 1)) + ((m 17 13) * (m 24 2))))) → κ (some (zi (d : Int))) (zu (zu (zu (zu (zu m 28 5 ((m 28 5) + 1)) 17 10 ((m 17 10) - wr (((m 17 12) * (m 24 1)) + ((m 17 13) * (m 24 2))))) 72 1 2) 73 0 1) 73 1 (wr (((m 17 12) * (m 24 1)) + ((m 17 13) * (m 24 2))))))
    (k7 : ¬ v = 0 → T (D + 7) 128 (65, [(0, zr 1), (1, zi (n : Int)), (2, zi ((d : Int) + 1))], [], m) κ) :
    T (D + 7) 128 (101, lo, [zi v], m) κ := by
  have hb3 : 0 ≤ (m 28 5) ∧ (m 28 5) ≤ 12 := hB 28 5
  have hb4 : 0 ≤ (m 24 1) ∧ (m 24 1) ≤ 9 := hB 24 1
  have hb5 : 0 ≤ (m 24 2) ∧ (m 24 2) ≤ 9 := hB 24 2
  have hb6 : (-2147483648) ≤ wr (((m 17 12) * (m 24 1)) + ((m 17 13) * (m 24 2))) ∧ wr (((m 17 12) * (m 24 1)) + ((m 17 13) * (m 24 2))) ≤ 2147483647 := wrB (((m 17 12) * (m 24 1)) + ((m 17 13) * (m 24 2)))
  have hb7 : 0 ≤ (m 28 4) ∧ (m 28 4) ≤ 12 := hB 28 4
  have hb8 : 0 ≤ (Int.tmod ((m 28 4) + 1) 13) ∧ (Int.tmod ((m 28 4) + 1) 13) ≤ 12 := z_tmodB ((m 28 4) + 1) 13 12 (by omega) (by omega) (by omega)
  have he0 : wr v = v := wr_id (by omega) (by omega)
  have he1 : wr (d : Int) = (d : Int) := wr_id (by omega) (by omega)
  have he2 : wr (m 28 5) = (m 28 5) := wr_id (by omega) (by omega)
  have he3 : wr (n : Int) = (n : Int) := wr_id (by omega) (by omega)
  have he4 : wr (wr (((m 17 12) * (m 24 1)) + ((m 17 13) * (m 24 2)))) = wr (((m 17 12) * (m 24 1)) + ((m 17 13) * (m 24 2))) := wr_id (by omega) (by omega)
  have he5 : wr ((m 28 4) + 1) = ((m 28 4) + 1) := wr_id (by omega) (by omega)
  have key := @zb128_101r T hT D κ m n d v lo hlo
  simp only [he0, he1, he2, he3, he4, he5, Int.toNat_natCast] at key
  exact key
    (fun x0 x1 x2 => k1 x0 x1 x2 (zB_u (zB_u (zB_u (zB_u hB trivial) (show 0 ≤ 2 ∧ 2 ≤ 26 from ⟨by omega, by omega⟩)) trivial) trivial))
    (fun x0 x1 x2 => k2 x0 x1 x2 (zB_u (zB_u (zB_u (zB_u hB trivial) (show 0 ≤ 2 ∧ 2 ≤ 26 from ⟨by omega, by omega⟩)) trivial) trivial))
    (fun x0 x1 x2 x3 => k3 x0 x1 x2 x3 (zB_u (zB_u (zB_u (zB_u (zB_u hB (show 0 ≤ (Int.tmod ((m 28 4) + 1) 13) ∧ (Int.tmod ((m 28 4) + 1) 13) ≤ 12 from ⟨by omega, by omega⟩)) trivial) (show 0 ≤ 2 ∧ 2 ≤ 26 from ⟨by omega, by omega⟩)) trivial) trivial))
    (fun x0 x1 x2 x3 => k4 x0 x1 x2 x3 (zB_u (zB_u (zB_u (zB_u (zB_u hB (show 0 ≤ (Int.tmod ((m 28 4) + 1) 13) ∧ (Int.tmod ((m 28 4) + 1) 13) ≤ 12 from ⟨by omega, by omega⟩)) trivial) (show 0 ≤ 2 ∧ 2 ≤ 26 from ⟨by omega, by omega⟩)) trivial) trivial))
    (fun x0 x1 x2 x3 => k5 x0 x1 x2 x3 (zB_u (zB_u (zB_u (zB_u (zB_u hB (show 0 ≤ ((m 28 5) + 1) ∧ ((m 28 5) + 1) ≤ 12 from ⟨by omega, by omega⟩)) trivial) (show 0 ≤ 2 ∧ 2 ≤ 26 from ⟨by omega, by omega⟩)) trivial) trivial))
    (fun x0 x1 x2 x3 => k6 x0 x1 x2 x3 (zB_u (zB_u (zB_u (zB_u (zB_u hB (show 0 ≤ ((m 28 5) + 1) ∧ ((m 28 5) + 1) ≤ 12 from ⟨by omega, by omega⟩)) trivial) (show 0 ≤ 2 ∧ 2 ≤ 26 from ⟨by omega, by omega⟩)) trivial) trivial))
    k7
theorem zb176_0kr (hT : zRules T) {D : Nat} {κ : Option zA → zM → Prop} {m : zM} {f : Nat} {g : Int} 
    (o1 : T (D + 5) 175 (0, [(0, zr 1), (1, zi (f : Int))], [], m) (fun r m1 => T (D + 6) 176 (41, [(0, zr 1), (1, zi 107), (2, zi (f : Int)), (3, zi g)], r.toList ++ [], m1) κ)) :
    T (D + 6) 176 (0, [(0, zr 1), (1, zi 107), (2, zi (f : Int)), (3, zi g)], [], m) κ :=
  hT.1 [] 6 (D + 6) 176 _ κ (And.intro (fun a1 => (z_neqL a1 rfl).elim) (fun _ => (And.intro (fun _ => (o1)) (fun a2 => (a2 (z_eqL rfl)).elim))))
theorem zb176_0k (hT : zRules T) {D : Nat} {κ : Option zA → zM → Prop} {m : zM} {f : Nat} {g : Int}  (hB : zB m) (h_f : f ≤ 9) 
    (k1 : T (D + 5) 175 (0, [(0, zr 1), (1, zi (f : Int))], [], m) (fun r m1 => T (D + 6) 176 (41, [(0, zr 1), (1, zi 107), (2, zi (f : Int)), (3, zi g)], r.toList ++ [], m1) κ)) :
    T (D + 6) 176 (0, [(0, zr 1), (1, zi 107), (2, zi (f : Int)), (3, zi g)], [], m) κ := by
  exact zb176_0kr hT
    k1
theorem zb176_0wr (hT : zRules T) {D : Nat} {κ : Option zA → zM → Prop} {m : zM} {f : Nat} {g : Int} 
    (o1 : T (D + 5) 30 (0, [(0, zr 17), (1, zi (f : Int)), (2, zi g)], [], m) (fun r m1 => T (D + 6) 176 (52, [(0, zr 1), (1, zi 119), (2, zi (f : Int)), (3, zi g)], r.toList ++ [], m1) κ)) :
    T (D + 6) 176 (0, [(0, zr 1), (1, zi 119), (2, zi (f : Int)), (3, zi g)], [], m) κ :=
  hT.1 [] 6 (D + 6) 176 _ κ (And.intro (fun a1 => (z_neqL a1 rfl).elim) (fun _ => (And.intro (fun a2 => (z_neqL a2 rfl).elim) (fun _ => (And.intro (fun _ => (hT.1 [] 6 (D + 6) 176 (49, [(0, zr 1), (1, zi 119), (2, zi (f : Int)), (3, zi g)], [zi g, zi (f : Int), zr 17], m) _ (o1))) (fun a3 => (a3 (z_eqL rfl)).elim))))))
theorem zb176_0w (hT : zRules T) {D : Nat} {κ : Option zA → zM → Prop} {m : zM} {f : Nat} {g : Int}  (hB : zB m) (h_f : f ≤ 9) (h_g : (-1) ≤ g ∧ g ≤ 9) 
    (k1 : T (D + 5) 30 (0, [(0, zr 17), (1, zi (f : Int)), (2, zi g)], [], m) (fun r m1 => T (D + 6) 176 (52, [(0, zr 1), (1, zi 119), (2, zi (f : Int)), (3, zi g)], r.toList ++ [], m1) κ)) :
    T (D + 6) 176 (0, [(0, zr 1), (1, zi 119), (2, zi (f : Int)), (3, zi g)], [], m) κ := by
  exact zb176_0wr hT
    k1
theorem zb176_0gr (hT : zRules T) {D : Nat} {κ : Option zA → zM → Prop} {m : zM} {f : Nat} {g : Int} 
    (o1 : wr (f : Int) < 0 → False)
    (o2 : ¬ wr (f : Int) < 0 → ¬ wr (f : Int) < wr (m 17 0) → κ (some (zi 0)) m)
    (o3 : ¬ wr (f : Int) < 0 → wr (f : Int) < wr (m 17 0) → (0 ≤ wr (f : Int) ∧ wr (f : Int) < 6))
    (o4 : ¬ wr (f : Int) < 0 → wr (f : Int) < wr (m 17 0) → κ (some (zi 1)) (zu m 19 ((wr (f : Int)).toNat) g)) :
    T (D + 6) 176 (0, [(0, zr 1), (1, zi 103), (2, zi (f : Int)), (3, zi g)], [], m) κ :=
  hT.1 [] 6 (D + 6) 176 _ κ (And.intro (fun _ => (hT.1 [] 6 (D + 5) 25 _ _ (And.intro (fun a2 => (o1 a2).elim) (fun a3 => (And.intro (fun a4 => (hT.1 [] 6 (D + 5) 25 (16, [(0, zr 17), (1, zi (f : Int))], [], m) _ (And.intro (z_b01L rfl) (hT.1 [] 6 (D + 6) 176 _ _ (And.intro (fun a6 => (z_litF a6 rfl).elim) (fun _ => (And.intro (z_b01L rfl) (o2 a3 a4)))))))) (fun a5 => (hT.1 [] 6 (D + 5) 25 (12, [(0, zr 17), (1, zi (f : Int))], [], m) _ (And.intro (z_b01L rfl) (hT.1 [] 6 (D + 6) 176 _ _ (And.intro (fun _ => (hT.1 [] 6 (D + 6) 176 (91, [(0, zr 1), (1, zi 103), (2, zi (f : Int)), (3, zi g)], [zi g, zi (f : Int), zr 19], m) _ (And.intro (And.intro (o3 a3 (Classical.byContradiction a5)) trivial) (And.intro (z_b01L rfl) (o4 a3 (Classical.byContradiction a5)))))) (fun a7 => (a7 (z_litT rfl)).elim))))))))))) (fun a1 => (a1 (z_eqL rfl)).elim))
theorem zb176_0g (hT : zRules T) {D : Nat} {κ : Option zA → zM → Prop} {m : zM} {f : Nat} {g : Int}  (hB : zB m) (h_f : f ≤ 9) (h_g : 0 ≤ g ∧ g ≤ 3) 
    (k1 : ¬ (f : Int) < (m 17 0) → κ (some (zi 0)) m)
    (k2 : (f : Int) < (m 17 0) → zB (zu m 19 f g) → κ (some (zi 1)) (zu m 19 f g)) :
    T (D + 6) 176 (0, [(0, zr 1), (1, zi 103), (2, zi (f : Int)), (3, zi g)], [], m) κ := by
  have hb2 : 0 ≤ (m 17 0) ∧ (m 17 0) ≤ 6 := hB 17 0
  have he0 : wr (f : Int) = (f : Int) := wr_id (by omega) (by omega)
  have he1 : wr (m 17 0) = (m 17 0) := wr_id (by omega) (by omega)
  have he2 : (f : Int).toNat = f := by omega
  have key := @zb176_0gr T hT D κ m f g
  simp only [he0, he1, he2, Int.toNat_natCast] at key
  exact key
    (fun x0 => by omega)
    (fun x0 x1 => k1 x1)
    (fun x0 x1 => by refine ⟨?_, ?_⟩ <;> omega)
    (fun x0 x1 => k2 x1 (zB_u hB (show (-1) ≤ g ∧ g ≤ 3 from ⟨by omega, by omega⟩)))
theorem zb176_0mr (hT : zRules T) {D : Nat} {κ : Option zA → zM → Prop} {m : zM} {f : Nat} {g : Int} 
    (o1 : wr (f : Int) < 0 → False)
    (o2 : ¬ wr (f : Int) < 0 → ¬ wr (f : Int) < wr (m 17 1) → κ (some (zi 0)) m)
    (o3 : ¬ wr (f : Int) < 0 → wr (f : Int) < wr (m 17 1) → T (D + 5) 38 (0, [(0, zr 17), (1, zi (f : Int)), (2, zi g)], [], m) (fun r m1 => T (D + 6) 176 (116, [(0, zr 1), (1, zi 109), (2, zi (f : Int)), (3, zi g)], r.toList ++ [], m1) κ)) :
    T (D + 6) 176 (0, [(0, zr 1), (1, zi 109), (2, zi (f : Int)), (3, zi g)], [], m) κ :=
  hT.1 [] 6 (D + 6) 176 _ κ (And.intro (fun a1 => (z_neqL a1 rfl).elim) (fun _ => (And.intro (fun a2 => (z_neqL a2 rfl).elim) (fun _ => (And.intro (fun a3 => (z_neqL a3 rfl).elim) (fun _ => (hT.1 [] 6 (D + 5) 26 _ _ (And.intro (fun a4 => (o1 a4).elim) (fun a5 => (And.intro (fun a6 => (hT.1 [] 6 (D + 5) 26 (16, [(0, zr 17), (1, zi (f : Int))], [], m) _ (And.intro (z_b01L rfl) (hT.1 [] 6 (D + 6) 176 _ _ (And.intro (fun a8 => (z_litF a8 rfl).elim) (fun _ => (And.intro (z_b01L rfl) (o2 a5 a6)))))))) (fun a7 => (hT.1 [] 6 (D + 5) 26 (12, [(0, zr 17), (1, zi (f : Int))], [], m) _ (And.intro (z_b01L rfl) (hT.1 [] 6 (D + 6) 176 _ _ (And.intro (fun _ => (o3 a5 (Classical.byContradiction a7))) (fun a9 => (a9 (z_litT rfl)).elim))))))))))))))))
theorem zb176_0m (hT : zRules T) {D : Nat} {κ : Option zA → zM → Prop} {m : zM} {f : Nat} {g : Int}  (hB : zB m) (h_f : f ≤ 9) (h_g : 0 ≤ g ∧ g ≤ 99) 
    (k1 : ¬ (f : Int) < (m 17 1) → κ (some (zi 0)) m)
    (k2 : (f : Int) < (m 17 1) → T (D + 5) 38 (0, [(0, zr 17), (1, zi (f : Int)), (2, zi g)], [], m) (fun r m1 => T (D + 6) 176 (116, [(0, zr 1), (1, zi 109), (2, zi (f : Int)), (3, zi g)], r.toList ++ [], m1) κ)) :
    T (D + 6) 176 (0, [(0, zr 1), (1, zi 109), (2, zi (f : Int)), (3, zi g)], [], m) κ := by
  have hb2 : 0 ≤ (m 17 1) ∧ (m 17 1) ≤ 8 := hB 17 1
  have he0 : wr (f : Int) = (f : Int) := wr_id (by omega) (by omega)
  have he1 : wr (m 17 1) = (m 17 1) := wr_id (by omega) (by omega)
  have key := @zb176_0mr T hT D κ m f g
  simp only [he0, he1, Int.toNat_natCast] at key
  exact key
    (fun x0 => by omega)
    (fun x0 x1 => k1 x1)
    (fun x0 x1 => k2 x1)
theorem zb176_41r (hT : zRules T) {D : Nat} {κ : Option zA → zM → Prop} {m : zM} {lo : zL} (hlo : z_keep [] lo = []) 
    (o1 : κ (some (zi 1)) m) :
    T (D + 6) 176 (41, lo, [], m) κ :=
  zkeep hT hlo (hT.1 [] 6 (D + 6) 176 _ κ (And.intro (z_b01L rfl) (o1)))
theorem zb176_41 (hT : zRules T) {D : Nat} {κ : Option zA → zM → Prop} {m : zM} {lo : zL} (hlo : z_keep [] lo = [])  
    (k1 : κ (some (zi 1)) m) :
    T (D + 6) 176 (41, lo, [], m) κ := by
  exact zb176_41r hT hlo
    k1
theorem zb176_52ar (hT : zRules T) {D : Nat} {κ : Option zA → zM → Prop} {m : zM} {f : Nat} {g : Int} {lo : zL} (hlo : z_keep [0, 2, 3] lo = [(0, zr 1), (2, zi (f : Int)), (3, zi g)]) 
    (o1 : (0 ≤ wr (f : Int) ∧ wr (f : Int) < 6))
    (o2 : κ (some (zi 1)) (zu m 20 ((wr (f : Int)).toNat) g)) :
    T (D + 6) 176 (52, lo, [zi 0], m) κ :=
  zkeep hT hlo (hT.1 [] 6 (D + 6) 176 _ κ (And.intro (fun _ => (hT.1 [] 6 (D + 6) 176 (66, [(0, zr 1), (2, zi (f : Int)), (3, zi g)], [zi g, zi (f : Int), zr 20], m) _ (And.intro (And.intro (o1) trivial) (And.intro (z_b01L rfl) (o2))))) (fun a1 => (a1 (z_litT rfl)).elim)))
theorem zb176_52a (hT : zRules T) {D : Nat} {κ : Option zA → zM → Prop} {m : zM} {f : Nat} {g : Int} {lo : zL} (hlo : z_keep [0, 2, 3] lo = [(0, zr 1), (2, zi (f : Int)), (3, zi g)])  (hB : zB m) (h_f : f ≤ 5) (h_g : (-1) ≤ g ∧ g ≤ 7) 
    (k1 : zB (zu m 20 f g) → κ (some (zi 1)) (zu m 20 f g)) :
    T (D + 6) 176 (52, lo, [zi 0], m) κ := by
  have he0 : wr (f : Int) = (f : Int) := wr_id (by omega) (by omega)
  have he1 : (f : Int).toNat = f := by omega
  have key := @zb176_52ar T hT D κ m f g lo hlo
  simp only [he0, he1, Int.toNat_natCast] at key
  exact key
    (by refine ⟨?_, ?_⟩ <;> omega)
    (k1  (zB_u hB (show (-1) ≤ g ∧ g ≤ 7 from ⟨by omega, by omega⟩)))
theorem zb176_52br (hT : zRules T) {D : Nat} {κ : Option zA → zM → Prop} {m : zM} {f : Nat} {g : Int} {v : Int} {lo : zL} (hlo : z_keep [0, 2, 3] lo = [(0, zr 1), (2, zi (f : Int)), (3, zi g)]) 
    (o1 : wr v = 0 → False)
    (o2 : ¬ wr v = 0 → κ (some (zi 0)) m) :
    T (D + 6) 176 (52, lo, [zi v], m) κ :=
  zkeep hT hlo (hT.1 [] 6 (D + 6) 176 _ κ (And.intro (fun a1 => (o1 a1).elim) (fun a2 => (And.intro (z_b01L rfl) (o2 a2)))))
theorem zb176_52b (hT : zRules T) {D : Nat} {κ : Option zA → zM → Prop} {m : zM} {f : Nat} {g : Int} {v : Int} {lo : zL} (hlo : z_keep [0, 2, 3] lo = [(0, zr 1), (2, zi (f : Int)), (3, zi g)])  (hB : zB m) (h_f : f ≤ 9) (h_g : (-1) ≤ g ∧ g ≤ 9) (h_v : (-3) ≤ v ∧ v ≤ (-1)) 
    (k1 : κ (some (zi 0)) m) :
    T (D + 6) 176 (52, lo, [zi v], m) κ := by
  have he0 : wr v = v := wr_id (by omega) (by omega)
  have key := @zb176_52br T hT D κ m f g v lo hlo
  simp only [he0, Int.toNat_natCast] at key
  exact key
    (fun x0 => by omega)
    (fun x0 => k1 )
theorem zb176_116r (hT : zRules T) {D : Nat} {κ : Option zA → zM → Prop} {m : zM} {lo : zL} (hlo : z_keep [] lo = []) 
    (o1 : κ (some (zi 1)) m) :
    T (D + 6) 176 (116, lo, [], m) κ :=
  zkeep hT hlo (hT.1 [] 6 (D + 6) 176 _ κ (And.intro (z_b01L rfl) (o1)))
theorem zb176_116 (hT : zRules T) {D : Nat} {κ : Option zA → zM → Prop} {m : zM} {lo : zL} (hlo : z_keep [] lo = [])  
    (k1 : κ (some (zi 1)) m) :
    T (D + 6) 176 (116, lo, [], m) κ := by
  exact zb176_116r hT hlo
    k1
theorem zb240_0r (hT : zRules T) {D : Nat} {κ : Option zA → zM → Prop} {m : zM} {k : Nat} 
    (o1 : (0 ≤ wr ((k : Int) + 1) ∧ wr ((k : Int) + 1) < 240))
    (o2 : (0 ≤ wr ((k : Int) + 2) ∧ wr ((k : Int) + 2) < 240))
    (o3 : (0 ≤ wr (k : Int) ∧ wr (k : Int) < 240))
    (o4 : wr (m 89 ((wr (k : Int)).toNat)) = 103 → wr (m 89 ((wr ((k : Int) + 1)).toNat)) < 0 → κ (some (zi 0)) m)
    (o5 : wr (m 89 ((wr (k : Int)).toNat)) = 103 → ¬ wr (m 89 ((wr ((k : Int) + 1)).toNat)) < 0 → wr ((m 74 4) - 1) < wr (m 89 ((wr ((k : Int) + 1)).toNat)) → κ (some (zi 0)) m)
    (o6 : wr (m 89 ((wr (k : Int)).toNat)) = 103 → ¬ wr (m 89 ((wr ((k : Int) + 1)).toNat)) < 0 → ¬ wr ((m 74 4) - 1) < wr (m 89 ((wr ((k : Int) + 1)).toNat)) → (0 ≤ wr (m 89 ((wr ((k : Int) + 1)).toNat)) ∧ wr (m 89 ((wr ((k : Int) + 1)).toNat)) < 59))
    (o7 : wr (m 89 ((wr (k : Int)).toNat)) = 103 → ¬ wr (m 89 ((wr ((k : Int) + 1)).toNat)) < 0 → ¬ wr ((m 74 4) - 1) < wr (m 89 ((wr ((k : Int) + 1)).toNat)) → κ (some (zi 1)) (zu m 75 ((wr (m 89 ((wr ((k : Int) + 1)).toNat))).toNat) (m 89 ((wr ((k : Int) + 2)).toNat))))
    (o8 : ¬ wr (m 89 ((wr (k : Int)).toNat)) = 103 → wr (m 89 ((wr (k : Int)).toNat)) = 107 → T (D + 4) 240 (63, [(0, zr 74), (2, zi (m 89 ((wr ((k : Int) + 1)).toNat))), (4, zi 0)], [], m) κ)
    (o9 : ¬ wr (m 89 ((wr (k : Int)).toNat)) = 103 → ¬ wr (m 89 ((wr (k : Int)).toNat)) = 107 → wr (m 89 ((wr (k : Int)).toNat)) = 119 → T (D + 3) 230 (0, [(0, zr 74), (1, zi (m 89 ((wr ((k : Int) + 1)).toNat))), (2, zi (m 89 ((wr ((k : Int) + 2)).toNat)))], [], m) (fun r m1 => T (D + 4) 240 (91, [(0, zr 74), (1, zi (k : Int)), (2, zi (m 89 ((wr ((k : Int) + 1)).toNat))), (3, zi (m 89 ((wr ((k : Int) + 2)).toNat)))], r.toList ++ [], m1) κ))
    (o10 : ¬ wr (m 89 ((wr (k : Int)).toNat)) = 103 → ¬ wr (m 89 ((wr (k : Int)).toNat)) = 107 → ¬ wr (m 89 ((wr (k : Int)).toNat)) = 119 → wr (m 89 ((wr ((k : Int) + 1)).toNat)) < 0 → κ (some (zi 0)) m)
    (o11 : ¬ wr (m 89 ((wr (k : Int)).toNat)) = 103 → ¬ wr (m 89 ((wr (k : Int)).toNat)) = 107 → ¬ wr (m 89 ((wr (k : Int)).toNat)) = 119 → ¬ wr (m 89 ((wr ((k : Int) + 1)).toNat)) < 0 → wr ((m 74 6) - 1) < wr (m 89 ((wr ((k : Int) + 1)).toNat)) → κ (some (zi 0)) m)
    (o12 : ¬ wr (m 89 ((wr (k : Int)).toNat)) = 103 → ¬ wr (m 89 ((wr (k : Int)).toNat)) = 107 → ¬ wr (m 89 ((wr (k : Int)).toNat)) = 119 → ¬ wr (m 89 ((wr ((k : Int) + 1)).toNat)) < 0 → ¬ wr ((m 74 6) - 1) < wr (m 89 ((wr ((k : Int) + 1)).toNat)) → T (D + 3) 226 (0, [(0, zr 74), (1, zr 75), (2, zi (m 89 ((wr ((k : Int) + 1)).toNat))), (3, zi (m 89 ((wr ((k : Int) + 2)).toNat)))], [], m) (fun r m1 => T (D + 4) 240 (147, [(0, zr 74), (1, zi (k : Int)), (2, zi (m 89 ((wr ((k : Int) + 1)).toNat))), (3, zi (m 89 ((wr ((k : Int) + 2)).toNat)))], r.toList ++ [], m1) κ)) :
    T (D + 4) 240 (0, [(0, zr 74), (1, zi (k : Int))], [], m) κ :=
  hT.1 [(63, [0, 2, 4])] 6 (D + 4) 240 _ κ (And.intro (o1) (hT.1 [(63, [0, 2, 4])] 6 (D + 4) 240 (8, [(0, zr 74), (1, zi (k : Int))], [zi (m 89 ((wr ((k : Int) + 1)).toNat))], m) _ (hT.1 [(63, [0, 2, 4])] 6 (D + 4) 240 (16, [(0, zr 74), (1, zi (k : Int)), (2, zi (m 89 ((wr ((k : Int) + 1)).toNat)))], [zi ((k : Int) + 2), zr 89], m) _ (And.intro (o2) (And.intro (o3) (hT.1 [(63, [0, 2, 4])] 6 (D + 4) 240 (24, [(0, zr 74), (1, zi (k : Int)), (2, zi (m 89 ((wr ((k : Int) + 1)).toNat))), (3, zi (m 89 ((wr ((k : Int) + 2)).toNat)))], [zi (m 89 ((wr (k : Int)).toNat))], m) _ (And.intro (fun a1 => (hT.1 [] 6 (D + 3) 190 _ _ (hT.1 [] 6 (D + 3) 190 (8, [(0, zr 74), (1, zi (m 89 ((wr ((k : Int) + 1)).toNat)))], [zi ((m 74 4) - 1), zi 0, zi (m 89 ((wr ((k : Int) + 1)).toNat))], m) _ (hT.1 [] 6 (D + 2) 186 _ _ (And.intro (fun a3 => (And.intro (z_b01L rfl) (hT.1 [] 6 (D + 3) 190 _ _ (And.intro (z_b01L rfl) (hT.1 [(63, [0, 2, 4])] 6 (D + 4) 240 _ _ (And.intro (fun a5 => (z_litF a5 rfl).elim) (fun _ => (And.intro (z_b01L rfl) (o4 a1 a3))))))))) (fun a4 => (And.intro (fun a6 => (hT.1 [] 6 (D + 2) 186 (14, [(0, zi (m 89 ((wr ((k : Int) + 1)).toNat))), (1, zi 0), (2, zi ((m 74 4) - 1))], [], m) _ (And.intro (z_b01L rfl) (hT.1 [] 6 (D + 3) 190 _ _ (And.intro (z_b01L rfl) (hT.1 [(63, [0, 2, 4])] 6 (D + 4) 240 _ _ (And.intro (fun a8 => (z_litF a8 rfl).elim) (fun _ => (And.intro (z_b01L rfl) (o5 a1 a4 a6)))))))))) (fun a7 => (hT.1 [] 6 (D + 2) 186 (10, [(0, zi (m 89 ((wr ((k : Int) + 1)).toNat))), (1, zi 0), (2, zi ((m 74 4) - 1))], [], m) _ (And.intro (z_b01L rfl) (hT.1 [] 6 (D + 3) 190 _ _ (And.intro (z_b01L rfl) (hT.1 [(63, [0, 2, 4])] 6 (D + 4) 240 _ _ (And.intro (fun _ => (And.intro (And.intro (o6 a1 a4 a7) trivial) (hT.1 [(63, [0, 2, 4])] 6 (D + 4) 240 (125, [(0, zr 74), (1, zi (k : Int)), (2, zi (m 89 ((wr ((k : Int) + 1)).toNat))), (3, zi (m 89 ((wr ((k : Int) + 2)).toNat)))], [], (zu m 75 ((wr (m 89 ((wr ((k : Int) + 1)).toNat))).toNat) (m 89 ((wr ((k : Int) + 2)).toNat)))) _ (And.intro (z_b01L rfl) (o7 a1 a4 a7))))) (fun a9 => (a9 (z_litT rfl)).elim))))))))))))))) (fun a2 => (And.intro (fun a10 => (o8 a2 a10)) (fun a11 => (And.intro (fun a12 => (o9 a2 a11 a12)) (fun a13 => (hT.1 [] 6 (D + 3) 191 _ _ (hT.1 [] 6 (D + 3) 191 (8, [(0, zr 74), (1, zi (m 89 ((wr ((k : Int) + 1)).toNat)))], [zi ((m 74 6) - 1), zi 0, zi (m 89 ((wr ((k : Int) + 1)).toNat))], m) _ (hT.1 [] 6 (D + 2) 186 _ _ (And.intro (fun a14 => (And.intro (z_b01L rfl) (hT.1 [] 6 (D + 3) 191 _ _ (And.intro (z_b01L rfl) (hT.1 [(63, [0, 2, 4])] 6 (D + 4) 240 _ _ (And.intro (fun a16 => (z_litF a16 rfl).elim) (fun _ => (And.intro (z_b01L rfl) (o10 a2 a11 a13 a14))))))))) (fun a15 => (And.intro (fun a17 => (hT.1 [] 6 (D + 2) 186 (14, [(0, zi (m 89 ((wr ((k : Int) + 1)).toNat))), (1, zi 0), (2, zi ((m 74 6) - 1))], [], m) _ (And.intro (z_b01L rfl) (hT.1 [] 6 (D + 3) 191 _ _ (And.intro (z_b01L rfl) (hT.1 [(63, [0, 2, 4])] 6 (D + 4) 240 _ _ (And.intro (fun a19 => (z_litF a19 rfl).elim) (fun _ => (And.intro (z_b01L rfl) (o11 a2 a11 a13 a15 a17)))))))))) (fun a18 => (hT.1 [] 6 (D + 2) 186 (10, [(0, zi (m 89 ((wr ((k : Int) + 1)).toNat))), (1, zi 0), (2, zi ((m 74 6) - 1))], [], m) _ (And.intro (z_b01L rfl) (hT.1 [] 6 (D + 3) 191 _ _ (And.intro (z_b01L rfl) (hT.1 [(63, [0, 2, 4])] 6 (D + 4) 240 _ _ (And.intro (fun _ => (hT.1 [(63, [0, 2, 4])] 6 (D + 4) 240 (144, [(0, zr 74), (1, zi (k : Int)), (2, zi (m 89 ((wr ((k : Int) + 1)).toNat))), (3, zi (m 89 ((wr ((k : Int) + 2)).toNat)))], [zi (m 89 ((wr ((k : Int) + 2)).toNat)), zi (m 89 ((wr ((k : Int) + 1)).toNat)), zr 75, zr 74], m) _ (o12 a2 a11 a13 a15 a18))) (fun a20 => (a20 (z_litT rfl)).elim))))))))))))))))))))))))))
theorem zb240_0 (hT : zRules T) {D : Nat} {κ : Option zA → zM → Prop} {m : zM} {k : Nat}  (hB : zB m) (h_k : k ≤ 87) 
    (k1 : wr (m 89 k) = 103 → wr (m 89 (k + 1)) < 0 → κ (some (zi 0)) m)
    (k2 : wr (m 89 k) = 103 → ¬ wr (m 89 (k + 1)) < 0 → ((m 74 4) - 1) < wr (m 89 (k + 1)) → κ (some (zi 0)) m)
    (k3 : wr (m 89 k) = 103 → ¬ wr (m 89 (k + 1)) < 0 → ¬ ((m 74 4) - 1) < wr (m 89 (k + 1)) → κ (some (zi 1)) (zu m 75 ((wr (m 89 (k + 1))).toNat) (m 89 (k + 2))))
    (k4 : ¬ wr (m 89 k) = 103 → wr (m 89 k) = 107 → T (D + 4) 240 (63, [(0, zr 74), (2, zi (m 89 (k + 1))), (4, zi 0)], [], m) κ)
    (k5 : ¬ wr (m 89 k) = 103 → ¬ wr (m 89 k) = 107 → wr (m 89 k) = 119 → T (D + 3) 230 (0, [(0, zr 74), (1, zi (m 89 (k + 1))), (2, zi (m 89 (k + 2)))], [], m) (fun r m1 => T (D + 4) 240 (91, [(0, zr 74), (1, zi (k : Int)), (2, zi (m 89 (k + 1))), (3, zi (m 89 (k + 2)))], r.toList ++ [], m1) κ))
    (k6 : ¬ wr (m 89 k) = 103 → ¬ wr (m 89 k) = 107 → ¬ wr (m 89 k) = 119 → wr (m 89 (k + 1)) < 0 → κ (some (zi 0)) m)
    (k7 : ¬ wr (m 89 k) = 103 → ¬ wr (m 89 k) = 107 → ¬ wr (m 89 k) = 119 → ¬ wr (m 89 (k + 1)) < 0 → ((m 74 6) - 1) < wr (m 89 (k + 1)) → κ (some (zi 0)) m)
    (k8 : ¬ wr (m 89 k) = 103 → ¬ wr (m 89 k) = 107 → ¬ wr (m 89 k) = 119 → ¬ wr (m 89 (k + 1)) < 0 → ¬ ((m 74 6) - 1) < wr (m 89 (k + 1)) → T (D + 3) 226 (0, [(0, zr 74), (1, zr 75), (2, zi (m 89 (k + 1))), (3, zi (m 89 (k + 2)))], [], m) (fun r m1 => T (D + 4) 240 (147, [(0, zr 74), (1, zi (k : Int)), (2, zi (m 89 (k + 1))), (3, zi (m 89 (k + 2)))], r.toList ++ [], m1) κ)) :
    T (D + 4) 240 (0, [(0, zr 74), (1, zi (k : Int))], [], m) κ := by
  have hb1 : (-2147483648) ≤ wr (m 89 k) ∧ wr (m 89 k) ≤ 2147483647 := wrB (m 89 k)
  have hb2 : 0 ≤ (m 74 4) ∧ (m 74 4) ≤ 6 := hB 74 4
  have hb3 : (-2147483648) ≤ wr (m 89 (k + 1)) ∧ wr (m 89 (k + 1)) ≤ 2147483647 := wrB (m 89 (k + 1))
  have hb4 : 0 ≤ (m 74 6) ∧ (m 74 6) ≤ 8 := hB 74 6
  have he0 : wr ((k : Int) + 1) = ((k : Int) + 1) := wr_id (by omega) (by omega)
  have he1 : ((k : Int) + 1).toNat = k + 1 := by omega
  have he2 : wr ((k : Int) + 2) = ((k : Int) + 2) := wr_id (by omega) (by omega)
  have he3 : ((k : Int) + 2).toNat = k + 2 := by omega
  have he4 : wr (k : Int) = (k : Int) := wr_id (by omega) (by omega)
  have he5 : (k : Int).toNat = k := by omega
  have he6 : wr ((m 74 4) - 1) = ((m 74 4) - 1) := wr_id (by omega) (by omega)
  have he7 : wr ((m 74 6) - 1) = ((m 74 6) - 1) := wr_id (by omega) (by omega)
  have key := @zb240_0r T hT D κ m k
  simp only [he0, he1, he2, he3, he4, he5, he6, he7, Int.toNat_natCast] at key
  exact key
    (by refine ⟨?_, ?_⟩ <;> omega)
    (by refine ⟨?_, ?_⟩ <;> omega)
    (by refine ⟨?_, ?_⟩ <;> omega)
    k1
    k2
    (fun x0 x1 x2 => by refine ⟨?_, ?_⟩ <;> omega)
    k3
    k4
    k5
    k6
    k7
    k8
theorem zb240_63r (hT : zRules T) {D : Nat} {κ : Option zA → zM → Prop} {m : zM} {a : Nat} {i : Nat} {lo : zL} (hlo : z_keep [0, 2, 4] lo = [(0, zr 74), (2, zi (a : Int)), (4, zi (i : Int))]) 
    (o1 : ¬ wr (i : Int) < wr (a : Int) → κ (some (zi 1)) m)
    (o2 : wr (i : Int) < wr (a : Int) → T (D + 3) 235 (0, [(0, zr 74), (1, zr 75)], [], m) (fun r m1 => T (D + 4) 240 (77, [(0, zr 74), (2, zi (a : Int)), (4, zi (i : Int))], r.toList ++ [], m1) κ)) :
    T (D + 4) 240 (63, lo, [], m) κ :=
  zkeep hT hlo (hT.1 [(63, [0, 2, 4])] 6 (D + 4) 240 _ κ (And.intro (fun a1 => (And.intro (z_b01L rfl) (o1 a1))) (fun a2 => (hT.1 [(63, [0, 2, 4])] 6 (D + 4) 240 (74, [(0, zr 74), (2, zi (a : Int)), (4, zi (i : Int))], [zr 75, zr 74], m) _ (o2 (Classical.byContradiction a2))))))
theorem zb240_63 (hT : zRules T) {D : Nat} {κ : Option zA → zM → Prop} {m : zM} {a : Nat} {i : Nat} {lo : zL} (hlo : z_keep [0, 2, 4] lo = [(0, zr 74), (2, zi (a : Int)), (4, zi (i : Int))])  (hB : zB m) (h_a : a ≤ 9) (h_i : i ≤ 9) 
    (k1 : ¬ (i : Int) < (a : Int) → κ (some (zi 1)) m)
    (k2 : (i : Int) < (a : Int) → T (D + 3) 235 (0, [(0, zr 74), (1, zr 75)], [], m) (fun r m1 => T (D + 4) 240 (77, [(0, zr 74), (2, zi (a : Int)), (4, zi (i : Int))], r.toList ++ [], m1) κ)) :
    T (D + 4) 240 (63, lo, [], m) κ := by
  have he0 : wr (i : Int) = (i : Int) := wr_id (by omega) (by omega)
  have he1 : wr (a : Int) = (a : Int) := wr_id (by omega) (by omega)
  have key := @zb240_63r T hT D κ m a i lo hlo
  simp only [he0, he1, Int.toNat_natCast] at key
  exact key
    k1
    k2
theorem zb240_77r (hT : zRules T) {D : Nat} {κ : Option zA → zM → Prop} {m : zM} {a : Nat} {i : Nat} {lo : zL} (hlo : z_keep [0, 2, 4] lo = [(0, zr 74), (2, zi (a : Int)), (4, zi (i : Int))]) 
    (o1 : T (D + 4) 240 (63, [(0, zr 74), (2, zi (a : Int)), (4, zi ((i : Int) + 1))], [], m) κ) :
    T (D + 4) 240 (77, lo, [], m) κ :=
  zkeep hT hlo (hT.1 [(63, [0, 2, 4])] 6 (D + 4) 240 _ κ (o1))
theorem zb240_77 (hT : zRules T) {D : Nat} {κ : Option zA → zM → Prop} {m : zM} {a : Nat} {i : Nat} {lo : zL} (hlo : z_keep [0, 2, 4] lo = [(0, zr 74), (2, zi (a : Int)), (4, zi (i : Int))])  (hB : zB m) (h_a : a ≤ 9) (h_i : i ≤ 9) 
    (k1 : T (D + 4) 240 (63, [(0, zr 74), (2, zi (a : Int)), (4, zi ((i : Int) + 1))], [], m) κ) :
    T (D + 4) 240 (77, lo, [], m) κ := by
  exact zb240_77r hT hlo
    k1
theorem zb240_91ar (hT : zRules T) {D : Nat} {κ : Option zA → zM → Prop} {m : zM} {a : Nat} {b : Int} {lo : zL} (hlo : z_keep [0, 2, 3] lo = [(0, zr 74), (2, zi (a : Int)), (3, zi b)]) 
    (o1 : (0 ≤ wr (6 + (a : Int)) ∧ wr (6 + (a : Int)) < 59))
    (o2 : κ (some (zi 1)) (zu m 75 ((wr (6 + (a : Int))).toNat) b)) :
    T (D + 4) 240 (91, lo, [zi 0], m) κ :=
  zkeep hT hlo (hT.1 [(63, [0, 2, 4])] 6 (D + 4) 240 _ κ (And.intro (fun _ => (hT.1 [(63, [0, 2, 4])] 6 (D + 4) 240 (104, [(0, zr 74), (2, zi (a : Int)), (3, zi b)], [zi (6 + (a : Int)), zr 75], m) _ (And.intro (And.intro (o1) trivial) (And.intro (z_b01L rfl) (o2))))) (fun a1 => (a1 (z_litT rfl)).elim)))
theorem zb240_91a (hT : zRules T) {D : Nat} {κ : Option zA → zM → Prop} {m : zM} {a : Nat} {b : Int} {lo : zL} (hlo : z_keep [0, 2, 3] lo = [(0, zr 74), (2, zi (a : Int)), (3, zi b)])  (hB : zB m) (h_a : a ≤ 5) (h_b : (-1) ≤ b ∧ b ≤ 7) 
    (k1 : zB (zu m 75 (a + 6) b) → κ (some (zi 1)) (zu m 75 (a + 6) b)) :
    T (D + 4) 240 (91, lo, [zi 0], m) κ := by
  have he0 : wr (6 + (a : Int)) = (6 + (a : Int)) := wr_id (by omega) (by omega)
  have he1 : (6 + (a : Int)).toNat = a + 6 := by omega
  have key := @zb240_91ar T hT D κ m a b lo hlo
  simp only [he0, he1, Int.toNat_natCast] at key
  exact key
    (by refine ⟨?_, ?_⟩ <;> omega)
    (k1  (zB_u hB (zbSg 75 6 12 (-1) 7 rfl (a + 6) b (by omega) (by omega) ⟨by omega, by omega⟩)))
theorem zb240_91br (hT : zRules T) {D : Nat} {κ : Option zA → zM → Prop} {m : zM} {a : Nat} {b : Int} {v : Int} {lo : zL} (hlo : z_keep [0, 2, 3] lo = [(0, zr 74), (2, zi (a : Int)), (3, zi b)]) 
    (o1 : ¬ wr v < 0 → False)
    (o2 : wr v < 0 → κ (some (zi 0)) m) :
    T (D + 4) 240 (91, lo, [zi v], m) κ :=
  zkeep hT hlo (hT.1 [(63, [0, 2, 4])] 6 (D + 4) 240 _ κ (And.intro (fun a1 => (o1 a1).elim) (fun a2 => (And.intro (z_b01L rfl) (o2 (Classical.byContradiction a2))))))
theorem zb240_91b (hT : zRules T) {D : Nat} {κ : Option zA → zM → Prop} {m : zM} {a : Nat} {b : Int} {v : Int} {lo : zL} (hlo : z_keep [0, 2, 3] lo = [(0, zr 74), (2, zi (a : Int)), (3, zi b)])  (hB : zB m) (h_a : a ≤ 9) (h_b : (-1) ≤ b ∧ b ≤ 9) (h_v : (-3) ≤ v ∧ v ≤ (-1)) 
    (k1 : κ (some (zi 0)) m) :
    T (D + 4) 240 (91, lo, [zi v], m) κ := by
  have he0 : wr v = v := wr_id (by omega) (by omega)
  have key := @zb240_91br T hT D κ m a b v lo hlo
  simp only [he0, Int.toNat_natCast] at key
  exact key
    (fun x0 => by omega)
    (fun x0 => k1 )
theorem zb240_147r (hT : zRules T) {D : Nat} {κ : Option zA → zM → Prop} {m : zM} {lo : zL} (hlo : z_keep [] lo = []) 
    (o1 : κ (some (zi 1)) m) :
    T (D + 4) 240 (147, lo, [], m) κ :=
  zkeep hT hlo (hT.1 [(63, [0, 2, 4])] 6 (D + 4) 240 _ κ (And.intro (z_b01L rfl) (o1)))
theorem zb240_147 (hT : zRules T) {D : Nat} {κ : Option zA → zM → Prop} {m : zM} {lo : zL} (hlo : z_keep [] lo = [])  
    (k1 : κ (some (zi 1)) m) :
    T (D + 4) 240 (147, lo, [], m) κ := by
  exact zb240_147r hT hlo
    k1
theorem zb238_115r (hT : zRules T) {D : Nat} {κ : Option zA → zM → Prop} {m : zM} {n : Nat} {lo : zL} (hlo : z_keep [0, 1] lo = [(0, zr 74), (1, zi (n : Int))]) 
    (o1 : T (D + 5) 238 (121, [(0, zr 74), (1, zi (n : Int)), (3, zi 0)], [], (zu (zu (zu m 74 31 0) 74 32 0) 74 33 0)) κ) :
    T (D + 5) 238 (115, lo, [], m) κ :=
  zkeep hT hlo (hT.1 [(39, [0, 1, 2]), (121, [0, 1, 3])] 6 (D + 5) 238 _ κ (hT.1 [] 6 (D + 4) 224 _ _ (And.intro trivial (And.intro trivial (hT.1 [] 6 (D + 4) 224 (10, [(0, zr 74)], [], (zu (zu m 74 31 0) 74 32 0)) _ (And.intro trivial (hT.1 [(39, [0, 1, 2]), (121, [0, 1, 3])] 6 (D + 5) 238 _ _ (o1))))))))
theorem zb238_115 (hT : zRules T) {D : Nat} {κ : Option zA → zM → Prop} {m : zM} {n : Nat} {lo : zL} (hlo : z_keep [0, 1] lo = [(0, zr 74), (1, zi (n : Int))])  (hB : zB m) (h_n : n ≤ 30) 
    (k1 : zB (zu (zu (zu m 74 31 0) 74 32 0) 74 33 0) → T (D + 5) 238 (121, [(0, zr 74), (1, zi (n : Int)), (3, zi 0)], [], (zu (zu (zu m 74 31 0) 74 32 0) 74 33 0)) κ) :
    T (D + 5) 238 (115, lo, [], m) κ := by
  exact zb238_115r hT hlo
    (k1  (zB_u (zB_u (zB_u hB trivial) trivial) trivial))
theorem zb238_121r (hT : zRules T) {D : Nat} {κ : Option zA → zM → Prop} {m : zM} {n : Nat} {d : Nat} {lo : zL} (hlo : z_keep [0, 1, 3] lo = [(0, zr 74), (1, zi (n : Int)), (3, zi (d : Int))]) 
    (o1 : ¬ wr (d : Int) < wr (n : Int) → ¬ 0 < wr (d : Int) → ¬ wr (d : Int) < wr (n : Int) → κ (some (zi (wr (d : Int)))) (zu (zu (zu (zu (zu (zu m 75 58 ((m 75 58) - wr (((m 79 1) * (m 74 31)) + ((m 79 2) * (m 74 32))))) 74 11 0) 81 0 0) 74 11 1) 81 1 (wr (((m 79 1) * (m 74 31)) + ((m 79 2) * (m 74 32))))) 74 11 2))
    (o2 : ¬ wr (d : Int) < wr (n : Int) → ¬ 0 < wr (d : Int) → wr (d : Int) < wr (n : Int) → False)
    (o3 : ¬ wr (d : Int) < wr (n : Int) → 0 < wr (d : Int) → T (D + 4) 229 (0, [(0, zr 74), (1, zr 88)], [], (zu m 75 58 ((m 75 58) - wr (((m 79 1) * (m 74 31)) + ((m 79 2) * (m 74 32)))))) (fun r m1 => T (D + 5) 238 (168, [(0, zr 74), (1, zi (n : Int)), (3, zi (d : Int))], r.toList ++ [], m1) κ))
    (o4 : wr (d : Int) < wr (n : Int) → T (D + 4) 240 (0, [(0, zr 74), (1, zi (3 * (d : Int)))], [], m) (fun r m1 => T (D + 5) 238 (133, [(0, zr 74), (1, zi (n : Int)), (3, zi (d : Int))], r.toList ++ [], m1) κ)) :
    T (D + 5) 238 (121, lo, [], m) κ :=
  zkeep hT hlo (hT.1 [(39, [0, 1, 2]), (121, [0, 1, 3])] 6 (D + 5) 238 _ κ (And.intro (fun a1 => (hT.1 [(39, [0, 1, 2]), (121, [0, 1, 3])] 6 (D + 5) 238 (148, [(0, zr 74), (1, zi (n : Int)), (3, zi (d : Int))], [zi 58, zr 75], m) _ (And.intro (z_ixL rfl) (hT.1 [] 6 (D + 4) 225 _ _ (And.intro (z_ixL rfl) (hT.1 [] 6 (D + 4) 225 (10, [(0, zr 74)], [zi (m 74 31), zi (m 79 1)], m) _ (And.intro (z_ixL rfl) (hT.1 [] 6 (D + 4) 225 (18, [(0, zr 74)], [zr 74, zi (m 79 2), zi ((m 79 1) * (m 74 31))], m) _ (hT.1 [(39, [0, 1, 2]), (121, [0, 1, 3])] 6 (D + 5) 238 _ _ (And.intro (And.intro (z_ixL rfl) trivial) (And.intro (fun a3 => (hT.1 [(39, [0, 1, 2]), (121, [0, 1, 3])] 6 (D + 5) 238 (170, [(0, zr 74), (1, zi (n : Int)), (3, zi (d : Int))], [zi 0, zr 74], (zu m 75 58 ((m 75 58) - wr (((m 79 1) * (m 74 31)) + ((m 79 2) * (m 74 32)))))) _ (And.intro trivial (And.intro (fun a5 => (hT.1 [(39, [0, 1, 2]), (121, [0, 1, 3])] 6 (D + 5) 238 (184, [(0, zr 74), (1, zi (n : Int)), (3, zi (d : Int))], [zi 0, zr 74], (zu (zu m 75 58 ((m 75 58) - wr (((m 79 1) * (m 74 31)) + ((m 79 2) * (m 74 32))))) 74 11 0)) _ (hT.1 [] 6 (D + 4) 189 _ _ (And.intro (And.intro (z_ixL rfl) trivial) (hT.1 [] 6 (D + 4) 189 (10, [(0, zr 74), (1, zi 0)], [], (zu (zu (zu m 75 58 ((m 75 58) - wr (((m 79 1) * (m 74 31)) + ((m 79 2) * (m 74 32))))) 74 11 0) 81 0 0)) _ (And.intro trivial (hT.1 [] 6 (D + 4) 189 (20, [(0, zr 74), (1, zi 0)], [], (zu (zu (zu (zu m 75 58 ((m 75 58) - wr (((m 79 1) * (m 74 31)) + ((m 79 2) * (m 74 32))))) 74 11 0) 81 0 0) 74 11 1)) _ (hT.1 [(39, [0, 1, 2]), (121, [0, 1, 3])] 6 (D + 5) 238 _ _ (hT.1 [] 6 (D + 4) 225 _ _ (And.intro (z_ixL rfl) (hT.1 [] 6 (D + 4) 225 (10, [(0, zr 74)], [zi (m 74 31), zi (m 79 1)], (zu (zu (zu (zu m 75 58 ((m 75 58) - wr (((m 79 1) * (m 74 31)) + ((m 79 2) * (m 74 32))))) 74 11 0) 81 0 0) 74 11 1)) _ (And.intro (z_ixL rfl) (hT.1 [] 6 (D + 4) 225 (18, [(0, zr 74)], [zr 74, zi (m 79 2), zi ((m 79 1) * (m 74 31))], (zu (zu (zu (zu m 75 58 ((m 75 58) - wr (((m 79 1) * (m 74 31)) + ((m 79 2) * (m 74 32))))) 74 11 0) 81 0 0) 74 11 1)) _ (hT.1 [(39, [0, 1, 2]), (121, [0, 1, 3])] 6 (D + 5) 238 _ _ (hT.1 [] 6 (D + 4) 189 _ _ (And.intro (And.intro (z_ixL rfl) trivial) (hT.1 [] 6 (D + 4) 189 (10, [(0, zr 74), (1, zi (wr (((m 79 1) * (m 74 31)) + ((m 79 2) * (m 74 32)))))], [], (zu (zu (zu (zu (zu m 75 58 ((m 75 58) - wr (((m 79 1) * (m 74 31)) + ((m 79 2) * (m 74 32))))) 74 11 0) 81 0 0) 74 11 1) 81 1 (wr (((m 79 1) * (m 74 31)) + ((m 79 2) * (m 74 32)))))) _ (And.intro trivial (hT.1 [] 6 (D + 4) 189 (20, [(0, zr 74), (1, zi (wr (((m 79 1) * (m 74 31)) + ((m 79 2) * (m 74 32)))))], [], (zu (zu (zu (zu (zu (zu m 75 58 ((m 75 58) - wr (((m 79 1) * (m 74 31)) + ((m 79 2) * (m 74 32))))) 74 11 0) 81 0 0) 74 11 1) 81 1 (wr (((m 79 1) * (m 74 31)) + ((m 79 2) * (m 74 32))))) 74 11 2)) _ (hT.1 [(39, [0, 1, 2]), (121, [0, 1, 3])] 6 (D + 5) 238 _ _ (o1 a1 a3 a5))))))))))))))))))))) (fun a6 => (o2 a1 a3 (Classical.byContradiction a6)).elim))))) (fun a4 => (hT.1 [(39, [0, 1, 2]), (121, [0, 1, 3])] 6 (D + 5) 238 (162, [(0, zr 74), (1, zi (n : Int)), (3, zi (d : Int))], [zr 74, zr 74], (zu m 75 58 ((m 75 58) - wr (((m 79 1) * (m 74 31)) + ((m 79 2) * (m 74 32)))))) _ (o3 a1 (Classical.byContradiction a4))))))))))))))) (fun a2 => (hT.1 [(39, [0, 1, 2]), (121, [0, 1, 3])] 6 (D + 5) 238 (129, [(0, zr 74), (1, zi (n : Int)), (3, zi (d : Int))], [zi (d : Int), zi 3, zr 74], m) _ (o4 (Classical.byContradiction a2))))))
theorem zb238_121 (hT : zRules T) {D : Nat} {κ : Option zA → zM → Prop} {m : zM} {n : Nat} {d : Nat} {lo : zL} (hlo : z_keep [0, 1, 3] lo = [(0, zr 74), (1, zi (n : Int)), (3, zi (d : Int))])  (hB : zB m) (h_n : n ≤ 30) (h_d : d ≤ 30) 
    (k1 : ¬ (d : Int) < (n : Int) → ¬ 0 < (d : Int) → zB (zu (zu (zu (zu (zu (zu m 75 58 ((m 75 58) - wr (((m 79 1) * (m 74 31)) + ((m 79 2) * (m 74 32))))) 74 11 0) 81 0 0) 74 11 1) 81 1 (wr (((m 79 1) * (m 74 31)) + ((m 79 2) * (m 74 32))))) 74 11 2) → κ (some (zi (d : Int))) (zu (zu (zu (zu (zu (zu m 75 58 ((m 75 58) - wr (((m 79 1) * (m 74 31)) + ((m 79 2) * (m 74 32))))) 74 11 0) 81 0 0) 74 11 1) 81 1 (wr (((m 79 1) * (m 74 31)) + ((m 79 2) * (m 74 32))))) 74 11 2))
    (k2 : ¬ (d : Int) < (n : Int) → 0 < (d : Int) → zB (zu m 75 58 ((m 75 58) - wr (((m 79 1) * (m 74 31)) + ((m 79 2) * (m 74 32))))) → T (D + 4) 229 (0, [(0, zr 74), (1, zr 88)], [], (zu m 75 58 ((m 75 58) - wr (((m 79 1) * (m 74 31)) + ((m 79 2) * (m 74 32)))))) (fun r m1 => T (D + 5) 238 (168, [(0, zr 74), (1, zi (n : Int)), (3, zi (d : Int))], r.toList ++ [], m1) κ))
    (k3 : (d : Int) < (n : Int) → T (D + 4) 240 (0, [(0, zr 74), (1, zi (3 * (d : Int)))], [], m) (fun r m1 => T (D + 5) 238 (133, [(0, zr 74), (1, zi (n : Int)), (3, zi (d : Int))], r.toList ++ [], m1) κ)) :
    T (D + 5) 238 (121, lo, [], m) κ := by
  have hb2 : 0 ≤ (m 79 1) ∧ (m 79 1) ≤ 9 := hB 79 1
  have hb3 : 0 ≤ (m 79 2) ∧ (m 79 2) ≤ 9 := hB 79 2
  have hb4 : (-2147483648) ≤ wr (((m 79 1) * (m 74 31)) + ((m 79 2) * (m 74 32))) ∧ wr (((m 79 1) * (m 74 31)) + ((m 79 2) * (m 74 32))) ≤ 2147483647 := wrB (((m 79 1) * (m 74 31)) + ((m 79 2) * (m 74 32)))
  have he0 : wr (d : Int) = (d : Int) := wr_id (by omega) (by omega)
  have he1 : wr (n : Int) = (n : Int) := wr_id (by omega) (by omega)
  have key := @zb238_121r T hT D κ m n d lo hlo
  simp only [he0, he1, Int.toNat_natCast] at key
  exact key
    (fun x0 x1 x2 => k1 x0 x1 (zB_u (zB_u (zB_u (zB_u (zB_u (zB_u hB trivial) (show 0 ≤ 0 ∧ 0 ≤ 32 from ⟨by omega, by omega⟩)) trivial) (show 0 ≤ 1 ∧ 1 ≤ 32 from ⟨by omega, by omega⟩)) trivial) (show 0 ≤ 2 ∧ 2 ≤ 32 from ⟨by omega, by omega⟩)))
    (fun x0 x1 x2 => by omega)
    (fun x0 x1 => k2 x0 x1 (zB_u hB trivial))
    k3
theorem zb238_133r (hT : zRules T) {D : Nat} {κ : Option zA → zM → Prop} {m : zM} {n : Nat} {d : Nat} {v : Int} {lo : zL} (hlo : z_keep [0, 1, 3] lo = [(0, zr 74), (1, zi (n : Int)), (3, zi (d : Int))]) 
    (o1 : wr v = 0 → ¬ 0 < wr (d : Int) → ¬ wr (d : Int) < wr (n : Int) → κ (some (zi (wr (d : Int)))) (zu (zu (zu (zu (zu (zu m 75 58 ((m 75 58) - wr (((m 79 1) * (m 74 31)) + ((m 79 2) * (m 74 32))))) 74 11 0) 81 0 0) 74 11 1) 81 1 (wr (((m 79 1) * (m 74 31)) + ((m 79 2) * (m 74 32))))) 74 11 2))
    (o2 : wr v = 0 → ¬ 0 < wr (d : Int) → wr (d : Int) < wr (n : Int) → κ (some (zi (wr (d : Int)))) (zu (zu (zu (zu (zu (zu m 75 58 ((m 75 58) - wr (((m 79 1) * (m 74 31)) + ((m 79 2) * (m 74 32))))) 74 11 0) 81 0 1) 74 11 1) 81 1 (wr (((m 79 1) * (m 74 31)) + ((m 79 2) * (m 74 32))))) 74 11 2))
    (o3 : wr v = 0 → 0 < wr (d : Int) → T (D + 4) 229 (0, [(0, zr 74), (1, zr 88)], [], (zu m 75 58 ((m 75 58) - wr (((m 79 1) * (m 74 31)) + ((m 79 2) * (m 74 32)))))) (fun r m1 => T (D + 5) 238 (168, [(0, zr 74), (1, zi (n : Int)), (3, zi (d : Int))], r.toList ++ [], m1) κ))
    (o4 : ¬ wr v = 0 → T (D + 5) 238 (121, [(0, zr 74), (1, zi (n : Int)), (3, zi ((d : Int) + 1))], [], m) κ) :
    T (D + 5) 238 (133, lo, [zi v], m) κ :=
  zkeep hT hlo (hT.1 [(39, [0, 1, 2]), (121, [0, 1, 3])] 6 (D + 5) 238 _ κ (And.intro (fun a1 => (And.intro (z_ixL rfl) (hT.1 [(39, [0, 1, 2]), (121, [0, 1, 3])] 6 (D + 5) 238 (150, [(0, zr 74), (1, zi (n : Int)), (3, zi (d : Int))], [zi (m 75 58), zi 58, zr 75], m) _ (hT.1 [] 6 (D + 4) 225 _ _ (And.intro (z_ixL rfl) (hT.1 [] 6 (D + 4) 225 (10, [(0, zr 74)], [zi (m 74 31), zi (m 79 1)], m) _ (And.intro (z_ixL rfl) (hT.1 [] 6 (D + 4) 225 (18, [(0, zr 74)], [zr 74, zi (m 79 2), zi ((m 79 1) * (m 74 31))], m) _ (hT.1 [(39, [0, 1, 2]), (121, [0, 1, 3])] 6 (D + 5) 238 _ _ (And.intro (And.intro (z_ixL rfl) trivial) (And.intro (fun a3 => (hT.1 [(39, [0, 1, 2]), (121, [0, 1, 3])] 6 (D + 5) 238 (170, [(0, zr 74), (1, zi (n : Int)), (3, zi (d : Int))], [zi 0, zr 74], (zu m 75 58 ((m 75 58) - wr (((m 79 1) * (m 74 31)) + ((m 79 2) * (m 74 32)))))) _ (And.intro trivial (And.intro (fun a5 => (hT.1 [(39, [0, 1, 2]), (121, [0, 1, 3])] 6 (D + 5) 238 (184, [(0, zr 74), (1, zi (n : Int)), (3, zi (d : Int))], [zi 0, zr 74], (zu (zu m 75 58 ((m 75 58) - wr (((m 79 1) * (m 74 31)) + ((m 79 2) * (m 74 32))))) 74 11 0)) _ (hT.1 [] 6 (D + 4) 189 _ _ (And.intro (And.intro (z_ixL rfl) trivial) (hT.1 [] 6 (D + 4) 189 (10, [(0, zr 74), (1, zi 0)], [], (zu (zu (zu m 75 58 ((m 75 58) - wr (((m 79 1) * (m 74 31)) + ((m 79 2) * (m 74 32))))) 74 11 0) 81 0 0)) _ (And.intro trivial (hT.1 [] 6 (D + 4) 189 (20, [(0, zr 74), (1, zi 0)], [], (zu (zu (zu (zu m 75 58 ((m 75 58) - wr (((m 79 1) * (m 74 31)) + ((m 79 2) * (m 74 32))))) 74 11 0) 81 0 0) 74 11 1)) _ (hT.1 [(39, [0, 1, 2]), (121, [0, 1, 3])] 6 (D + 5) 238 _ _ (hT.1 [] 6 (D + 4) 225 _ _ (And.intro (z_ixL rfl) (hT.1 [] 6 (D + 4) 225 (10, [(0, zr 74)], [zi (m 74 31), zi (m 79 1)], (zu (zu (zu (zu m 75 58 ((m 75 58) - wr (((m 79 1) * (m 74 31)) + ((m 79 2) * (m 74 32))))) 74 11 0) 81 0 0) 74 11 1)) _ (And.intro (z_ixL rfl) (hT.1 [] 6 (D + 4) 225 (18, [(0, zr 74)], [zr 74, zi (m 79 2), zi ((m 79 1) * (m 74 31))], (zu (zu (zu (zu m 75 58 ((m 75 58) - wr (((m 79 1) * (m 74 31)) + ((m 79 2) * (m 74 32))))) 74 11 0) 81 0 0) 74 11 1)) _ (hT.1 [(39, [0, 1, 2]), (121, [0, 1, 3])] 6 (D + 5) 238 _ _ (hT.1 [] 6 (D + 4) 189 _ _ (And.intro (And.intro (z_ixL rfl) trivial) (hT.1 [] 6 (D + 4) 189 (10, [(0, zr 74), (1, zi (wr (((m 79 1) * (m 74 31)) + ((m 79 2) * (m 74 32)))))], [], (zu (zu (zu (zu (zu m 75 58 ((m 75 58) - wr (((m 79 1) * (m 74 31)) + ((m 79 2) * (m 74 32))))) 74 11 0) 81 0 0) 74 11 1) 81 1 (wr (((m 79 1) * (m 74 31)) + ((m 79 2) * (m 74 32)))))) _ (And.intro trivial (hT.1 [] 6 (D + 4) 189 (20, [(0, zr 74), (1, zi (wr (((m 79 1) * (m 74 31)) + ((m 79 2) * (m 74 32)))))], [], (zu (zu (zu (zu (zu (zu m 75 58 ((m 75 58) - wr (((m 79 1) * (m 74 31)) + ((m 79 2) * (m 74 32))))) 74 11 0) 81 0 0) 74 11 1) 81 1 (wr (((m 79 1) * (m 74 31)) + ((m 79 2) * (m 74 32))))) 74 11 2)) _ (hT.1 [(39, [0, 1, 2]), (121, [0, 1, 3])] 6 (D + 5) 238 _ _ (o1 a1 a3 a5))))))))))))))))))))) (fun a6 => (hT.1 [(39, [0, 1, 2]), (121, [0, 1, 3])] 6 (D + 5) 238 (180, [(0, zr 74), (1, zi (n : Int)), (3, zi (d : Int))], [zi 1, zr 74], (zu (zu m 75 58 ((m 75 58) - wr (((m 79 1) * (m 74 31)) + ((m 79 2) * (m 74 32))))) 74 11 0)) _ (hT.1 [] 6 (D + 4) 189 _ _ (And.intro (And.intro (z_ixL rfl) trivial) (hT.1 [] 6 (D + 4) 189 (10, [(0, zr 74), (1, zi 1)], [], (zu (zu (zu m 75 58 ((m 75 58) - wr (((m 79 1) * (m 74 31)) + ((m 79 2) * (m 74 32))))) 74 11 0) 81 0 1)) _ (And.intro trivial (hT.1 [] 6 (D + 4) 189 (20, [(0, zr 74), (1, zi 1)], [], (zu (zu (zu (zu m 75 58 ((m 75 58) - wr (((m 79 1) * (m 74 31)) + ((m 79 2) * (m 74 32))))) 74 11 0) 81 0 1) 74 11 1)) _ (hT.1 [(39, [0, 1, 2]), (121, [0, 1, 3])] 6 (D + 5) 238 _ _ (hT.1 [] 6 (D + 4) 225 _ _ (And.intro (z_ixL rfl) (hT.1 [] 6 (D + 4) 225 (10, [(0, zr 74)], [zi (m 74 31), zi (m 79 1)], (zu (zu (zu (zu m 75 58 ((m 75 58) - wr (((m 79 1) * (m 74 31)) + ((m 79 2) * (m 74 32))))) 74 11 0) 81 0 1) 74 11 1)) _ (And.intro (z_ixL rfl) (hT.1 [] 6 (D + 4) 225 (18, [(0, zr 74)], [zr 74, zi (m 79 2), zi ((m 79 1) * (m 74 31))], (zu (zu (zu (zu m 75 58 ((m 75 58) - wr (((m 79 1) * (m 74 31)) + ((m 79 2) * (m 74 32))))) 74 11 0) 81 0 1) 74 11 1)) _ (hT.1 [(39, [0, 1, 2]), (121, [0, 1, 3])] 6 (D + 5) 238 _ _ (hT.1 [] 6 (D + 4) 189 _ _ (And.intro (And.intro (z_ixL rfl) trivial) (hT.1 [] 6 (D + 4) 189 (10, [(0, zr 74), (1, zi (wr (((m 79 1) * (m 74 31)) + ((m 79 2) * (m 74 32)))))], [], (zu (zu (zu (zu (zu m 75 58 ((m 75 58) - wr (((m 79 1) * (m 74 31)) + ((m 79 2) * (m 74 32))))) 74 11 0) 81 0 1) 74 11 1) 81 1 (wr (((m 79 1) * (m 74 31)) + ((m 79 2) * (m 74 32)))))) _ (And.intro trivial (hT.1 [] 6 (D + 4) 189 (20, [(0, zr 74), (1, zi (wr (((m 79 1) * (m 74 31)) + ((m 79 2) * (m 74 32)))))], [], (zu (zu (zu (zu (zu (zu m 75 58 ((m 75 58) - wr (((m 79 1) * (m 74 31)) + ((m 79 2) * (m 74 32))))) 74 11 0) 81 0 1) 74 11 1) 81 1 (wr (((m 79 1) * (m 74 31)) + ((m 79 2) * (m 74 32))))) 74 11 2)) _ (hT.1 [(39, [0, 1, 2]), (121, [0, 1, 3])] 6 (D + 5) 238 _ _ (o2 a1 a3 (Classical.byContradiction a6)))))))))))))))))))))))))) (fun a4 => (hT.1 [(39, [0, 1, 2]), (121, [0, 1, 3])] 6 (D + 5) 238 (162, [(0, zr 74), (1, zi (n : Int)), (3, zi (d : Int))], [zr 74, zr 74], (zu m 75 58 ((m 75 58) - wr (((m 79 1) * (m 74 31)) + ((m 79 2) * (m 74 32)))))) _ (o3 a1 (Classical.byContradiction a4))))))))))))))) (fun a2 => (o4 a2))))
theorem zb238_133 (hT : zRules T) {D : Nat} {κ : Option zA → zM → Prop} {m : zM} {n : Nat} {d : Nat} {v : Int} {lo : zL} (hlo : z_keep [0, 1, 3] lo = [(0, zr 74), (1, zi (n : Int)), (3, zi (d : Int))])  (hB : zB m) (h_n : n ≤ 30) (h_d : d ≤ 29) (h_v : 0 ≤ v ∧ v ≤ 1) 
    (k1 : v = 0 → ¬ 0 < (d : Int) → ¬ (d : Int) < (n : Int) → zB (zu (zu (zu (zu (zu (zu m 75 58 ((m 75 58) - wr (((m 79 1) * (m 74 31)) + ((m 79 2) * (m 74 32))))) 74 11 0) 81 0 0) 74 11 1) 81 1 (wr (((m 79 1) * (m 74 31)) + ((m 79 2) * (m 74 32))))) 74 11 2) → κ (some (zi (d : Int))) (zu (zu (zu (zu (zu (zu m 75 58 ((m 75 58) - wr (((m 79 1) * (m 74 31)) + ((m 79 2) * (m 74 32))))) 74 11 0) 81 0 0) 74 11 1) 81 1 (wr (((m 79 1) * (m 74 31)) + ((m 79 2) * (m 74 32))))) 74 11 2))
    (k2 : v = 0 → ¬ 0 < (d : Int) → (d : Int) < (n : Int) → zB (zu (zu (zu (zu (zu (zu m 75 58 ((m 75 58) - wr (((m 79 1) * (m 74 31)) + ((m 79 2) * (m 74 32))))) 74 11 0) 81 0 1) 74 11 1) 81 1 (wr (((m 79 1) * (m 74 31)) + ((m 79 2) * (m 74 32))))) 74 11 2) → κ (some (zi (d : Int))) (zu (zu (zu (zu (zu (zu m 75 58 ((m 75 58) - wr (((m 79 1) * (m 74 31)) + ((m 79 2) * (m 74 32))))) 74 11 0) 81 0 1) 74 11 1) 81 1 (wr (((m 79 1) * (m 74 31)) + ((m 79 2) * (m 74 32))))) 74 11 2))
    (k3 : v = 0 → 0 < (d : Int) → zB (zu m 75 58 ((m 75 58) - wr (((m 79 1) * (m 74 31)) + ((m 79 2) * (m 74 32))))) → T (D + 4) 229 (0, [(0, zr 74), (1, zr 88)], [], (zu m 75 58 ((m 75 58) - wr (((m 79 1) * (m 74 31)) + ((m 79 2) * (m 74 32)))))) (fun r m1 => T (D + 5) 238 (168, [(0, zr 74), (1, zi (n : Int)), (3, zi (d : Int))], r.toList ++ [], m1) κ))
    (k4 : ¬ v = 0 → T (D + 5) 238 (121, [(0, zr 74), (1, zi (n : Int)), (3, zi ((d : Int) + 1))], [], m) κ) :
    T (D + 5) 238 (133, lo, [zi v], m) κ := by
  have hb3 : 0 ≤ (m 79 1) ∧ (m 79 1) ≤ 9 := hB 79 1
  have hb4 : 0 ≤ (m 79 2) ∧ (m 79 2) ≤ 9 := hB 79 2
  have hb5 : (-2147483648) ≤ wr (((m 79 1) * (m 74 31)) + ((m 79 2) * (m 74 32))) ∧ wr (((m 79 1) * (m 74 31)) + ((m 79 2) * (m 74 32))) ≤ 2147483647 := wrB (((m 79 1) * (m 74 31)) + ((m 79 2) * (m 74 32)))
  have he0 : wr v = v := wr_id (by omega) (by omega)
  have he1 : wr (d : Int) = (d : Int) := wr_id (by omega) (by omega)
  have he2 : wr (n : Int) = (n : Int) := wr_id (by omega) (by omega)
  have key := @zb238_133r T hT D κ m n d v lo hlo
  simp only [he0, he1, he2, Int.toNat_natCast] at key
  exact key
    (fun x0 x1 x2 => k1 x0 x1 x2 (zB_u (zB_u (zB_u (zB_u (zB_u (zB_u hB trivial) (show 0 ≤ 0 ∧ 0 ≤ 32 from ⟨by omega, by omega⟩)) trivial) (show 0 ≤ 1 ∧ 1 ≤ 32 from ⟨by omega, by omega⟩)) trivial) (show 0 ≤ 2 ∧ 2 ≤ 32 from ⟨by omega, by omega⟩)))
    (fun x0 x1 x2 => k2 x0 x1 x2 (zB_u (zB_u (zB_u (zB_u (zB_u (zB_u hB trivial) (show 0 ≤ 0 ∧ 0 ≤ 32 from ⟨by omega, by omega⟩)) trivial) (show 0 ≤ 1 ∧ 1 ≤ 32 from ⟨by omega, by omega⟩)) trivial) (show 0 ≤ 2 ∧ 2 ≤ 32 from ⟨by omega, by omega⟩)))
    (fun x0 x1 => k3 x0 x1 (zB_u hB trivial))
    k4
theorem zb238_168r (hT : zRules T) {D : Nat} {κ : Option zA → zM → Prop} {m : zM} {n : Nat} {d : Nat} {lo : zL} (hlo : z_keep [0, 1, 3] lo = [(0, zr 74), (1, zi (n : Int)), (3, zi (d : Int))]) 
    (o1 : ¬ wr (d : Int) < wr (n : Int) → κ (some (zi (wr (d : Int)))) (zu (zu (zu (zu (zu m 74 11 0) 81 0 0) 74 11 1) 81 1 (wr (((m 79 1) * (m 74 31)) + ((m 79 2) * (m 74 32))))) 74 11 2))
    (o2 : wr (d : Int) < wr (n : Int) → κ (some (zi (wr (d : Int)))) (zu (zu (zu (zu (zu m 74 11 0) 81 0 1) 74 11 1) 81 1 (wr (((m 79 1) * (m 74 31)) + ((m 79 2) * (m 74 32))))) 74 11 2)) :
    T (D + 5) 238 (168, lo, [], m) κ :=
  zkeep hT hlo (hT.1 [(39, [0, 1, 2]), (121, [0, 1, 3])] 6 (D + 5) 238 _ κ (And.intro trivial (hT.1 [(39, [0, 1, 2]), (121, [0, 1, 3])] 6 (D + 5) 238 (176, [(0, zr 74), (1, zi (n : Int)), (3, zi (d : Int))], [zi (n : Int), zi (d : Int), zr 74], (zu m 74 11 0)) _ (And.intro (fun a1 => (hT.1 [] 6 (D + 4) 189 _ _ (And.intro (And.intro (z_ixL rfl) trivial) (hT.1 [] 6 (D + 4) 189 (10, [(0, zr 74), (1, zi 0)], [], (zu (zu m 74 11 0) 81 0 0)) _ (And.intro trivial (hT.1 [] 6 (D + 4) 189 (20, [(0, zr 74), (1, zi 0)], [], (zu (zu (zu m 74 11 0) 81 0 0) 74 11 1)) _ (hT.1 [(39, [0, 1, 2]), (121, [0, 1, 3])] 6 (D + 5) 238 _ _ (hT.1 [] 6 (D + 4) 225 _ _ (And.intro (z_ixL rfl) (hT.1 [] 6 (D + 4) 225 (10, [(0, zr 74)], [zi (m 74 31), zi (m 79 1)], (zu (zu (zu m 74 11 0) 81 0 0) 74 11 1)) _ (And.intro (z_ixL rfl) (hT.1 [] 6 (D + 4) 225 (18, [(0, zr 74)], [zr 74, zi (m 79 2), zi ((m 79 1) * (m 74 31))], (zu (zu (zu m 74 11 0) 81 0 0) 74 11 1)) _ (hT.1 [(39, [0, 1, 2]), (121, [0, 1, 3])] 6 (D + 5) 238 _ _ (hT.1 [] 6 (D + 4) 189 _ _ (And.intro (And.intro (z_ixL rfl) trivial) (hT.1 [] 6 (D + 4) 189 (10, [(0, zr 74), (1, zi (wr (((m 79 1) * (m 74 31)) + ((m 79 2) * (m 74 32)))))], [], (zu (zu (zu (zu m 74 11 0) 81 0 0) 74 11 1) 81 1 (wr (((m 79 1) * (m 74 31)) + ((m 79 2) * (m 74 32)))))) _ (And.intro trivial (hT.1 [] 6 (D + 4) 189 (20, [(0, zr 74), (1, zi (wr (((m 79 1) * (m 74 31)) + ((m 79 2) * (m 74 32)))))], [], (zu (zu (zu (zu (zu m 74 11 0) 81 0 0) 74 11 1) 81 1 (wr (((m 79 1) * (m 74 31)) + ((m 79 2) * (m 74 32))))) 74 11 2)) _ (hT.1 [(39, [0, 1, 2]), (121, [0, 1, 3])] 6 (D + 5) 238 _ _ (o1 a1)))))))))))))))))))) (fun a2 => (hT.1 [] 6 (D + 4) 189 _ _ (And.intro (And.intro (z_ixL rfl) trivial) (hT.1 [] 6 (D + 4) 189 (10, [(0, zr 74), (1, zi 1)], [], (zu (zu m 74 11 0) 81 0 1)) _ (And.intro trivial (hT.1 [] 6 (D + 4) 189 (20, [(0, zr 74), (1, zi 1)], [], (zu (zu (zu m 74 11 0) 81 0 1) 74 11 1)) _ (hT.1 [(39, [0, 1, 2]), (121, [0, 1, 3])] 6 (D + 5) 238 _ _ (hT.1 [] 6 (D + 4) 225 _ _ (And.intro (z_ixL rfl) (hT.1 [] 6 (D + 4) 225 (10, [(0, zr 74)], [zi (m 74 31), zi (m 79 1)], (zu (zu (zu m 74 11 0) 81 0 1) 74 11 1)) _ (And.intro (z_ixL rfl) (hT.1 [] 6 (D + 4) 225 (18, [(0, zr 74)], [zr 74, zi (m 79 2), zi ((m 79 1) * (m 74 31))], (zu (zu (zu m 74 11 0) 81 0 1) 74 11 1)) _ (hT.1 [(39, [0, 1, 2]), (121, [0, 1, 3])] 6 (D + 5) 238 _ _ (hT.1 [] 6 (D + 4) 189 _ _ (And.intro (And.intro (z_ixL rfl) trivial) (hT.1 [] 6 (D + 4) 189 (10, [(0, zr 74), (1, zi (wr (((m 79 1) * (m 74 31)) + ((m 79 2) * (m 74 32)))))], [], (zu (zu (zu (zu m 74 11 0) 81 0 1) 74 11 1) 81 1 (wr (((m 79 1) * (m 74 31)) + ((m 79 2) * (m 74 32)))))) _ (And.intro trivial (hT.1 [] 6 (D + 4) 189 (20, [(0, zr 74), (1, zi (wr (((m 79 1) * (m 74 31)) + ((m 79 2) * (m 74 32)))))], [], (zu (zu (zu (zu (zu m 74 11 0) 81 0 1) 74 11 1) 81 1 (wr (((m 79 1) * (m 74 31)) + ((m 79 2) * (m 74 32))))) 74 11 2)) _ (hT.1 [(39, [0, 1, 2]), (121, [0, 1, 3])] 6 (D + 5) 238 _ _ (o2 (Classical.byContradiction a2)))))))))))))))))))))))))
theorem zb238_168 (hT : zRules T) {D : Nat} {κ : Option zA → zM → Prop} {m : zM} {n : Nat} {d : Nat} {lo : zL} (hlo : z_keep [0, 1, 3] lo = [(0, zr 74), (1, zi (n : Int)), (3, zi (d : Int))])  (hB : zB m) (h_n : n ≤ 30) (h_d : d ≤ 30) 
    (k1 : ¬ (d : Int) < (n : Int) → zB (zu (zu (zu (zu (zu m 74 11 0) 81 0 0) 74 11 1) 81 1 (wr (((m 79 1) * (m 74 31)) + ((m 79 2) * (m 74 32))))) 74 11 2) → κ (some (zi (d : Int))) (zu (zu (zu (zu (zu m 74 11 0) 81 0 0) 74 11 1) 81 1 (wr (((m 79 1) * (m 74 31)) + ((m 79 2) * (m 74 32))))) 74 11 2))
    (k2 : (d : Int) < (n : Int) → zB (zu (zu (zu (zu (zu m 74 11 0) 81 0 1) 74 11 1) 81 1 (wr (((m 79 1) * (m 74 31)) + ((m 79 2) * (m 74 32))))) 74 11 2) → κ (some (zi (d : Int))) (zu (zu (zu (zu (zu m 74 11 0) 81 0 1) 74 11 1) 81 1 (wr (((m 79 1) * (m 74 31)) + ((m 79 2) * (m 74 32))))) 74 11 2)) :
    T (D + 5) 238 (168, lo, [], m) κ := by
  have hb2 : 0 ≤ (m 79 1) ∧ (m 79 1) ≤ 9 := hB 79 1
  have hb3 : 0 ≤ (m 79 2) ∧ (m 79 2) ≤ 9 := hB 79 2
  have hb4 : (-2147483648) ≤ wr (((m 79 1) * (m 74 31)) + ((m 79 2) * (m 74 32))) ∧ wr (((m 79 1) * (m 74 31)) + ((m 79 2) * (m 74 32))) ≤ 2147483647 := wrB (((m 79 1) * (m 74 31)) + ((m 79 2) * (m 74 32)))
  have he0 : wr (d : Int) = (d : Int) := wr_id (by omega) (by omega)
  have he1 : wr (n : Int) = (n : Int) := wr_id (by omega) (by omega)
  have key := @zb238_168r T hT D κ m n d lo hlo
  simp only [he0, he1, Int.toNat_natCast] at key
  exact key
    (fun x0 => k1 x0 (zB_u (zB_u (zB_u (zB_u (zB_u hB (show 0 ≤ 0 ∧ 0 ≤ 32 from ⟨by omega, by omega⟩)) trivial) (show 0 ≤ 1 ∧ 1 ≤ 32 from ⟨by omega, by omega⟩)) trivial) (show 0 ≤ 2 ∧ 2 ≤ 32 from ⟨by omega, by omega⟩)))
    (fun x0 => k2 x0 (zB_u (zB_u (zB_u (zB_u (zB_u hB (show 0 ≤ 0 ∧ 0 ≤ 32 from ⟨by omega, by omega⟩)) trivial) (show 0 ≤ 1 ∧ 1 ≤ 32 from ⟨by omega, by omega⟩)) trivial) (show 0 ≤ 2 ∧ 2 ≤ 32 from ⟨by omega, by omega⟩)))
end ZBlocks
end
-- a2.year.lean.txt
section
/-! year(): the acts done by both. -/
noncomputable def doA (L : Nat → Int → Int → Int) (h : Int) (n k : Nat) (a : zS) (kd f g : Int) : Option zS :=
  if kd = 107 then some (wksA L h n a f.toNat)
  else if kd = 119 then (if wfV n k (fun p => a.1 (p + 6)) f g = 0 then some (fu a.1 (f.toNat + 6) g, a.2) else none)
  else if kd = 103 then (if 0 ≤ f ∧ f < n then some (fu a.1 f.toNat g, a.2) else none)
  else if 0 ≤ f ∧ f < k then some (mkA h a f.toNat g) else none
theorem doA_congr {L L2 : Nat → Int → Int → Int} {h : Int} {n k : Nat} {a : zS} {kd f g : Int} (he : ∀ i, i < n → L i = L2 i) : doA L h n k a kd f g = doA L2 h n k a kd f g := by
  unfold doA
  rw [wksA_congr he]
/-- what may stand in an act -/
noncomputable def okA (kd f g : Int) : Prop := (kd = 107 ∨ kd = 119 ∨ kd = 103 ∨ kd = 109) ∧ (0 ≤ f ∧ f ≤ 9) ∧ (kd = 119 → -1 ≤ g ∧ g ≤ 9) ∧ (kd = 103 → 0 ≤ g ∧ g ≤ 3) ∧ (kd = 109 → 0 ≤ g ∧ g ≤ 99)
theorem okRow.wear {n k : Nat} {g : Nat → Int} {p : Nat} {v : Int} (ho : okRow n k g) (hn : n ≤ 6) (hp : p < n) (hv : v = -1 ∨ (0 ≤ v ∧ v < k)) : okRow n k (fu g (p + 6) v) := by
  obtain ⟨o1, o2, o3, o4⟩ := ho
  refine ⟨fun q hq => ?_, ?_, ?_, fun c hc => ?_⟩
  · rw [fu_ne (by omega)]
    by_cases e : q = p
    · rw [e, fu_eq rfl]
      exact ⟨(o1 p hp).1, hv⟩
    · rw [fu_ne (by omega)]
      exact o1 q hq
  · rw [fu_ne (by omega)]
    exact o2
  · rw [fu_ne (by omega)]
    exact o3
  · rw [fu_ne (by omega)]
    exact o4 c hc
theorem okRow.go {n k : Nat} {g : Nat → Int} {p : Nat} {v : Int} (ho : okRow n k g) (hn : n ≤ 6) (hp : p < n) (hv : 0 ≤ v ∧ v ≤ 3) : okRow n k (fu g p v) := by
  obtain ⟨o1, o2, o3, o4⟩ := ho
  refine ⟨fun q hq => ?_, ?_, ?_, fun c hc => ?_⟩
  · rw [fu_ne (show q + 6 ≠ p by omega)]
    by_cases e : q = p
    · rw [e, fu_eq rfl]
      exact ⟨hv, (o1 p hp).2⟩
    · rw [fu_ne e]
      exact o1 q hq
  · rw [fu_ne (by omega)]
    exact o2
  · rw [fu_ne (by omega)]
    exact o3
  · rw [fu_ne (by omega)]
    exact o4 c hc
noncomputable def ydL : zLs := (19, none) :: (20, none) :: pwLs
section ZDoAct
variable {T : Nat → Nat → zG → (Option zA → zM → Prop) → Prop} {D : Nat} {κ : Option zA → zM → Prop}
theorem z_doAct (hT : zRules T) {M : zM} {n k : Nat} {a : zS} {kd f g : Int} (hB : zB M) (n1 : M 17 0 = (n : Int)) (k1 : M 17 1 = (k : Int)) (h18 : ∀ p, p < n → 0 ≤ M 18 p) (hWF : WFr M) (hR : RelA n k M a) (ho : okRow n k a.1) (h57 : a.1 57 + 9 ≤ 400000) (hok : okA kd f g)
    (h0 : doA (lawM M) (M 24 0) n k a kd f g = none → κ (some (zi 0)) M)
    (h1 : ∀ b M1, doA (lawM M) (M 24 0) n k a kd f g = some b → zB M1 → zFr (inL ydL) M M1 → RelA n k M1 b → okRow n k b.1 → (a.1 57 ≤ b.1 57 ∧ b.1 57 ≤ a.1 57 + 9) → κ (some (zi 1)) M1) : T (D + 6) 176 (0, [(0, zr 1), (1, zi kd), (2, zi f), (3, zi g)], [], M) κ := by
  have b17 : 0 ≤ M 17 0 ∧ M 17 0 ≤ 6 := hB 17 0
  have b171 : 0 ≤ M 17 1 ∧ M 17 1 ≤ 8 := hB 17 1
  obtain ⟨hkd, hf, g1, g2, g3⟩ := hok
  obtain ⟨p, rfl⟩ : ∃ p : Nat, f = (p : Int) := ⟨f.toNat, by omega⟩
  have ep : ((p : Nat) : Int).toNat = p := by omega
  rcases hkd with rfl | rfl | rfl | rfl
  · refine zb176_0k hT hB (by omega) ?_
    refine z_passWeeks (D := D) (n := n) (k := k) hT hB (by omega) n1 k1 h18 hWF hR ho (by rw [hR.1.2.2.2.2.1]; omega) (fun M1 hB1 hF1 hR1 ho1 e57 => ?_)
    refine zb176_41 (lo := [(0, zr 1), (1, zi 107), (2, zi (p : Int)), (3, zi g)]) hT rfl ?_
    refine h1 _ M1 (by unfold doA; rw [if_pos rfl, ep]) hB1 ?_ hR1 ho1 (by omega)
    exact (hF1.sub pwWL).sub (fun c j q => by
      unfold inL at q ⊢
      unfold ydL
      simp only [List.any_cons, Bool.or_eq_true] at q ⊢
      exact Or.inr (Or.inr q))
  · obtain ⟨v1, v2⟩ := g1 rfl
    refine zb176_0w hT hB (by omega) ⟨v1, v2⟩ ?_
    have ew : wfV n k (M 20) (p : Int) g = wfV n k (fun q => a.1 (q + 6)) (p : Int) g := by
      unfold wfV
      rw [wIx_congr n 0 (f := M 20) (g := fun q => a.1 (q + 6)) (fun i _ hi => (hR.1.1 i (by omega)).2)]
    have hvb := wfVB (n := n) (k := k) (g := M 20) (p := (p : Int)) (c := g)
    refine z_wearFault (D := D + 2) (n := n) (k := k) hT hB (by unfold isI; omega) (by unfold isI; omega) n1 k1 ?_
    by_cases e0 : wfV n k (M 20) (p : Int) g = 0
    · obtain ⟨c1, c2⟩ := wfV_0 e0
      rw [e0]
      refine zb176_52a (f := p) (g := g) hT rfl hB (by omega) (by omega) (fun hz => ?_)
      refine h1 (fu a.1 (p + 6) g, a.2) _ (by unfold doA; rw [if_neg (by decide), if_pos rfl, if_pos (by rw [← ew]; exact e0), ep]) hz (zFr.refl.set rfl) ?_ (ho.wear (by omega) (by omega) c2) (by dsimp only; rw [fu_ne (by omega)]; omega)
      obtain ⟨⟨r1, r2, r3, r4, r5, r6⟩, d1, d2, d3⟩ := hR
      refine ⟨⟨fun q hq => ?_, fun c hc => ?_, ?_, fun i hi => ?_, ?_, ?_⟩, ?_, ?_, ?_⟩
      · obtain ⟨s1, s2⟩ := r1 q hq
        dsimp only
        rw [zu_dn (by omega), fu_ne (show q ≠ p + 6 by omega), zu_at]
        refine ⟨s1, ?_⟩
        by_cases e : q = p
        · rw [if_pos e, fu_eq (by omega)]
        · rw [if_neg e, fu_ne (by omega)]
          exact s2
      · dsimp only
        rw [zu_dn (by omega), zu_dn (by omega), zu_dn (by omega), fu_ne (by omega), fu_ne (by omega), fu_ne (by omega)]
        exact r2 c hc
      · dsimp only
        rw [zu_dn (by omega), fu_ne (by omega)]
        exact r3
      · dsimp only at hi ⊢
        rw [fu_ne (by omega)] at hi
        rw [zu_dn (by omega), fu_ne (by omega)]
        exact r4 i hi
      · dsimp only
        rw [zu_dn (by omega), fu_ne (by omega)]
        exact r5
      · dsimp only
        rw [zu_dn (by omega), fu_ne (by omega)]
        exact r6
      · rw [zu_dn (by omega)]
        exact d1
      · rw [zu_dn (by omega)]
        exact d2
      · rw [zu_dn (by omega)]
        exact d3
    · refine zb176_52b (f := p) (g := g) hT rfl hB (by omega) ⟨v1, v2⟩ (by omega) ?_
      exact h0 (by unfold doA; rw [if_neg (by decide), if_pos rfl, if_neg (by rw [← ew]; exact e0)])
  · obtain ⟨v1, v2⟩ := g2 rfl
    refine zb176_0g hT hB (by omega) ⟨v1, v2⟩ (fun q => ?_) (fun q hz => ?_)
    · exact h0 (by unfold doA; rw [if_neg (by decide), if_neg (by decide), if_pos rfl, if_neg (by omega)])
    · refine h1 (fu a.1 p g, a.2) _ (by unfold doA; rw [if_neg (by decide), if_neg (by decide), if_pos rfl, if_pos (by omega), ep]) hz (zFr.refl.set rfl) ?_ (ho.go (by omega) (by omega) ⟨v1, v2⟩) (by dsimp only; rw [fu_ne (by omega)]; omega)
      obtain ⟨⟨r1, r2, r3, r4, r5, r6⟩, d1, d2, d3⟩ := hR
      refine ⟨⟨fun q hq => ?_, fun c hc => ?_, ?_, fun i hi => ?_, ?_, ?_⟩, ?_, ?_, ?_⟩
      · obtain ⟨s1, s2⟩ := r1 q hq
        dsimp only
        rw [zu_at, zu_dn (by omega), fu_ne (show q + 6 ≠ p by omega)]
        refine ⟨?_, s2⟩
        by_cases e : q = p
        · rw [if_pos e, fu_eq e]
        · rw [if_neg e, fu_ne e]
          exact s1
      · dsimp only
        rw [zu_dn (by omega), zu_dn (by omega), zu_dn (by omega), fu_ne (by omega), fu_ne (by omega), fu_ne (by omega)]
        exact r2 c hc
      · dsimp only
        rw [zu_dn (by omega), fu_ne (by omega)]
        exact r3
      · dsimp only at hi ⊢
        rw [fu_ne (by omega)] at hi
        rw [zu_dn (by omega), fu_ne (by omega)]
        exact r4 i hi
      · dsimp only
        rw [zu_dn (by omega), fu_ne (by omega)]
        exact r5
      · dsimp only
        rw [zu_dn (by omega), fu_ne (by omega)]
        exact r6
      · rw [zu_dn (by omega)]
        exact d1
      · rw [zu_dn (by omega)]
        exact d2
      · rw [zu_dn (by omega)]
        exact d3
  · obtain ⟨v1, v2⟩ := g3 rfl
    refine zb176_0m hT hB (by omega) ⟨v1, v2⟩ (fun q => ?_) (fun q => ?_)
    · exact h0 (by unfold doA; rw [if_neg (by decide), if_neg (by decide), if_neg (by decide), if_neg (by omega)])
    · refine z_tailor (D := D + 3) (n := n) (k := k) (a := a) hT hB (by omega) (by omega) (by omega) ⟨v1, v2⟩ hR (fun M1 hB1 hF1 hR1 => ?_)
      refine zb176_116 (lo := [(0, zr 1), (1, zi 109), (2, zi (p : Int)), (3, zi g)]) hT rfl ?_
      refine h1 _ M1 (by unfold doA; rw [if_neg (by decide), if_neg (by decide), if_neg (by decide), if_pos (by omega), ep]) hB1 ((hF1.sub tlWL).sub (inL_sub (by decide))) hR1 (ho.mk (by omega) (by omega) (hB 24 0).1 (by omega)) ?_
      rw [mkA_keep (by omega) ho.2.1 (by omega)]
      omega
noncomputable def ydRL : zLs := mkL 75 ++ lbL
theorem z_actDo (hT : zRules T) {M : zM} {n k q : Nat} {a : zS} {kd f g : Int} (hB : zB M) (n2 : M 74 4 = (n : Int)) (k2 : M 74 6 = (k : Int)) (hLR : LawRel M) (hR : RelR 75 M a) (ho : okRow n k a.1) (h57 : a.1 57 + 9 ≤ 400000) (hok : okA kd f g) (hq : q ≤ 87) (e0 : M 89 q = kd) (e1 : M 89 (q + 1) = f) (e2 : ¬ kd = 107 → M 89 (q + 2) = g)
    (h0 : doA (lawR M) (M 79 0) n k a kd f g = none → κ (some (zi 0)) M)
    (h1 : ∀ b M1, doA (lawR M) (M 79 0) n k a kd f g = some b → zB M1 → zFr (inL ydRL) M M1 → RelR 75 M1 b → okRow n k b.1 → (a.1 57 ≤ b.1 57 ∧ b.1 57 ≤ a.1 57 + 9) → κ (some (zi 1)) M1) : T (D + 172) 240 (0, [(0, zr 74), (1, zi (q : Int))], [], M) κ := by
  have b17 : 0 ≤ M 74 4 ∧ M 74 4 ≤ 6 := hB 74 4
  have b171 : 0 ≤ M 74 6 ∧ M 74 6 ≤ 8 := hB 74 6
  obtain ⟨hkd, hf, g1, g2, g3⟩ := hok
  obtain ⟨p, rfl⟩ : ∃ p : Nat, f = (p : Int) := ⟨f.toNat, by omega⟩
  have ep : ((p : Nat) : Int).toNat = p := by omega
  have w0 : wr (M 89 q) = kd := by rw [e0]; exact wr_id (by omega) (by omega)
  have w1 : wr (M 89 (q + 1)) = (p : Int) := by rw [e1]; exact wr_id (by omega) (by omega)
  have key := zb240_0 (D := D + 168) (κ := κ) (m := M) (k := q) hT hB hq
  rw [w0, w1, e1, ep] at key
  rcases hkd with rfl | rfl | rfl | rfl
  · refine key (fun x => absurd x (by decide)) (fun x => absurd x (by decide)) (fun x => absurd x (by decide)) (fun _ _ => ?_) (fun _ x => absurd rfl x) (fun _ x => absurd rfl x) (fun _ x => absurd rfl x) (fun _ x => absurd rfl x)
    have loop : ∀ (j i : Nat) (b : zS) (M1 : zM), i + j = p → zB M1 → zFr (inL ydRL) M M1 → RelR 75 M1 b → okRow n k b.1 → b.1 57 = a.1 57 + i → wksA (lawR M) (M 79 0) n b j = wksA (lawR M) (M 79 0) n a p → T (D + 172) 240 (63, [(0, zr 74), (2, zi (p : Int)), (4, zi (i : Int))], [], M1) κ := by
      intro j
      induction j with
      | zero =>
        intro i b M1 hi hB1 hF1 hR1 ho1 e57 hw
        rw [wksA] at hw
        exact zb240_63 (D := D + 168) hT rfl hB1 (by omega) (by omega) (fun _ => h1 b M1 (by unfold doA; rw [if_pos rfl, ep, hw]) hB1 hF1 hR1 ho1 (by omega)) (fun x => by omega)
      | succ j ih =>
        intro i b M1 hi hB1 hF1 hR1 ho1 e57 hw
        have hA : Agree KL M M1 := .of hF1 rfl
        have e78 : M1 78 = M 78 := funext fun j => hF1 78 j rfl
        have eL : lawR M1 = lawR M := by
          unfold lawR
          rw [hA.law.2, e78]
        have hok2 := wkA_ok (L := lawR M) (h := M 79 0) (n := n) (k := k) (b := b) (by omega) (by omega) (hB 79 0).1 ho1
        refine zb240_63 (D := D + 168) hT rfl hB1 (by omega) (by omega) (fun x => by omega) (fun _ => ?_)
        refine z_goWeek_75 (D := D) (n := n) (k := k) hT hB1 ((hF1 74 4 rfl).trans n2) (by omega) (hA.law.1 hLR) hR1 ho1 (by omega) (fun M2 hB2 hF2 hR2 => ?_)
        rw [eL, hF1 79 0 rfl] at hR2
        refine zb240_77 (D := D + 168) hT rfl hB2 (by omega) (by omega) ?_
        refine ih (i + 1) _ M2 (by omega) hB2 (hF1.trans (hF2.sub gwWL)) hR2 hok2.1 (by rw [hok2.2]; omega) ?_
        rw [← hw, wksA]
    exact loop p 0 a M (by omega) hB zFr.refl hR ho (by omega) rfl
  · obtain ⟨v1, v2⟩ := g1 rfl
    have f2 := e2 (by decide)
    refine key (fun x => absurd x (by decide)) (fun x => absurd x (by decide)) (fun x => absurd x (by decide)) (fun _ x => absurd x (by decide)) (fun _ _ _ => ?_) (fun _ _ x => absurd rfl x) (fun _ _ x => absurd rfl x) (fun _ _ x => absurd rfl x)
    rw [f2]
    have er : (fun q => M 75 (q + 6)) = (fun q => a.1 (q + 6)) := by rw [hR.1]
    have hvb := wfVB (n := n) (k := k) (g := fun q => M 75 (q + 6)) (p := (p : Int)) (c := g)
    refine z_refusesWear (D := D + 168) (n := n) (k := k) hT hB (by unfold isI; omega) (by unfold isI; omega) n2 k2 ?_
    by_cases e0 : wfV n k (fun q => M 75 (q + 6)) (p : Int) g = 0
    · obtain ⟨c1, c2⟩ := wfV_0 e0
      rw [e0]
      refine zb240_91a (D := D + 168) (a := p) (b := g) hT rfl hB (by omega) (by omega) (fun hz => ?_)
      refine h1 (fu a.1 (p + 6) g, a.2) _ (by unfold doA; rw [if_neg (by decide), if_pos rfl, if_pos (by rw [← er]; exact e0), ep]) hz (zFr.refl.set rfl) ?_ (ho.wear (by omega) (by omega) c2) (by dsimp only; rw [fu_ne (by omega)]; omega)
      obtain ⟨r1, r2, r3, r4⟩ := hR
      exact ⟨by rw [zu_row, r1], by rw [zu_dn (by omega)]; exact r2, by rw [zu_dn (by omega)]; exact r3, by rw [zu_dn (by omega)]; exact r4⟩
    · refine zb240_91b (D := D + 168) (a := p) (b := g) hT rfl hB (by omega) ⟨v1, v2⟩ (by omega) ?_
      exact h0 (by unfold doA; rw [if_neg (by decide), if_pos rfl, if_neg (by rw [← er]; exact e0)])
  · obtain ⟨v1, v2⟩ := g2 rfl
    have f2 := e2 (by decide)
    refine key (fun _ x => by omega) (fun _ _ x => ?_) (fun _ _ x => ?_) (fun x => absurd rfl x) (fun x => absurd rfl x) (fun x => absurd rfl x) (fun x => absurd rfl x) (fun x => absurd rfl x)
    · exact h0 (by unfold doA; rw [if_neg (by decide), if_neg (by decide), if_pos rfl, if_neg (by omega)])
    · rw [f2]
      refine h1 (fu a.1 p g, a.2) _ (by unfold doA; rw [if_neg (by decide), if_neg (by decide), if_pos rfl, if_pos (by omega), ep]) (zB_u hB (zbSg 75 0 6 0 3 rfl p g (by omega) (by omega) ⟨v1, v2⟩)) (zFr.refl.set rfl) ?_ (ho.go (by omega) (by omega) ⟨v1, v2⟩) (by dsimp only; rw [fu_ne (by omega)]; omega)
      obtain ⟨r1, r2, r3, r4⟩ := hR
      exact ⟨by rw [zu_row, r1], by rw [zu_dn (by omega)]; exact r2, by rw [zu_dn (by omega)]; exact r3, by rw [zu_dn (by omega)]; exact r4⟩
  · obtain ⟨v1, v2⟩ := g3 rfl
    have f2 := e2 (by decide)
    refine key (fun x => absurd x (by decide)) (fun x => absurd x (by decide)) (fun x => absurd x (by decide)) (fun _ x => absurd x (by decide)) (fun _ _ x => absurd x (by decide)) (fun _ _ _ x => by omega) (fun _ _ _ _ x => ?_) (fun _ _ _ _ x => ?_)
    · exact h0 (by unfold doA; rw [if_neg (by decide), if_neg (by decide), if_neg (by decide), if_neg (by omega)])
    · rw [f2]
      refine z_makes_75 (D := D + 169) (c := p) (a := a) hT hB (by omega) ⟨v1, v2⟩ hR (fun M1 hB1 hF1 hR1 => ?_)
      refine zb240_147 (D := D + 168) (lo := [(0, zr 74), (1, zi (q : Int)), (2, zi (p : Int)), (3, zi g)]) hT rfl ?_
      refine h1 _ M1 (by unfold doA; rw [if_neg (by decide), if_neg (by decide), if_neg (by decide), if_pos (by omega), ep]) hB1 ((hF1.sub mkWL).sub (inL_sub (by decide))) hR1 (ho.mk (by omega) (by omega) (hB 79 0).1 (by omega)) ?_
      rw [mkA_keep (by omega) ho.2.1 (by omega)]
      omega
end ZDoAct
/-- how many acts are done, and what comes of it -/
noncomputable def yrun (L : Nat → Int → Int → Int) (h : Int) (n k : Nat) (act : Nat → Int × Int × Int) : Nat → Nat → zS → Nat × zS
  | 0, d, a => (d, a)
  | j + 1, d, a => match doA L h n k a (act d).1 (act d).2.1 (act d).2.2 with
    | none => (d, a)
    | some b => yrun L h n k act j (d + 1) b
theorem yrun_congr {L L2 : Nat → Int → Int → Int} {h : Int} {n k : Nat} {act : Nat → Int × Int × Int} (he : ∀ i, i < n → L i = L2 i) : ∀ (j d : Nat) (a : zS), yrun L h n k act j d a = yrun L2 h n k act j d a
  | 0, _, _ => rfl
  | j + 1, d, a => by
    rw [yrun, yrun, doA_congr he]
    cases doA L2 h n k a (act d).1 (act d).2.1 (act d).2.2 with
    | none => rfl
    | some b => exact yrun_congr he j (d + 1) b
theorem yrun_d {L : Nat → Int → Int → Int} {h : Int} {n k : Nat} {act : Nat → Int × Int × Int} : ∀ (j d : Nat) (a : zS), d ≤ (yrun L h n k act j d a).1 ∧ (yrun L h n k act j d a).1 ≤ d + j
  | 0, d, _ => ⟨Nat.le_refl d, Nat.le_refl d⟩
  | j + 1, d, a => by
    rw [yrun]
    cases doA L h n k a (act d).1 (act d).2.1 (act d).2.2 with
    | none =>
      dsimp only
      exact ⟨Nat.le_refl d, by omega⟩
    | some b =>
      have := yrun_d (L := L) (h := h) (n := n) (k := k) (act := act) j (d + 1) b
      dsimp only
      exact ⟨by omega, by omega⟩
/-- the act that begins at a -/
noncomputable def actV (s : Nat → Int) (i : Nat) : Int × Int × Int := match actS s (stY s i) with
  | .inl _ => (0, 0, 0)
  | .inr q => (s (stY s i), q.1, q.2.1)
theorem actV_ok {s : Nat → Int} {L : Nat} (hs : ∀ a, L ≤ a → s a = -1) {i b : Nat} {f v : Int} (e : actS s (stY s i) = .inr (f, v, b)) : actV s i = (s (stY s i), f, v) ∧ okA (s (stY s i)) f v := by
  refine ⟨by unfold actV; rw [e], ?_⟩
  rcases Nat.lt_or_ge L (stY s i) with h | h
  · have h1 := hs (stY s i) (by omega)
    rw [actS_0 (by omega) (by omega) (by omega) (by omega)] at e
    cases e
  · obtain ⟨b1, b2, b3, b4, b5, b6, b7⟩ := (actS_b hs h).2 f v b e
    exact ⟨b3, b4, b5, b6, b7⟩
end
-- a3.yearw.lean.txt
section
/-! year(). -/
theorem cmom_ag {m M : zM} (h : Agree KRel m M) (j : Nat) : cmom M j = cmom m j := by
  unfold cmom
  rw [h 19 j rfl, h 20 (j - 6) rfl, h 21 (j - 12) rfl, h 22 (j - 20) rfl, h 23 (j - 28) rfl, h 26 (j - 36) rfl, h 25 2 rfl, h 17 10 rfl, h 17 11 rfl]
theorem MarkC.ag {m m0 M : zM} (hA : Agree remCL m m0) (h : MarkC m0 M) : MarkC m M := by
  obtain ⟨c1, c2, c3⟩ := h
  have e4 : m0 28 4 = m 28 4 := hA 28 4 rfl
  have e5 : m0 28 5 = m 28 5 := hA 28 5 rfl
  rw [e4, e5] at c3
  exact ⟨c1.trans e4, c2.trans e5, fun x h1 h2 => (c3 x h1 h2).trans (funext fun j => hA _ j (remCL_in h1 j))⟩
/-- marked first, counted last -/
theorem RemC.late {m m1 M : zM} (hB : zB m) (hM : MarkC m m1) (hm : ∀ j, j < 59 → m1 (30 + frs m) j = cmom m j) (hA : Agree [(30, none), (31, none), (32, none), (33, none), (34, none), (35, none), (36, none), (37, none), (38, none), (39, none), (40, none), (41, none), (42, none)] m1 M) (hc : (m 28 5 < 12 ∧ M 28 5 = m 28 5 + 1 ∧ M 28 4 = m 28 4) ∨ (¬ m 28 5 < 12 ∧ M 28 5 = m 28 5 ∧ M 28 4 = Int.tmod (m 28 4 + 1) 13)) : RemC m M := by
  have b4 : 0 ≤ m 28 4 ∧ m 28 4 ≤ 12 := hB 28 4
  have b5 : 0 ≤ m 28 5 ∧ m 28 5 ≤ 12 := hB 28 5
  obtain ⟨c1, c2, c3⟩ := hM
  have hf := frsE hB
  obtain ⟨u, hu⟩ : ∃ u : Nat, m 28 5 = (u : Int) := ⟨(m 28 5).toNat, by omega⟩
  have er : ∀ x, x < 13 → M (30 + x) = m1 (30 + x) := fun x hx => funext fun j => hA _ j (by
    match x, hx with
    | 0, _ => rfl
    | 1, _ => rfl
    | 2, _ => rfl
    | 3, _ => rfl
    | 4, _ => rfl
    | 5, _ => rfl
    | 6, _ => rfl
    | 7, _ => rfl
    | 8, _ => rfl
    | 9, _ => rfl
    | 10, _ => rfl
    | 11, _ => rfl
    | 12, _ => rfl)
  rw [hu, Int.toNat_natCast] at hf c3
  have h2 := Int.tmod_def (m 28 4 + 1) 13
  have h3 := z_tmodB (m 28 4 + 1) 13 12 (by omega) (by omega) (by omega)
  generalize Int.tmod (m 28 4 + 1) 13 = t at h2 h3 hc
  generalize Int.tdiv (m 28 4 + 1) 13 = q at h2
  refine ⟨u, if u < 12 then 0 else 1, hu, ?_, ?_, ?_, fun x hx hne => by rw [er x hx]; exact c3 x hx hne, fun j hj => ?_⟩
  · split <;> omega
  · split <;> omega
  · split <;> omega
  · rw [er _ (by omega), ← hf]
    exact hm j hj
section ZYearW
variable {T : Nat → Nat → zG → (Option zA → zM → Prop) → Prop} {B : Int}
noncomputable def ycL : zLs := [(2, some 1), (2, some 2), (2, some 3), (49, none), (50, none), (51, none)] ++ (remCL ++ (ydL ++ [(17, some 10), (72, some 1), (73, none)]))
set_option maxHeartbeats 4000000 in
theorem w_year (hT : zRules T) (hB4 : B + 270 ≤ 400000) : Way T 128 238 [(0, zr 1)] [(0, zr 74)] 7 173 B (B + 270) True := by
  rintro D m sc ⟨n, k, hIB⟩ κ hκ
  have i10' := hIB.2.2.2.2.2.2.2.2.2.1
  have hI0 := hIB.up (show B ≤ B + 270 by omega)
  obtain ⟨i1, i2, i3, i4, i5, i6, i7, i8, i9, i10, i11⟩ := hIB
  have b21 : 0 ≤ m 2 1 ∧ m 2 1 ≤ 80 := i1 2 1
  have b17 : 0 ≤ m 17 0 ∧ m 17 0 ≤ 6 := i1 17 0
  have b171 : 0 ≤ m 17 1 ∧ m 17 1 ≤ 8 := i1 17 1
  have i40 := i4
  obtain ⟨⟨n1, n2⟩, ⟨k1, k2⟩, hh, hRel, hok⟩ := i4
  obtain ⟨L, hL⟩ : ∃ L : Nat, m 2 1 = (L : Int) := ⟨(m 2 1).toNat, by omega⟩
  obtain ⟨L60, hL60⟩ : ∃ L60 : Nat, (L60 = L ∨ L60 = 60) ∧ L60 ≤ L ∧ L60 ≤ 60 := by
    rcases Nat.lt_or_ge L 60 with h | h
    · exact ⟨L, Or.inl rfl, Nat.le_refl L, by omega⟩
    · exact ⟨60, Or.inr rfl, h, Nat.le_refl 60⟩
  have hs : ∀ a, L60 ≤ a → sgT m 60 a = -1 := fun a ha => by
    unfold sgT
    rw [if_neg (by omega)]
  generalize hsd : sgT m 60 = s at hs
  generalize hrun : (fun j d a => yrun (lawR m) (m 24 0) n k (actV s) j d a) = run
  have eRun : ∀ j d a, yrun (lawR m) (m 24 0) n k (actV s) j d a = run j d a := fun j d a => by rw [← hrun]
  -- where the reference begins
  have begR : ∀ M1 N : zM, zFr (inL ycL) m M1 → N = (zu (zu (zu (zu (zu (zu (zu M1 74 12 0) 74 13 80) 74 14 (M1 74 9)) 74 15 60) 74 16 0) 74 17 (-1)) 74 9 0) →
      N 74 13 = 80 ∧ N 74 14 = (L : Int) ∧ N 74 16 = 0 ∧ N 74 17 = -1 ∧ N 74 9 = 0 ∧ s = sgR N 80 ∧ zFr (inL [(74, some 9), (74, some 12), (74, some 13), (74, some 14), (74, some 15), (74, some 16), (74, some 17)]) M1 N := by
    intro M1 N hF1 hN
    have f14 : N 74 14 = m 2 1 := by
      rw [hN]
      simp (disch := omega) only [zu_off, zu_sm]
      rw [hF1 74 9 rfl]
      exact i2.1
    have f15 : N 74 15 = 60 := by rw [hN]; simp (disch := omega) only [zu_off, zu_sm]
    have hFN : zFr (inL [(74, some 9), (74, some 12), (74, some 13), (74, some 14), (74, some 15), (74, some 16), (74, some 17)]) M1 N := by
      rw [hN]
      exact ((((((zFr.refl.set rfl).set rfl).set rfl).set rfl).set rfl).set rfl).set rfl
    refine ⟨by rw [hN]; simp (disch := omega) only [zu_off, zu_sm], f14.trans hL, by rw [hN]; simp (disch := omega) only [zu_off, zu_sm], by rw [hN]; simp (disch := omega) only [zu_off, zu_sm], by rw [hN]; simp (disch := omega) only [zu_sm], ?_, hFN⟩
    rw [← hsd]
    exact (sT_R i2 (fun j => (hFN 80 j rfl).trans (hF1 80 j rfl)) f14 f15).symm
  -- at fault
  have refF : ∀ x M1, 0 < L → yrP s L 30 0 0 = .inl x → zB M1 → zFr (inL [(2, some 1), (2, some 2), (2, some 3), (49, none), (50, none), (51, none)]) m M1 → M1 2 1 = 0 → κ (some (zi (-1 - (x : Int)))) M1 := by
    intro x M1 h0L hx hB1 hF1 h21
    refine hκ _ _ (fun D2 κ2 h2 => ?_)
    have e9 : M1 74 9 = (L : Int) := by rw [hF1 74 9 rfl, i2.1, hL]
    refine zb238_0 (D := D2 + 168) hT hB1 (fun q => by omega) (fun _ hz => ?_)
    generalize hN : (zu (zu (zu (zu (zu (zu (zu M1 74 12 0) 74 13 80) 74 14 (M1 74 9)) 74 15 60) 74 16 0) 74 17 (-1)) 74 9 0) = N at hz ⊢
    obtain ⟨f13, f14, f16, f17, f9, hsR, hFN⟩ := begR M1 N (hF1.sub (inL_sub (by decide))) hN.symm
    refine z_actsR (D := D2 + 168) (L := L) (L60 := L60) hT hz f13 hsR f14 (by omega) hL60.2.2 hL60.2.1 hs f16 f17 (fun y M2 hy hB2 hF2 => ?_) (fun q M2 hq => by rw [hx] at hq; cases hq)
    rw [hx] at hy
    cases hy
    refine h2 _ _ (fun _ => rfl) ⟨n, k, Inv_nt hI0 hB2 ((Agree.of hF1 rfl).trans ((Agree.of hFN rfl).trans (.of hF2 rfl))) ?_ ?_⟩
    · rw [hF2 2 1 rfl, hFN 2 1 rfl, h21]
    · rw [hF2 74 9 rfl, f9]
  -- done
  have refG : ∀ (n0 dn : Nat) (A : zS) (M1 m3 : zM), ((L = 0 ∧ n0 = 0) ∨ (0 < L ∧ yrP s L 30 0 0 = .inr n0)) → run n0 0 (m 75, 0, 0, 0) = (dn, A) → zB M1 → zFr (inL ycL) m M1 → M1 2 1 = 0 → RelA n k m3 A → okRow n k A.1 → A.1 57 ≤ B + 270 → Agree [(17, some 11), (19, none), (20, none), (21, none), (22, none), (23, none), (25, some 2), (26, none)] m3 M1 → M1 17 10 = A.1 58 - wr (A.2.1 * m 24 1 + A.2.2.1 * m 24 2) → ((dn = 0 ∧ MarkC m M1) ∨ (0 < dn ∧ RemC m M1)) → κ (some (zi (dn : Int))) M1 := by
    intro n0 dn A M1 m3 hn0 hrn hB1 hF1 h21 hR3 hokA hA57 hA3 h10 hist
    refine hκ _ _ (fun D2 κ2 h2 => ?_)
    have e9 : M1 74 9 = (L : Int) := by rw [hF1 74 9 rfl, i2.1, hL]
    generalize hcost : wr (A.2.1 * m 24 1 + A.2.2.1 * m 24 2) = cst at h10
    -- from the acts on
    have go : ∀ (N : zM), n0 ≤ 30 → zB N → zFr (inL ([(74, some 9), (74, some 12), (74, some 13), (74, some 14), (74, some 15), (74, some 16), (74, some 17), (89, none)])) M1 N → N 74 9 = 0 → (∀ i, i < n0 → actOR s (N 89) i) → T (D2 + 172) 228 (0, [(0, zr 75), (1, zr 88), (2, zi 0)], [], N) (fun r m1 => T (D2 + 173) 238 (115, [(0, zr 74), (1, zi (n0 : Int)), (2, zi 0)], r.toList ++ [], m1) κ2) := by
      intro N hn30 hBN hFN f9 hacts
      refine z_lay_75_88 (D := D2 + 171) (k := 0) hT (Nat.le_refl 0) ?_
      have hBc : zB (z_cp N 75 88 0 0 59) := zB_cpB hBN rfl
      refine zb238_115 (D := D2 + 168) (lo := [(0, zr 74), (1, zi (n0 : Int)), (2, zi 0)]) hT rfl hBc hn30 (fun hz => ?_)
      have hF0 : zFr (inL [(74, some 9), (74, some 12), (74, some 13), (74, some 14), (74, some 15), (74, some 16), (74, some 17), (74, some 31), (74, some 32), (74, some 33), (88, none), (89, none)]) M1 (zu (zu (zu (z_cp N 75 88 0 0 59) 74 31 0) 74 32 0) 74 33 0) := ((((hFN.sub (inL_sub (by decide))).cp (fun _ => rfl)).set rfl).set rfl).set rfl
      have e88 : ∀ j, j < 59 → (zu (zu (zu (z_cp N 75 88 0 0 59) 74 31 0) 74 32 0) 74 33 0) 88 j = m 75 j := fun j hj => by
        rw [zu_dn (by omega), zu_dn (by omega), zu_dn (by omega), z_cp_in (by omega), Nat.zero_add, Nat.sub_zero, hFN 75 j rfl, hF1 75 j rfl]
      have e89 : (zu (zu (zu (z_cp N 75 88 0 0 59) 74 31 0) 74 32 0) 74 33 0) 89 = N 89 := by
        rw [zu_dnR (by omega), zu_dnR (by omega), zu_dnR (by omega), z_cp_ne (by omega)]
      have hR0 : RelR 75 (zu (zu (zu (z_cp N 75 88 0 0 59) 74 31 0) 74 32 0) 74 33 0) (m 75, 0, 0, 0) := ⟨funext fun j => (hF0 75 j rfl).trans (hF1 75 j rfl), by simp (disch := omega) only [zu_off, zu_sm], by simp (disch := omega) only [zu_off, zu_sm], by simp (disch := omega) only [zu_sm]⟩
      have f90 : (zu (zu (zu (z_cp N 75 88 0 0 59) 74 31 0) 74 32 0) 74 33 0) 74 9 = 0 := by
        rw [zu_off (by omega), zu_off (by omega), zu_off (by omega), z_cp_dn (by omega), f9]
      generalize (zu (zu (zu (z_cp N 75 88 0 0 59) 74 31 0) 74 32 0) 74 33 0) = N0 at hz hF0 e88 e89 hR0 f90 ⊢
      rw [← e89] at hacts
      have hFm : zFr (inL (ycL ++ [(74, some 9), (74, some 12), (74, some 13), (74, some 14), (74, some 15), (74, some 16), (74, some 17), (74, some 31), (74, some 32), (74, some 33), (88, none), (89, none)])) m N0 := (hF1.sub (inL_sub (by decide))).trans (hF0.sub (inL_sub (by decide)))
      have hA0 : Agree KL m N0 := .of hFm rfl
      have e79 : ∀ j, j < 3 → N0 79 j = m 24 j := fun j hj => by
        rw [hFm 79 j rfl]
        exact i5 j hj
      have eL0 : lawR N0 = lawR m := by
        unfold lawR
        rw [hA0.law.2, show N0 78 = m 78 from funext fun j => hFm 78 j rfl]
      -- the end: the bill is paid
      have fin : ∀ (d : Nat) (a : zS) (M : zM), d ≤ 30 → (d, a) = (dn, A) → zB M → zFr (inL ydRL) N0 M → RelR 75 M a → ∀ Mz : zM, zB Mz → ((dn = 0 ∧ zFr (inL [(74, some 11), (81, none)]) (zu M 75 58 ((M 75 58) - wr (((M 79 1) * (M 74 31)) + ((M 79 2) * (M 74 32))))) Mz) ∨ (0 < dn ∧ ∃ m4, Rem (zu M 75 58 ((M 75 58) - wr (((M 79 1) * (M 74 31)) + ((M 79 2) * (M 74 32))))) m4 (M 88) ∧ zFr (inL [(74, some 35), (87, none)]) (zu M 75 58 ((M 75 58) - wr (((M 79 1) * (M 74 31)) + ((M 79 2) * (M 74 32))))) m4 ∧ zFr (inL [(74, some 11), (81, none)]) m4 Mz)) → κ2 (some (zi (d : Int))) Mz := by
        intro d a M hd30 hda hBM hFM hR Mz hBz hcase
        cases hda
        obtain ⟨g1, g2, g3, g4⟩ := hR
        have f79 : ∀ j, j < 3 → M 79 j = m 24 j := fun j hj => by rw [hFM 79 j rfl, e79 j hj]
        have ec : wr (((M 79 1) * (M 74 31)) + ((M 79 2) * (M 74 32))) = cst := by
          rw [f79 1 (by omega), f79 2 (by omega), g2, g3, Int.mul_comm (m 24 1), Int.mul_comm (m 24 2), hcost]
        rw [ec] at hcase
        have hFp : zFr (inL ydRL) N0 (zu M 75 58 (M 75 58 - cst)) := hFM.set rfl
        have p75 : ∀ j, (zu M 75 58 (M 75 58 - cst)) 75 j = if j = 58 then A.1 58 - cst else A.1 j := fun j => by rw [zu_at, g1]
        have e88M : ∀ j, j < 59 → M 88 j = m 75 j := fun j hj => (hFM 88 j rfl).trans (e88 j hj)
        generalize zu M 75 58 (M 75 58 - cst) = Mp at hcase hFp p75
        have hFz : zFr (inL [(74, some 11), (74, some 35), (81, none), (87, none)]) Mp Mz := by
          rcases hcase with ⟨_, h⟩ | ⟨_, m4, _, h, h'⟩
          · exact h.sub (inL_sub (by decide))
          · exact (h.sub (inL_sub (by decide))).trans (h'.sub (inL_sub (by decide)))
        have hF0z : zFr (inL (ydRL ++ [(74, some 11), (74, some 35), (81, none), (87, none)])) N0 Mz := (hFp.sub (inL_sub (by decide))).trans (hFz.sub (inL_sub (by decide)))
        have hF1z : zFr (inL (ydRL ++ [(74, some 9), (74, some 11), (74, some 12), (74, some 35), (81, none), (87, none), (88, none), (89, none)])) M1 Mz := (hF0.sub (inL_sub (by decide))).trans (hF0z.sub (inL_sub (by decide)))
        have hFall : zFr (inL (ycL ++ (ydRL ++ [(74, some 9), (74, some 11), (74, some 12), (74, some 35), (81, none), (87, none), (88, none), (89, none)]))) m Mz := (hF1.sub (inL_sub (by decide))).trans (hF1z.sub (inL_sub (by decide)))
        have z75 : ∀ j, Mz 75 j = if j = 58 then A.1 58 - cst else A.1 j := fun j => (hFz 75 j rfl).trans (p75 j)
        have h4 : HouseRel n k Mz := House_pay (g := A.1) (m3 := m3) (by omega) (by omega) i40 (.of hFall rfl) hR3.1 (hA3.trans (.of hF1z rfl)) ((hF1z 17 10 rfl).trans h10) z75 hokA
        have hU : UndoRel B n k Mz := by
          rcases hcase with ⟨d0, h⟩ | ⟨d1, m4, hM4, hF4, h'⟩
          · rcases hist with ⟨_, hC⟩ | ⟨x, _⟩
            · refine Undo_mark i1 (by omega) (by omega) i6 hC (.of hF1z rfl) ?_
              exact (Agree.of hF1 rfl).trans ((Agree.of hF0 rfl).trans ((Agree.of hFp rfl).trans (.of h rfl)))
            · omega
          · rcases hist with ⟨x, _⟩ | ⟨_, hC⟩
            · omega
            · refine Undo_rem (by omega) (by omega) i6 hRel hok i10' hC (.of hF1z rfl) ((Agree.of hF1 rfl).trans ((Agree.of hF0 rfl).trans (.of hFp rfl))) (.of h' rfl) ?_
              obtain ⟨u, s', q1, q2, q3, q4, q5⟩ := hM4
              exact ⟨u, s', q1, q2, q3, q4, fun j hj => (q5 j hj).trans (e88M j hj)⟩
        have hU2 : UndoRel (B + 270) n k Mz := ⟨hU.1, fun i hi => by
          obtain ⟨u1, u2, u3⟩ := hU.2 i hi
          exact ⟨u1, u2, by omega⟩⟩
        refine h2 _ _ (fun _ => rfl) ⟨n, k, hBz, ⟨?_, fun j hj => ?_⟩, (Agree.of hFall rfl).law.1 hI0.2.2.1, h4, Term_fr (.of hFall rfl) i5, hU2, Kept_fr (.of hFall rfl) hI0.2.2.2.2.2.2.1, Seen_fr (.of hFall rfl) i8, Job_fr (.of hFall rfl) i9, ?_, Scr_fr (.of hFall rfl) i11⟩
        · rw [hF0z 74 9 rfl, hF1z 2 1 rfl, f90, h21]
        · rw [hF1z 2 1 rfl, h21] at hj
          omega
        · rw [z75, if_neg (by omega)]
          exact hA57
      -- the end of the loop
      have stop : ∀ (d : Nat) (a : zS) (M : zM), d ≤ n0 → (d, a) = (dn, A) → zB M → zFr (inL ydRL) N0 M → RelR 75 M a → ∀ Q : zM → Prop, (∀ Mz, zB Mz → (dn = 0 ∧ zFr (inL [(74, some 11), (81, none)]) (zu M 75 58 ((M 75 58) - wr (((M 79 1) * (M 74 31)) + ((M 79 2) * (M 74 32))))) Mz) → κ2 (some (zi (d : Int))) Mz) ∧ (0 < d → zB (zu M 75 58 ((M 75 58) - wr (((M 79 1) * (M 74 31)) + ((M 79 2) * (M 74 32))))) → T (D2 + 172) 229 (0, [(0, zr 74), (1, zr 88)], [], (zu M 75 58 ((M 75 58) - wr (((M 79 1) * (M 74 31)) + ((M 79 2) * (M 74 32)))))) (fun r m1 => T (D2 + 173) 238 (168, [(0, zr 74), (1, zi (n0 : Int)), (3, zi (d : Int))], r.toList ++ [], m1) κ2)) := by
        intro d a M hd hda hBM hFM hR Q
        have hdn : d = dn := congrArg Prod.fst hda
        refine ⟨fun Mz hBz hc => fin d a M (by omega) hda hBM hFM hR Mz hBz (Or.inl hc), fun h0d hz3 => ?_⟩
        refine z_remR_88 (D := D2 + 170) hT hz3 (fun m4 hB4' hF4 hM4 => ?_)
        have hF4b := hF4.sub remWL
        rw [zu_dnR (by omega)] at hM4
        have fz := fin d a M (by omega) hda hBM hFM hR
        exact zb238_168 (D := D2 + 168) (lo := [(0, zr 74), (1, zi (n0 : Int)), (3, zi (d : Int))]) hT rfl hB4' hn30 (by omega) (fun _ hz5 => fz _ hz5 (Or.inr ⟨by omega, m4, hM4, hF4b, ((((zFr.refl.set rfl).set rfl).set rfl).set rfl).set rfl⟩)) (fun _ hz5 => fz _ hz5 (Or.inr ⟨by omega, m4, hM4, hF4b, ((((zFr.refl.set rfl).set rfl).set rfl).set rfl).set rfl⟩))
      have loop : ∀ (j d : Nat) (a : zS) (M : zM), d + j = n0 → run j d a = (dn, A) → zB M → zFr (inL ydRL) N0 M → RelR 75 M a → okRow n k a.1 → a.1 57 ≤ m 75 57 + 9 * d → T (D2 + 173) 238 (121, [(0, zr 74), (1, zi (n0 : Int)), (3, zi (d : Int))], [], M) κ2 := by
        intro j
        induction j with
        | zero =>
          intro d a M hd hrd hBM hFM hR ho h57
          rw [← eRun, yrun] at hrd
          have hdn : d = dn := congrArg Prod.fst hrd
          obtain ⟨s1, s2⟩ := stop d a M (by omega) hrd hBM hFM hR (fun _ => True)
          exact zb238_121 (D := D2 + 168) hT rfl hBM hn30 (by omega) (fun _ q hz3 => s1 _ hz3 ⟨by omega, ((((zFr.refl.set rfl).set rfl).set rfl).set rfl).set rfl⟩) (fun _ q hz3 => s2 (by omega) hz3) (fun q => by omega)
        | succ j ih =>
          intro d a M hd hrd hBM hFM hR ho h57
          obtain ⟨f, v, b, a1, a2, a3, a4⟩ := hacts d (by omega)
          obtain ⟨av, ao⟩ := actV_ok hs a1
          have e89M : ∀ j, M 89 j = N0 89 j := fun j => hFM 89 j rfl
          have hA : Agree KL N0 M := .of hFM rfl
          have eL : lawR M = lawR m := by
            rw [← eL0]
            unfold lawR
            rw [hA.law.2, show M 78 = N0 78 from funext fun j => hFM 78 j rfl]
          have e790 : M 79 0 = m 24 0 := (hFM 79 0 rfl).trans (e79 0 (by omega))
          rw [← eRun, yrun, av] at hrd
          dsimp only at hrd
          refine zb238_121 (D := D2 + 168) hT rfl hBM hn30 (by omega) (fun q => by omega) (fun q => by omega) (fun _ => ?_)
          rw [show (3 : Int) * (d : Int) = ((3 * d : Nat) : Int) by omega]
          refine z_actDo (D := D2) (n := n) (k := k) (a := a) (kd := s (stY s d)) (f := f) (g := v) hT hBM ((hFM 74 4 rfl).trans ((hFm 74 4 rfl).trans n2)) ((hFM 74 6 rfl).trans ((hFm 74 6 rfl).trans k2)) (hA.law.1 (hA0.law.1 i3)) hR ho (by omega) ao (by omega) (by rw [e89M]; exact a2) (by rw [e89M]; exact a3) (fun q => by rw [e89M]; exact a4 q) (fun e => ?_) (fun c M2 e hB2 hF2 hR2 ho2 h572 => ?_)
          · rw [eL, e790] at e
            rw [e] at hrd
            have hdn : d = dn := congrArg Prod.fst hrd
            obtain ⟨s1, s2⟩ := stop d a M (by omega) hrd hBM hFM hR (fun _ => True)
            exact zb238_133 (D := D2 + 168) hT rfl hBM hn30 (by omega) (by omega) (fun _ q _ hz3 => s1 _ hz3 ⟨by omega, ((((zFr.refl.set rfl).set rfl).set rfl).set rfl).set rfl⟩) (fun _ q _ hz3 => s1 _ hz3 ⟨by omega, ((((zFr.refl.set rfl).set rfl).set rfl).set rfl).set rfl⟩) (fun _ q hz3 => s2 (by omega) hz3) (fun q => absurd rfl q)
          · rw [eL, e790] at e
            rw [e] at hrd
            dsimp only at hrd
            rw [eRun] at hrd
            refine zb238_133 (D := D2 + 168) hT rfl hB2 hn30 (by omega) (by omega) (fun q => by omega) (fun q => by omega) (fun q => by omega) (fun _ => ?_)
            exact ih (d + 1) c M2 (by omega) hrd hB2 (hFM.trans hF2) hR2 ho2 (by omega)
      exact loop n0 0 (m 75, 0, 0, 0) N0 (by omega) hrn hz zFr.refl hR0 hok (by dsimp only; omega)
    rcases hn0 with ⟨l0, rfl⟩ | ⟨l1, hyr⟩
    · refine zb238_0 (D := D2 + 168) hT hB1 (fun _ hz => ?_) (fun q => by omega)
      generalize hN : (zu (zu (zu (zu (zu (zu (zu M1 74 12 0) 74 13 80) 74 14 (M1 74 9)) 74 15 60) 74 16 0) 74 17 (-1)) 74 9 0) = N at hz ⊢
      obtain ⟨f13, f14, f16, f17, f9, hsR, hFN⟩ := begR M1 N hF1 hN.symm
      refine zb238_39a (D := D2 + 168) (n := 0) hT rfl hz f13 (by omega) (by omega) (by omega) (fun _ => ?_) (fun q => by omega)
      exact go N (by omega) hz (hFN.sub (inL_sub (by decide))) f9 (fun i hi => by omega)
    · refine zb238_0 (D := D2 + 168) hT hB1 (fun q => by omega) (fun _ hz => ?_)
      generalize hN : (zu (zu (zu (zu (zu (zu (zu M1 74 12 0) 74 13 80) 74 14 (M1 74 9)) 74 15 60) 74 16 0) 74 17 (-1)) 74 9 0) = N at hz ⊢
      obtain ⟨f13, f14, f16, f17, f9, hsR, hFN⟩ := begR M1 N hF1 hN.symm
      refine z_actsR (D := D2 + 168) (L := L) (L60 := L60) hT hz f13 hsR f14 (by omega) hL60.2.2 hL60.2.1 hs f16 f17 (fun y M2 hy => by rw [hyr] at hy; cases hy) (fun q M2 hq q1 q30 hB2 hF2 hacts => ?_)
      rw [hyr] at hq
      cases hq
      exact go M2 q30 hB2 ((hFN.sub (inL_sub (by decide))).trans (hF2.sub (inL_sub (by decide)))) ((hF2 74 9 rfl).trans f9) hacts
  -- the class: from the mark on
  have cls : ∀ (n0 : Nat) (Mx : zM), n0 ≤ 30 → ((L = 0 ∧ n0 = 0) ∨ (0 < L ∧ yrP s L 30 0 0 = .inr n0)) → zB Mx → zFr (inL [(2, some 1), (2, some 2), (2, some 3), (49, none), (50, none), (51, none)]) m Mx → Mx 2 1 = 0 → (∀ i, i < n0 → actOK s (Mx 49) (Mx 50) (Mx 51) i) → ∀ lo : zL, z_keep [0, 1] lo = [(0, zr 1), (1, zi (n0 : Int))] → T (D + 6) 16 (0, [(0, zr 28), (1, zr 17)], [], Mx) (fun r m1 => T (D + 7) 128 (56, lo, r.toList ++ [], m1) κ) := by
    intro n0 Mx hn30 hn0 hBx hFx h21 hacts lo hlo
    refine z_mark (D := D + 4) hT hBx (fun m1 hB1 hFr1 hmom => ?_)
    obtain ⟨hF1, hMk⟩ := z_markF hBx hFr1
    have hMk0 : MarkC m m1 := hMk.ag (.of hFx rfl)
    have efr : frs Mx = frs m := by
      unfold frs
      rw [hFx 28 4 rfl, hFx 28 5 rfl]
    have hmom0 : ∀ j, j < 59 → m1 (30 + frs m) j = cmom m j := fun j hj => by
      rw [← efr, hmom j hj]
      exact cmom_ag (.of hFx rfl) j
    refine zb128_56 hT hlo hB1 hn30 (fun hz => ?_)
    have hF0 : zFr (inL ([(2, some 1), (2, some 2), (2, some 3), (49, none), (50, none), (51, none)] ++ (remCL ++ [(17, some 12), (17, some 13), (17, some 14)]))) m (zu (zu (zu m1 17 12 0) 17 13 0) 17 14 0) := ((((hFx.sub (inL_sub (by decide))).trans (hF1.sub (inL_sub (by decide)))).set rfl).set rfl).set rfl
    have hF10 : zFr (inL [(17, some 12), (17, some 13), (17, some 14)]) m1 (zu (zu (zu m1 17 12 0) 17 13 0) 17 14 0) := ((zFr.refl.set rfl).set rfl).set rfl
    have hR0 : RelA n k (zu (zu (zu m1 17 12 0) 17 13 0) 17 14 0) (m 75, 0, 0, 0) := ⟨hRel.fr (.of hF0 rfl), by simp (disch := omega) only [zu_off, zu_sm], by simp (disch := omega) only [zu_off, zu_sm], by simp (disch := omega) only [zu_sm]⟩
    have g21 : (zu (zu (zu m1 17 12 0) 17 13 0) 17 14 0) 2 1 = 0 := by
      rw [zu_dn (by omega), zu_dn (by omega), zu_dn (by omega), hF1 2 1 rfl, h21]
    have eact : ∀ c j, (c = 49 ∨ c = 50 ∨ c = 51) → (zu (zu (zu m1 17 12 0) 17 13 0) 17 14 0) c j = Mx c j := fun c j hc => by
      rw [zu_dn (by omega), zu_dn (by omega), zu_dn (by omega)]
      rcases hc with rfl | rfl | rfl
      · exact hF1 49 j rfl
      · exact hF1 50 j rfl
      · exact hF1 51 j rfl
    generalize (zu (zu (zu m1 17 12 0) 17 13 0) 17 14 0) = M0 at hz hF0 hF10 hR0 g21 eact ⊢
    have hA0 : Agree KL m M0 := .of hF0 rfl
    have eL0 : lawM M0 = lawM m := by
      unfold lawM
      rw [hA0.law.2, show M0 18 = m 18 from funext fun j => hF0 18 j rfl]
    have eLL : ∀ i, i < n → lawM m i = lawR m i := fun i hi => by
      unfold lawM lawR
      rw [(hh i hi).1]
    -- the end
    have fin : ∀ (d : Nat) (a : zS) (M Mc : zM) (x : Int), d ≤ n0 → run n0 0 (m 75, 0, 0, 0) = (d, a) → okRow n k a.1 → a.1 57 ≤ m 75 57 + 9 * d → zB M → zFr (inL ydL) M0 M → RelA n k M a → zFr (inL [(28, some 4), (28, some 5)]) M Mc → ((d = 0 ∧ Mc 28 4 = M 28 4 ∧ Mc 28 5 = M 28 5) ∨ (0 < d ∧ ((M 28 5 < 12 ∧ Mc 28 5 = M 28 5 + 1 ∧ Mc 28 4 = M 28 4) ∨ (¬ M 28 5 < 12 ∧ Mc 28 5 = M 28 5 ∧ Mc 28 4 = Int.tmod (M 28 4 + 1) 13)))) → zB (zu (zu (zu (zu Mc 17 10 ((M 17 10) - wr (((M 17 12) * (M 24 1)) + ((M 17 13) * (M 24 2))))) 72 1 2) 73 0 x) 73 1 (wr (((M 17 12) * (M 24 1)) + ((M 17 13) * (M 24 2))))) → κ (some (zi (d : Int))) (zu (zu (zu (zu Mc 17 10 ((M 17 10) - wr (((M 17 12) * (M 24 1)) + ((M 17 13) * (M 24 2))))) 72 1 2) 73 0 x) 73 1 (wr (((M 17 12) * (M 24 1)) + ((M 17 13) * (M 24 2))))) := by
      intro d a M Mc x hd hrd ho h57 hBM hFM hR hFc hcase hzz
      obtain ⟨hR1, d1, d2, d3⟩ := hR
      have ec : wr (((M 17 12) * (M 24 1)) + ((M 17 13) * (M 24 2))) = wr (a.2.1 * m 24 1 + a.2.2.1 * m 24 2) := by
        rw [d1, d2, hFM 24 1 rfl, hFM 24 2 rfl, hF0 24 1 rfl, hF0 24 2 rfl]
      rw [ec] at hzz ⊢
      generalize hcst : wr (a.2.1 * m 24 1 + a.2.2.1 * m 24 2) = cst at hzz ⊢
      have hFe : zFr (inL [(28, some 4), (28, some 5), (17, some 10), (72, some 1), (73, none)]) M (zu (zu (zu (zu Mc 17 10 ((M 17 10) - cst)) 72 1 2) 73 0 x) 73 1 cst) := ((((hFc.sub (inL_sub (by decide))).set rfl).set rfl).set rfl).set rfl
      have e10 : (zu (zu (zu (zu Mc 17 10 ((M 17 10) - cst)) 72 1 2) 73 0 x) 73 1 cst) 17 10 = a.1 58 - cst := by
        rw [zu_dn (by omega), zu_dn (by omega), zu_dn (by omega), zu_sm rfl, hR1.2.2.2.2.2]
      have e28 : ∀ j, (zu (zu (zu (zu Mc 17 10 ((M 17 10) - cst)) 72 1 2) 73 0 x) 73 1 cst) 28 j = Mc 28 j := fun j => by
        rw [zu_dn (by omega), zu_dn (by omega), zu_dn (by omega), zu_dn (by omega)]
      generalize (zu (zu (zu (zu Mc 17 10 ((M 17 10) - cst)) 72 1 2) 73 0 x) 73 1 cst) = Me at hzz hFe e10 e28 ⊢
      have c284 : M 28 4 = m 28 4 := by rw [hFM 28 4 rfl, hF10 28 4 rfl]; exact hMk0.1
      have c285 : M 28 5 = m 28 5 := by rw [hFM 28 5 rfl, hF10 28 5 rfl]; exact hMk0.2.1
      have hmo : Agree [(30, none), (31, none), (32, none), (33, none), (34, none), (35, none), (36, none), (37, none), (38, none), (39, none), (40, none), (41, none), (42, none)] m1 Me := (Agree.of hF10 rfl).trans ((Agree.of hFM rfl).trans (.of hFe rfl))
      refine refG n0 d a Me M hn0 hrd hzz ?_ ?_ ⟨hR1, d1, d2, d3⟩ ho (by omega) (.of hFe rfl) (by rw [hcst]; exact e10) ?_
      · exact ((hF0.sub (inL_sub (by decide))).trans (hFM.sub (inL_sub (by decide)))).trans (hFe.sub (inL_sub (by decide)))
      · rw [hFe 2 1 rfl, hFM 2 1 rfl, g21]
      · rw [c284, c285, ← e28, ← e28] at hcase
        rcases hcase with ⟨h1, h2, h3⟩ | ⟨h1, h2⟩
        · refine Or.inl ⟨h1, h2, h3, fun y y1 y2 => ?_⟩
          rw [← hMk0.2.2 y y1 y2]
          exact funext fun j => hmo _ j (by
            match y, y1 with
            | 0, _ => rfl
            | 1, _ => rfl
            | 2, _ => rfl
            | 3, _ => rfl
            | 4, _ => rfl
            | 5, _ => rfl
            | 6, _ => rfl
            | 7, _ => rfl
            | 8, _ => rfl
            | 9, _ => rfl
            | 10, _ => rfl
            | 11, _ => rfl
            | 12, _ => rfl)
        · exact Or.inr ⟨h1, RemC.late i1 hMk0 hmom0 hmo h2⟩
    have loop : ∀ (j d : Nat) (a : zS) (M : zM), d + j = n0 → run j d a = run n0 0 (m 75, 0, 0, 0) → zB M → zFr (inL ydL) M0 M → RelA n k M a → okRow n k a.1 → a.1 57 ≤ m 75 57 + 9 * d → T (D + 7) 128 (65, [(0, zr 1), (1, zi (n0 : Int)), (2, zi (d : Int))], [], M) κ := by
      intro j
      induction j with
      | zero =>
        intro d a M hd hrd hBM hFM hR ho h57
        rw [← eRun, yrun] at hrd
        have fz := fun Mc x => fin d a M Mc x (by omega) hrd.symm ho h57 hBM hFM hR
        refine zb128_65 hT rfl hBM hn30 (by omega) (fun _ q hzz => ?_) (fun _ q q2 hzz => ?_) (fun _ q q2 hzz => ?_) (fun q => by omega)
        · exact fz M 0 zFr.refl (Or.inl ⟨by omega, rfl, rfl⟩) hzz
        · exact fz _ 0 (zFr.refl.set rfl) (Or.inr ⟨by omega, Or.inr ⟨q2, by rw [zu_off (by omega)], by rw [zu_sm rfl]⟩⟩) hzz
        · exact fz _ 0 (zFr.refl.set rfl) (Or.inr ⟨by omega, Or.inl ⟨q2, by rw [zu_sm rfl], by rw [zu_off (by omega)]⟩⟩) hzz
      | succ j ih =>
        intro d a M hd hrd hBM hFM hR ho h57
        refine zb128_65 hT rfl hBM hn30 (by omega) (fun q => by omega) (fun q => by omega) (fun q => by omega) (fun _ => ?_)
        obtain ⟨v, b, a1, a2, a3⟩ := hacts d (by omega)
        have e49 : M 49 d = Mx 49 d := (hFM 49 d rfl).trans (eact 49 d (by omega))
        have e50 : M 50 d = Mx 50 d := (hFM 50 d rfl).trans (eact 50 d (by omega))
        have e51 : M 51 d = Mx 51 d := (hFM 51 d rfl).trans (eact 51 d (by omega))
        obtain ⟨av, ao⟩ := actV_ok hs a1
        have hA : Agree KL M0 M := .of hFM rfl
        have eL : lawM M = lawM m := by
          rw [← eL0]
          unfold lawM
          rw [hA.law.2, show M 18 = M0 18 from funext fun j => hFM 18 j rfl]
        have e240 : M 24 0 = m 24 0 := (hFM 24 0 rfl).trans (hF0 24 0 rfl)
        have hdo : doA (lawM M) (M 24 0) n k a (Mx 49 d) (Mx 50 d) (Mx 51 d) = doA (lawR m) (m 24 0) n k a (s (stY s d)) (Mx 50 d) v := by
          rw [eL, e240, doA_congr eLL, a2]
          by_cases q : s (stY s d) = 107
          · unfold doA
            rw [if_pos q, if_pos q]
          · rw [a3 (by rw [a2]; exact q)]
        have ao2 : okA (Mx 49 d) (Mx 50 d) (Mx 51 d) := by
          rw [a2]
          obtain ⟨o1, o2, o3, o4, o5⟩ := ao
          exact ⟨o1, o2, fun q => by rw [a3 (by omega)]; exact o3 q, fun q => by rw [a3 (by omega)]; exact o4 q, fun q => by rw [a3 (by omega)]; exact o5 q⟩
        rw [← eRun, yrun, av] at hrd
        dsimp only at hrd
        rw [e49, e50, e51]
        refine z_doAct (D := D) (n := n) (k := k) (a := a) hT hBM ((hFM 17 0 rfl).trans ((hF0 17 0 rfl).trans n1)) ((hFM 17 1 rfl).trans ((hF0 17 1 rfl).trans k1)) (fun p hp => by rw [hFM 18 p rfl, hF0 18 p rfl]; have := (hh p hp).2; omega) (hA.law.1 (hA0.law.1 i3)).1 hR ho (by omega) ao2 (fun e => ?_) (fun c M2 e hB2 hF2 hR2 ho2 h572 => ?_)
        · rw [hdo] at e
          rw [e] at hrd
          have fz := fun Mc x => fin d a M Mc x (by omega) hrd.symm ho h57 hBM hFM hR
          refine zb128_101 (lo := [(0, zr 1), (1, zi (n0 : Int)), (2, zi (d : Int))]) hT rfl hBM hn30 (by omega) (by omega) (fun _ q _ hzz => ?_) (fun _ q _ hzz => ?_) (fun _ q q2 _ hzz => ?_) (fun _ q q2 _ hzz => ?_) (fun _ q q2 _ hzz => ?_) (fun _ q q2 _ hzz => ?_) (fun q => absurd rfl q)
          · exact fz M 0 zFr.refl (Or.inl ⟨by omega, rfl, rfl⟩) hzz
          · exact fz M 1 zFr.refl (Or.inl ⟨by omega, rfl, rfl⟩) hzz
          · exact fz _ 0 (zFr.refl.set rfl) (Or.inr ⟨by omega, Or.inr ⟨q2, by rw [zu_off (by omega)], by rw [zu_sm rfl]⟩⟩) hzz
          · exact fz _ 1 (zFr.refl.set rfl) (Or.inr ⟨by omega, Or.inr ⟨q2, by rw [zu_off (by omega)], by rw [zu_sm rfl]⟩⟩) hzz
          · exact fz _ 0 (zFr.refl.set rfl) (Or.inr ⟨by omega, Or.inl ⟨q2, by rw [zu_sm rfl], by rw [zu_off (by omega)]⟩⟩) hzz
          · exact fz _ 1 (zFr.refl.set rfl) (Or.inr ⟨by omega, Or.inl ⟨q2, by rw [zu_sm rfl], by rw [zu_off (by omega)]⟩⟩) hzz
        · rw [hdo] at e
          rw [e] at hrd
          dsimp only at hrd
          rw [eRun] at hrd
          refine zb128_101 (lo := [(0, zr 1), (1, zi (n0 : Int)), (2, zi (d : Int))]) hT rfl hB2 hn30 (by omega) (by omega) (fun q => by omega) (fun q => by omega) (fun q => by omega) (fun q => by omega) (fun q => by omega) (fun q => by omega) (fun _ => ?_)
          exact ih (d + 1) c M2 (by omega) hrd hB2 (hFM.trans hF2) hR2 ho2 (by omega)
    exact loop n0 0 (m 75, 0, 0, 0) M0 (by omega) rfl hz zFr.refl hR0 hok (by dsimp only; omega)
  -- THE TEXT is read
  have rd : ∀ Mb : zM, 0 < L → zB Mb → zFr (inL [(2, some 2), (2, some 3)]) m Mb → Mb 2 3 = 0 → s = sgC Mb → T (D + 6) 107 (0, [(0, zr 48), (1, zr 2)], [], Mb) (fun r m1 => T (D + 7) 128 (35, [(0, zr 1)], r.toList ++ [zr 1], m1) κ) := by
    intro Mb h0L hBb hFb h23 hsC
    refine z_actsC (D := D) (L := L) (L60 := L60) hT hBb hsC ((hFb 2 1 rfl).trans hL) hL60.2.2 hs h23 (fun x M1 hx hB1 hF1 g => ?_) (fun n0 M1 hn h1n h30 hB1 hF1 hacts => ?_)
    · refine zb128_35 (lo := [(0, zr 1)]) hT rfl hB1 (by omega) (fun q => absurd (by omega) q) (fun _ q => absurd (by rw [g]; omega) q) (fun _ _ hz => ?_)
      rw [g]
      exact refF x _ h0L hx hz (((hFb.sub (inL_sub (by decide))).trans (hF1.sub (inL_sub (by decide)))).set rfl) (by rw [zu_sm rfl])
    · refine zb128_35 (lo := [(0, zr 1)]) hT rfl hB1 (by omega) (fun _ hz => ?_) (fun q => by omega) (fun q => by omega)
      refine cls n0 _ h30 (Or.inr ⟨h0L, hn⟩) hz (((hFb.sub (inL_sub (by decide))).trans (hF1.sub (inL_sub (by decide)))).set rfl) (by rw [zu_sm rfl]) (fun i hi => ?_) _ rfl
      rw [zu_dnR (by omega), zu_dnR (by omega), zu_dnR (by omega)]
      exact hacts i hi
  refine zb128_0 hT i1 (fun q hz => ?_) (fun q q2 hz => ?_) (fun q q2 hz => ?_)
  · refine rd _ (by omega) hz ((zFr.refl.set rfl).set rfl) (by rw [zu_off (by omega), zu_sm rfl]) ?_
    rw [← hsd]
    refine (sT_C (m := m) (N := zu (zu m 2 3 0) 2 2 60) (mx := 60) (fun _ => rfl) ?_).symm
    rw [zu_sm rfl, if_neg (by omega)]
  · refine rd _ (by omega) hz ((zFr.refl.set rfl).set rfl) (by rw [zu_off (by omega), zu_sm rfl]) ?_
    rw [← hsd]
    refine (sT_C (m := m) (N := zu (zu m 2 3 0) 2 2 (m 2 1)) (mx := 60) (fun _ => rfl) ?_).symm
    rw [zu_sm rfl]
    by_cases e : m 2 1 < 60
    · rw [if_pos e]
    · rw [if_neg e]
      omega
  · exact cls 0 _ (by omega) (Or.inl ⟨by omega, rfl⟩) hz (((zFr.refl.set rfl).set rfl).set rfl) (by rw [zu_sm rfl]) (fun i hi => by omega) _ rfl
end ZYearW
end
