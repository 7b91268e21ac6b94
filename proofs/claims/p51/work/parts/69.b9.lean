section ZBlocks
variable {T : Nat → Nat → zG → (Option zA → zM → Prop) → Prop}
theorem zb50_0r (hT : zRules T) {D : Nat} {κ : Option zA → zM → Prop} {m : zM} 
    (o1 : ¬ wr (m 2 1) = 0 → T (D + 12) 52 (0, [(0, zr 9), (1, zr 2), (2, zi 0)], [], (zu m 9 8 0)) (fun r m1 => T (D + 13) 50 (18, [(0, zr 9), (1, zr 2)], r.toList ++ [], m1) κ))
    (o2 : wr (m 2 1) = 0 → κ (some (zi 0)) (zu (z_cp (z_cp (z_cp (zu m 9 8 0) 14 10 0 0 0) 15 11 0 0 0) 16 12 0 0 0) 9 4 0)) :
    T (D + 13) 50 (0, [(0, zr 9), (1, zr 2)], [], m) κ :=
  hT.1 [] 6 (D + 13) 50 _ κ (And.intro trivial (hT.1 [] 6 (D + 12) 65 _ _ (And.intro (fun a1 => (And.intro (z_b01L rfl) (hT.1 [] 6 (D + 13) 50 _ _ (And.intro (fun a3 => (z_litF a3 rfl).elim) (fun _ => (o1 a1)))))) (fun a2 => (And.intro (z_b01L rfl) (hT.1 [] 6 (D + 13) 50 _ _ (And.intro (fun _ => (hT.1 [] 6 (D + 13) 50 (40, [(0, zr 9), (1, zr 2)], [zr 10, zi 0, zr 14], (zu m 9 8 0)) _ (And.intro (And.intro (z_leL rfl) (And.intro (z_leL rfl) (And.intro (z_leL rfl) (And.intro (z_leL rfl) (z_leL rfl))))) (hT.1 [] 6 (D + 13) 50 (52, [(0, zr 9), (1, zr 2)], [zr 15], (z_cp (zu m 9 8 0) 14 10 0 0 0)) _ (hT.1 [] 6 (D + 13) 50 (62, [(0, zr 9), (1, zr 2)], [zi 0, zi 0, zr 11, zi 0, zr 15], (z_cp (zu m 9 8 0) 14 10 0 0 0)) _ (And.intro (And.intro (z_leL rfl) (And.intro (z_leL rfl) (And.intro (z_leL rfl) (And.intro (z_leL rfl) (z_leL rfl))))) (hT.1 [] 6 (D + 13) 50 (74, [(0, zr 9), (1, zr 2)], [zr 12, zi 0, zr 16], (z_cp (z_cp (zu m 9 8 0) 14 10 0 0 0) 15 11 0 0 0)) _ (And.intro (And.intro (z_leL rfl) (And.intro (z_leL rfl) (And.intro (z_leL rfl) (And.intro (z_leL rfl) (z_leL rfl))))) (hT.1 [] 6 (D + 13) 50 (84, [(0, zr 9), (1, zr 2)], [zr 9, zr 9], (z_cp (z_cp (z_cp (zu m 9 8 0) 14 10 0 0 0) 15 11 0 0 0) 16 12 0 0 0)) _ (And.intro trivial (o2 (Classical.byContradiction a2)))))))))))) (fun a4 => (a4 (z_litT rfl)).elim))))))))
theorem zb50_0 (hT : zRules T) {D : Nat} {κ : Option zA → zM → Prop} {m : zM}  (hB : zB m) 
    (k1 : ¬ (m 2 1) = 0 → zB (zu m 9 8 0) → T (D + 12) 52 (0, [(0, zr 9), (1, zr 2), (2, zi 0)], [], (zu m 9 8 0)) (fun r m1 => T (D + 13) 50 (18, [(0, zr 9), (1, zr 2)], r.toList ++ [], m1) κ))
    (k2 : (m 2 1) = 0 → zB (zu (z_cp (z_cp (z_cp (zu m 9 8 0) 14 10 0 0 0) 15 11 0 0 0) 16 12 0 0 0) 9 4 0) → κ (some (zi 0)) (zu (z_cp (z_cp (z_cp (zu m 9 8 0) 14 10 0 0 0) 15 11 0 0 0) 16 12 0 0 0) 9 4 0)) :
    T (D + 13) 50 (0, [(0, zr 9), (1, zr 2)], [], m) κ := by
  have hb0 : 0 ≤ (m 2 1) ∧ (m 2 1) ≤ 80 := hB 2 1
  have he0 : wr (m 2 1) = (m 2 1) := wr_id (by omega) (by omega)
  have key := @zb50_0r T hT D κ m 
  simp only [he0, Int.toNat_natCast] at key
  exact key
    (fun x0 => k1 x0 (zB_u hB (show 0 ≤ 0 ∧ 0 ≤ 40 from ⟨by omega, by omega⟩)))
    (fun x0 => k2 x0 (zB_u (zB_cpB (zB_cpB (zB_cpB (zB_u hB (show 0 ≤ 0 ∧ 0 ≤ 40 from ⟨by omega, by omega⟩)) rfl) rfl) rfl) (show 0 ≤ 0 ∧ 0 ≤ 40 from ⟨by omega, by omega⟩)))
theorem zb50_18r (hT : zRules T) {D : Nat} {κ : Option zA → zM → Prop} {m : zM} {v : Int} {lo : zL} (hlo : z_keep [0, 1] lo = [(0, zr 9), (1, zr 2)]) 
    (o1 : wr v = (-1) → κ (some (zi (-1))) m)
    (o2 : ¬ wr v = (-1) → ¬ wr (m 2 3) = wr (m 2 1) → κ (some (zi (-1))) m)
    (o3 : ¬ wr v = (-1) → wr (m 2 3) = wr (m 2 1) → ((0 : Int) ≤ 0 ∧ (0 : Int) ≤ 0 ∧ (0 : Int) ≤ wr (m 9 8) ∧ 0 + wr (m 9 8) ≤ 40 ∧ 0 + wr (m 9 8) ≤ 40))
    (o4 : ¬ wr v = (-1) → wr (m 2 3) = wr (m 2 1) → ((0 : Int) ≤ 0 ∧ (0 : Int) ≤ 0 ∧ (0 : Int) ≤ wr (m 9 8) ∧ 0 + wr (m 9 8) ≤ 40 ∧ 0 + wr (m 9 8) ≤ 40))
    (o5 : ¬ wr v = (-1) → wr (m 2 3) = wr (m 2 1) → ((0 : Int) ≤ 0 ∧ (0 : Int) ≤ 0 ∧ (0 : Int) ≤ wr (m 9 8) ∧ 0 + wr (m 9 8) ≤ 40 ∧ 0 + wr (m 9 8) ≤ 40))
    (o6 : ¬ wr v = (-1) → wr (m 2 3) = wr (m 2 1) → κ (some (zi 0)) (zu (z_cp (z_cp (z_cp m 14 10 0 0 ((wr (m 9 8)).toNat)) 15 11 0 0 ((wr (m 9 8)).toNat)) 16 12 0 0 ((wr (m 9 8)).toNat)) 9 4 (m 9 8))) :
    T (D + 13) 50 (18, lo, [zi v], m) κ :=
  zkeep hT hlo (hT.1 [] 6 (D + 13) 50 _ κ (And.intro (fun a1 => (o1 a1)) (fun a2 => (hT.1 [] 6 (D + 12) 68 _ _ (And.intro (fun a3 => (hT.1 [] 6 (D + 12) 68 (16, [(0, zr 2)], [zi 0], m) _ (And.intro (z_b01L rfl) (hT.1 [] 6 (D + 13) 50 _ _ (And.intro (fun a5 => (z_litF a5 rfl).elim) (fun _ => (o2 a2 a3))))))) (fun a4 => (hT.1 [] 6 (D + 12) 68 (12, [(0, zr 2)], [zi 1], m) _ (And.intro (z_b01L rfl) (hT.1 [] 6 (D + 13) 50 _ _ (And.intro (fun _ => (hT.1 [] 6 (D + 13) 50 (40, [(0, zr 9), (1, zr 2)], [zr 10, zi 0, zr 14], m) _ (And.intro (o3 a2 (Classical.byContradiction a4)) (hT.1 [] 6 (D + 13) 50 (52, [(0, zr 9), (1, zr 2)], [zr 15], (z_cp m 14 10 0 0 ((wr (m 9 8)).toNat))) _ (hT.1 [] 6 (D + 13) 50 (62, [(0, zr 9), (1, zr 2)], [zi (m 9 8), zi 0, zr 11, zi 0, zr 15], (z_cp m 14 10 0 0 ((wr (m 9 8)).toNat))) _ (And.intro (o4 a2 (Classical.byContradiction a4)) (hT.1 [] 6 (D + 13) 50 (74, [(0, zr 9), (1, zr 2)], [zr 12, zi 0, zr 16], (z_cp (z_cp m 14 10 0 0 ((wr (m 9 8)).toNat)) 15 11 0 0 ((wr (m 9 8)).toNat))) _ (And.intro (o5 a2 (Classical.byContradiction a4)) (hT.1 [] 6 (D + 13) 50 (84, [(0, zr 9), (1, zr 2)], [zr 9, zr 9], (z_cp (z_cp (z_cp m 14 10 0 0 ((wr (m 9 8)).toNat)) 15 11 0 0 ((wr (m 9 8)).toNat)) 16 12 0 0 ((wr (m 9 8)).toNat))) _ (And.intro trivial (o6 a2 (Classical.byContradiction a4)))))))))))) (fun a6 => (a6 (z_litT rfl)).elim)))))))))))
theorem zb50_18 (hT : zRules T) {D : Nat} {κ : Option zA → zM → Prop} {m : zM} {v : Int} {lo : zL} (hlo : z_keep [0, 1] lo = [(0, zr 9), (1, zr 2)])  (hB : zB m) (h_v : (-1) ≤ v ∧ v ≤ 39) (hf0 : 0 ≤ m 9 8 ∧ m 9 8 ≤ 40) (hf1 : 0 ≤ m 2 3 ∧ m 2 3 ≤ 80) 
    (k1 : v = (-1) → κ (some (zi (-1))) m)
    (k2 : ¬ v = (-1) → ¬ (m 2 3) = (m 2 1) → κ (some (zi (-1))) m)
    (k3 : ¬ v = (-1) → (m 2 3) = (m 2 1) → κ (some (zi 0)) (zu (z_cp (z_cp (z_cp m 14 10 0 0 ((m 9 8).toNat)) 15 11 0 0 ((m 9 8).toNat)) 16 12 0 0 ((m 9 8).toNat)) 9 4 (m 9 8))) :
    T (D + 13) 50 (18, lo, [zi v], m) κ := by
  have hb3 : 0 ≤ (m 2 1) ∧ (m 2 1) ≤ 80 := hB 2 1
  have he0 : wr v = v := wr_id (by omega) (by omega)
  have he1 : wr (m 2 3) = (m 2 3) := wr_id (by omega) (by omega)
  have he2 : wr (m 2 1) = (m 2 1) := wr_id (by omega) (by omega)
  have he3 : wr (m 9 8) = (m 9 8) := wr_id (by omega) (by omega)
  have key := @zb50_18r T hT D κ m v lo hlo
  simp only [he0, he1, he2, he3, Int.toNat_natCast] at key
  exact key
    k1
    k2
    (fun x0 x1 => by refine ⟨?_, ?_, ?_, ?_, ?_⟩ <;> omega)
    (fun x0 x1 => by refine ⟨?_, ?_, ?_, ?_, ?_⟩ <;> omega)
    (fun x0 x1 => by refine ⟨?_, ?_, ?_, ?_, ?_⟩ <;> omega)
    k3
theorem zb116_0r (hT : zRules T) {D : Nat} {κ : Option zA → zM → Prop} {m : zM} 
    (o1 : 40 < wr (m 2 1) → T (D + 13) 50 (0, [(0, zr 9), (1, zr 2)], [], (zu (zu m 2 3 0) 2 2 40)) (fun r m1 => T (D + 14) 116 (21, [(0, zr 1)], r.toList ++ [zr 1], m1) κ))
    (o2 : ¬ 40 < wr (m 2 1) → T (D + 13) 50 (0, [(0, zr 9), (1, zr 2)], [], (zu (zu m 2 3 0) 2 2 (wr (m 2 1)))) (fun r m1 => T (D + 14) 116 (21, [(0, zr 1)], r.toList ++ [zr 1], m1) κ)) :
    T (D + 14) 116 (0, [(0, zr 1)], [], m) κ :=
  hT.1 [] 6 (D + 14) 116 _ κ (hT.1 [] 6 (D + 13) 66 _ _ (And.intro trivial (hT.1 [] 6 (D + 13) 66 (10, [(0, zr 2), (1, zi 40)], [zi (m 2 1), zr 2], (zu m 2 3 0)) _ (hT.1 [] 6 (D + 12) 294 _ _ (And.intro (fun a1 => (hT.1 [] 6 (D + 13) 66 _ _ (And.intro trivial (hT.1 [] 6 (D + 14) 116 _ _ (o1 a1))))) (fun a2 => (hT.1 [] 6 (D + 13) 66 _ _ (And.intro trivial (hT.1 [] 6 (D + 14) 116 _ _ (o2 a2))))))))))
theorem zb116_0 (hT : zRules T) {D : Nat} {κ : Option zA → zM → Prop} {m : zM}  (hB : zB m) 
    (k1 : 40 < (m 2 1) → zB (zu (zu m 2 3 0) 2 2 40) → T (D + 13) 50 (0, [(0, zr 9), (1, zr 2)], [], (zu (zu m 2 3 0) 2 2 40)) (fun r m1 => T (D + 14) 116 (21, [(0, zr 1)], r.toList ++ [zr 1], m1) κ))
    (k2 : ¬ 40 < (m 2 1) → zB (zu (zu m 2 3 0) 2 2 (m 2 1)) → T (D + 13) 50 (0, [(0, zr 9), (1, zr 2)], [], (zu (zu m 2 3 0) 2 2 (m 2 1))) (fun r m1 => T (D + 14) 116 (21, [(0, zr 1)], r.toList ++ [zr 1], m1) κ)) :
    T (D + 14) 116 (0, [(0, zr 1)], [], m) κ := by
  have hb0 : 0 ≤ (m 2 1) ∧ (m 2 1) ≤ 80 := hB 2 1
  have he0 : wr (m 2 1) = (m 2 1) := wr_id (by omega) (by omega)
  have key := @zb116_0r T hT D κ m 
  simp only [he0, Int.toNat_natCast] at key
  exact key
    (fun x0 => k1 x0 (zB_u (zB_u hB (show (-1) ≤ 0 ∧ 0 ≤ 100 from ⟨by omega, by omega⟩)) (show 0 ≤ 40 ∧ 40 ≤ 80 from ⟨by omega, by omega⟩)))
    (fun x0 => k2 x0 (zB_u (zB_u hB (show (-1) ≤ 0 ∧ 0 ≤ 100 from ⟨by omega, by omega⟩)) (show 0 ≤ (m 2 1) ∧ (m 2 1) ≤ 80 from ⟨by omega, by omega⟩)))
theorem zb116_21r (hT : zRules T) {D : Nat} {κ : Option zA → zM → Prop} {m : zM} {v : Int} {lo : zL} (hlo : z_keep [] lo = []) 
    (o1 : ¬ wr v < 0 → κ (some (zi (wr (wr v)))) (zu m 2 1 0))
    (o2 : wr v < 0 → κ (some (zi (wr (wr ((-1) - (m 2 3)))))) (zu m 2 1 0)) :
    T (D + 14) 116 (21, lo, [zi v, zr 1], m) κ :=
  zkeep hT hlo (hT.1 [] 6 (D + 14) 116 _ κ (hT.1 [] 6 (D + 13) 168 _ _ (And.intro (fun a1 => (hT.1 [] 6 (D + 13) 168 (22, [(0, zr 1), (1, zi v), (2, zi v)], [zr 2], m) _ (And.intro trivial (hT.1 [] 6 (D + 14) 116 _ _ (o1 a1))))) (fun a2 => (hT.1 [] 6 (D + 13) 168 (12, [(0, zr 1), (1, zi v)], [zi (m 2 3), zi (-1)], m) _ (hT.1 [] 6 (D + 13) 168 (23, [(0, zr 1), (1, zi v), (2, zi ((-1) - (m 2 3)))], [zi 0, zr 2], m) _ (And.intro trivial (hT.1 [] 6 (D + 14) 116 _ _ (o2 (Classical.byContradiction a2))))))))))
theorem zb116_21 (hT : zRules T) {D : Nat} {κ : Option zA → zM → Prop} {m : zM} {v : Int} {lo : zL} (hlo : z_keep [] lo = [])  (hB : zB m) (h_v : (-1) ≤ v ∧ v ≤ 0) 
    (k1 : ¬ v < 0 → zB (zu m 2 1 0) → κ (some (zi v)) (zu m 2 1 0))
    (k2 : v < 0 → zB (zu m 2 1 0) → κ (some (zi ((-1) - (m 2 3)))) (zu m 2 1 0)) :
    T (D + 14) 116 (21, lo, [zi v, zr 1], m) κ := by
  have hb1 : (-1) ≤ (m 2 3) ∧ (m 2 3) ≤ 100 := hB 2 3
  have he0 : wr v = v := wr_id (by omega) (by omega)
  have he1 : wr ((-1) - (m 2 3)) = ((-1) - (m 2 3)) := wr_id (by omega) (by omega)
  have key := @zb116_21r T hT D κ m v lo hlo
  simp only [he0, he1, Int.toNat_natCast] at key
  exact key
    (fun x0 => k1 x0 (zB_u hB (show 0 ≤ 0 ∧ 0 ≤ 80 from ⟨by omega, by omega⟩)))
    (fun x0 => k2 x0 (zB_u hB (show 0 ≤ 0 ∧ 0 ≤ 80 from ⟨by omega, by omega⟩)))
theorem zb212_0r (hT : zRules T) {D : Nat} {κ : Option zA → zM → Prop} {m : zM} 
    (o1 : ¬ 0 < wr (m 74 9) → T (D + 5) 212 (73, [(0, zr 74), (1, zi (m 74 9)), (2, zi 0)], [], (zu (zu (zu (zu (zu (zu (zu (zu m 74 12 0) 74 13 80) 74 14 (m 74 9)) 74 15 40) 74 16 0) 74 17 (-1)) 74 9 0) 74 26 0)) κ)
    (o2 : 0 < wr (m 74 9) → T (D + 4) 208 (0, [(0, zr 74), (1, zi 0)], [], (zu (zu (zu (zu (zu (zu (zu (zu m 74 12 0) 74 13 80) 74 14 (m 74 9)) 74 15 40) 74 16 0) 74 17 (-1)) 74 9 0) 74 26 0)) (fun r m1 => T (D + 5) 212 (40, [(0, zr 74), (1, zi (m 74 9))], r.toList ++ [], m1) κ)) :
    T (D + 5) 212 (0, [(0, zr 74)], [], m) κ :=
  hT.1 [(73, [0, 1, 2])] 6 (D + 5) 212 _ κ (And.intro trivial (hT.1 [(73, [0, 1, 2])] 6 (D + 5) 212 (10, [(0, zr 74), (1, zi (m 74 9))], [], (zu m 74 12 0)) _ (hT.1 [] 6 (D + 4) 197 _ _ (And.intro trivial (hT.1 [] 6 (D + 4) 197 (10, [(0, zr 74), (1, zr 80), (2, zi (m 74 9)), (3, zi 40)], [], (zu (zu (zu m 74 12 0) 74 13 80) 74 14 (m 74 9))) _ (And.intro trivial (And.intro trivial (hT.1 [] 6 (D + 4) 197 (20, [(0, zr 74), (1, zr 80), (2, zi (m 74 9)), (3, zi 40)], [], (zu (zu (zu (zu (zu m 74 12 0) 74 13 80) 74 14 (m 74 9)) 74 15 40) 74 16 0)) _ (And.intro trivial (hT.1 [(73, [0, 1, 2])] 6 (D + 5) 212 _ _ (And.intro trivial (And.intro (z_b01L rfl) (hT.1 [(73, [0, 1, 2])] 6 (D + 5) 212 (31, [(0, zr 74), (1, zi (m 74 9))], [], (zu (zu (zu (zu (zu (zu (zu (zu m 74 12 0) 74 13 80) 74 14 (m 74 9)) 74 15 40) 74 16 0) 74 17 (-1)) 74 9 0) 74 26 0)) _ (And.intro (fun a1 => (o1 a1)) (fun a2 => (o2 (Classical.byContradiction a2)))))))))))))))))
theorem zb212_0 (hT : zRules T) {D : Nat} {κ : Option zA → zM → Prop} {m : zM}  (hB : zB m) 
    (k1 : ¬ 0 < (m 74 9) → zB (zu (zu (zu (zu (zu (zu (zu (zu m 74 12 0) 74 13 80) 74 14 (m 74 9)) 74 15 40) 74 16 0) 74 17 (-1)) 74 9 0) 74 26 0) → T (D + 5) 212 (73, [(0, zr 74), (1, zi (m 74 9)), (2, zi 0)], [], (zu (zu (zu (zu (zu (zu (zu (zu m 74 12 0) 74 13 80) 74 14 (m 74 9)) 74 15 40) 74 16 0) 74 17 (-1)) 74 9 0) 74 26 0)) κ)
    (k2 : 0 < (m 74 9) → zB (zu (zu (zu (zu (zu (zu (zu (zu m 74 12 0) 74 13 80) 74 14 (m 74 9)) 74 15 40) 74 16 0) 74 17 (-1)) 74 9 0) 74 26 0) → T (D + 4) 208 (0, [(0, zr 74), (1, zi 0)], [], (zu (zu (zu (zu (zu (zu (zu (zu m 74 12 0) 74 13 80) 74 14 (m 74 9)) 74 15 40) 74 16 0) 74 17 (-1)) 74 9 0) 74 26 0)) (fun r m1 => T (D + 5) 212 (40, [(0, zr 74), (1, zi (m 74 9))], r.toList ++ [], m1) κ)) :
    T (D + 5) 212 (0, [(0, zr 74)], [], m) κ := by
  have hb0 : 0 ≤ (m 74 9) ∧ (m 74 9) ≤ 80 := hB 74 9
  have he0 : wr (m 74 9) = (m 74 9) := wr_id (by omega) (by omega)
  have key := @zb212_0r T hT D κ m 
  simp only [he0, Int.toNat_natCast] at key
  exact key
    (fun x0 => k1 x0 (zB_u (zB_u (zB_u (zB_u (zB_u (zB_u (zB_u (zB_u hB trivial) trivial) (show 0 ≤ (m 74 9) ∧ (m 74 9) ≤ 80 from ⟨by omega, by omega⟩)) (show 0 ≤ 40 ∧ 40 ≤ 80 from ⟨by omega, by omega⟩)) (show 0 ≤ 0 ∧ 0 ≤ 100 from ⟨by omega, by omega⟩)) trivial) (show 0 ≤ 0 ∧ 0 ≤ 80 from ⟨by omega, by omega⟩)) (show 0 ≤ 0 ∧ 0 ≤ 1 from ⟨by omega, by omega⟩)))
    (fun x0 => k2 x0 (zB_u (zB_u (zB_u (zB_u (zB_u (zB_u (zB_u (zB_u hB trivial) trivial) (show 0 ≤ (m 74 9) ∧ (m 74 9) ≤ 80 from ⟨by omega, by omega⟩)) (show 0 ≤ 40 ∧ 40 ≤ 80 from ⟨by omega, by omega⟩)) (show 0 ≤ 0 ∧ 0 ≤ 100 from ⟨by omega, by omega⟩)) trivial) (show 0 ≤ 0 ∧ 0 ≤ 80 from ⟨by omega, by omega⟩)) (show 0 ≤ 0 ∧ 0 ≤ 1 from ⟨by omega, by omega⟩)))
theorem zb212_40r (hT : zRules T) {D : Nat} {κ : Option zA → zM → Prop} {m : zM} {n : Nat} {v : Int} {lo : zL} (hlo : z_keep [0, 1] lo = [(0, zr 74), (1, zi (n : Int))]) 
    (o1 : ¬ wr (m 74 16) < wr (n : Int) → ¬ wr (m 74 17) = (-1) → False)
    (o2 : ¬ wr (m 74 16) < wr (n : Int) → wr (m 74 17) = (-1) → T (D + 5) 212 (73, [(0, zr 74), (1, zi (n : Int)), (2, zi 0)], [], m) κ)
    (o3 : wr (m 74 16) < wr (n : Int) → ¬ wr (m 74 17) = (-1) → False)
    (o4 : wr (m 74 16) < wr (n : Int) → wr (m 74 17) = (-1) → ¬ wr (m 74 16) = (-1) → κ (some (zi (wr ((-1) - (m 74 16))))) (zu m 74 17 (m 74 16)))
    (o5 : wr (m 74 16) < wr (n : Int) → wr (m 74 17) = (-1) → wr (m 74 16) = (-1) → False) :
    T (D + 5) 212 (40, lo, [zi v], m) κ :=
  zkeep hT hlo (hT.1 [(73, [0, 1, 2])] 6 (D + 5) 212 _ κ (And.intro (fun a1 => (hT.1 [(73, [0, 1, 2])] 6 (D + 5) 212 (58, [(0, zr 74), (1, zi (n : Int))], [zr 74], m) _ (hT.1 [] 6 (D + 4) 199 _ _ (And.intro (fun a3 => (o1 a1 a3).elim) (fun a4 => (hT.1 [] 6 (D + 4) 199 (13, [(0, zr 74)], [zi 1], m) _ (And.intro (z_b01L rfl) (hT.1 [(73, [0, 1, 2])] 6 (D + 5) 212 _ _ (And.intro (fun _ => (o2 a1 (Classical.byContradiction a4))) (fun a5 => (a5 (z_litT rfl)).elim)))))))))) (fun a2 => (hT.1 [(73, [0, 1, 2])] 6 (D + 5) 212 (50, [(0, zr 74), (1, zi (n : Int))], [zr 74], m) _ (hT.1 [] 6 (D + 4) 200 _ _ (hT.1 [] 6 (D + 3) 199 _ _ (And.intro (fun a6 => (o3 (Classical.byContradiction a2) a6).elim) (fun a7 => (hT.1 [] 6 (D + 3) 199 (13, [(0, zr 74)], [zi 1], m) _ (And.intro (z_b01L rfl) (hT.1 [] 6 (D + 4) 200 _ _ (And.intro (fun a8 => (z_litF a8 rfl).elim) (fun _ => (And.intro trivial (hT.1 [(73, [0, 1, 2])] 6 (D + 5) 212 _ _ (hT.1 [] 6 (D + 4) 199 _ _ (And.intro (fun a9 => (And.intro (z_b01L rfl) (hT.1 [(73, [0, 1, 2])] 6 (D + 5) 212 _ _ (And.intro (fun a11 => (z_litF a11 rfl).elim) (fun _ => (o4 (Classical.byContradiction a2) (Classical.byContradiction a7) a9)))))) (fun a10 => (o5 (Classical.byContradiction a2) (Classical.byContradiction a7) (Classical.byContradiction a10)).elim))))))))))))))))))
theorem zb212_40 (hT : zRules T) {D : Nat} {κ : Option zA → zM → Prop} {m : zM} {n : Nat} {v : Int} {lo : zL} (hlo : z_keep [0, 1] lo = [(0, zr 74), (1, zi (n : Int))])  (hB : zB m) (h_n : n ≤ 80) (hf0 : (-1) ≤ m 74 17 ∧ m 74 17 ≤ (-1)) (hf1 : 0 ≤ m 74 16 ∧ m 74 16 ≤ 80) 
    (k1 : ¬ (m 74 16) < (n : Int) → T (D + 5) 212 (73, [(0, zr 74), (1, zi (n : Int)), (2, zi 0)], [], m) κ)
    (k2 : (m 74 16) < (n : Int) → zB (zu m 74 17 (m 74 16)) → κ (some (zi ((-1) - (m 74 16)))) (zu m 74 17 (m 74 16))) :
    T (D + 5) 212 (40, lo, [zi v], m) κ := by
  have he0 : wr (m 74 16) = (m 74 16) := wr_id (by omega) (by omega)
  have he1 : wr (n : Int) = (n : Int) := wr_id (by omega) (by omega)
  have he2 : wr (m 74 17) = (m 74 17) := wr_id (by omega) (by omega)
  have he3 : wr ((-1) - (m 74 16)) = ((-1) - (m 74 16)) := wr_id (by omega) (by omega)
  have key := @zb212_40r T hT D κ m n v lo hlo
  simp only [he0, he1, he2, he3, Int.toNat_natCast] at key
  exact key
    (fun x0 x1 => by omega)
    (fun x0 x1 => k1 x0)
    (fun x0 x1 => by omega)
    (fun x0 x1 x2 => k2 x0 (zB_u hB trivial))
    (fun x0 x1 x2 => by omega)
theorem zb212_40fr (hT : zRules T) {D : Nat} {κ : Option zA → zM → Prop} {m : zM} {n : Nat} {v : Int} {lo : zL} (hlo : z_keep [0, 1] lo = [(0, zr 74), (1, zi (n : Int))]) 
    (o1 : ¬ wr (m 74 16) < wr (n : Int) → ¬ wr (m 74 17) = (-1) → κ (some (zi (wr ((-1) - (m 74 17))))) m)
    (o2 : ¬ wr (m 74 16) < wr (n : Int) → wr (m 74 17) = (-1) → False)
    (o3 : wr (m 74 16) < wr (n : Int) → ¬ wr (m 74 17) = (-1) → ¬ wr (m 74 17) = (-1) → κ (some (zi (wr ((-1) - (m 74 17))))) m)
    (o4 : wr (m 74 16) < wr (n : Int) → ¬ wr (m 74 17) = (-1) → wr (m 74 17) = (-1) → False)
    (o5 : wr (m 74 16) < wr (n : Int) → wr (m 74 17) = (-1) → False) :
    T (D + 5) 212 (40, lo, [zi v], m) κ :=
  zkeep hT hlo (hT.1 [(73, [0, 1, 2])] 6 (D + 5) 212 _ κ (And.intro (fun a1 => (hT.1 [(73, [0, 1, 2])] 6 (D + 5) 212 (58, [(0, zr 74), (1, zi (n : Int))], [zr 74], m) _ (hT.1 [] 6 (D + 4) 199 _ _ (And.intro (fun a3 => (And.intro (z_b01L rfl) (hT.1 [(73, [0, 1, 2])] 6 (D + 5) 212 _ _ (And.intro (fun a5 => (z_litF a5 rfl).elim) (fun _ => (o1 a1 a3)))))) (fun a4 => (o2 a1 (Classical.byContradiction a4)).elim))))) (fun a2 => (hT.1 [(73, [0, 1, 2])] 6 (D + 5) 212 (50, [(0, zr 74), (1, zi (n : Int))], [zr 74], m) _ (hT.1 [] 6 (D + 4) 200 _ _ (hT.1 [] 6 (D + 3) 199 _ _ (And.intro (fun a6 => (And.intro (z_b01L rfl) (hT.1 [] 6 (D + 4) 200 _ _ (And.intro (fun _ => (hT.1 [(73, [0, 1, 2])] 6 (D + 5) 212 _ _ (hT.1 [] 6 (D + 4) 199 _ _ (And.intro (fun a9 => (And.intro (z_b01L rfl) (hT.1 [(73, [0, 1, 2])] 6 (D + 5) 212 _ _ (And.intro (fun a11 => (z_litF a11 rfl).elim) (fun _ => (o3 (Classical.byContradiction a2) a6 a9)))))) (fun a10 => (o4 (Classical.byContradiction a2) a6 (Classical.byContradiction a10)).elim))))) (fun a8 => (a8 (z_litT rfl)).elim))))) (fun a7 => (o5 (Classical.byContradiction a2) (Classical.byContradiction a7)).elim))))))))
theorem zb212_40f (hT : zRules T) {D : Nat} {κ : Option zA → zM → Prop} {m : zM} {n : Nat} {v : Int} {lo : zL} (hlo : z_keep [0, 1] lo = [(0, zr 74), (1, zi (n : Int))])  (hB : zB m) (h_n : n ≤ 80) (hf0 : 0 ≤ m 74 17 ∧ m 74 17 ≤ 100) 
    (k1 : ¬ (m 74 16) < (n : Int) → κ (some (zi ((-1) - (m 74 17)))) m)
    (k2 : (m 74 16) < (n : Int) → κ (some (zi ((-1) - (m 74 17)))) m) :
    T (D + 5) 212 (40, lo, [zi v], m) κ := by
  have hb2 : 0 ≤ (m 74 16) ∧ (m 74 16) ≤ 100 := hB 74 16
  have he0 : wr (m 74 16) = (m 74 16) := wr_id (by omega) (by omega)
  have he1 : wr (n : Int) = (n : Int) := wr_id (by omega) (by omega)
  have he2 : wr (m 74 17) = (m 74 17) := wr_id (by omega) (by omega)
  have he3 : wr ((-1) - (m 74 17)) = ((-1) - (m 74 17)) := wr_id (by omega) (by omega)
  have key := @zb212_40fr T hT D κ m n v lo hlo
  simp only [he0, he1, he2, he3, Int.toNat_natCast] at key
  exact key
    (fun x0 x1 => k1 x0)
    (fun x0 x1 => by omega)
    (fun x0 x1 x2 => k2 x0)
    (fun x0 x1 x2 => by omega)
    (fun x0 x1 => by omega)
theorem zb212_73r (hT : zRules T) {D : Nat} {κ : Option zA → zM → Prop} {m : zM} {n : Nat} {k : Nat} {lo : zL} (hlo : z_keep [0, 1, 2] lo = [(0, zr 74), (1, zi (n : Int)), (2, zi (k : Int))]) 
    (o1 : ¬ wr (k : Int) < wr (n : Int) → κ (some (zi 0)) (zu m 74 25 (n : Int)))
    (o2 : wr (k : Int) < wr (n : Int) → (0 ≤ wr (k : Int) ∧ wr (k : Int) < 80))
    (o3 : wr (k : Int) < wr (n : Int) → (0 ≤ wr (k : Int) ∧ wr (k : Int) < 40))
    (o4 : wr (k : Int) < wr (n : Int) → ((-128) ≤ wr (m 80 ((wr (k : Int)).toNat)) ∧ wr (m 80 ((wr (k : Int)).toNat)) ≤ 127))
    (o5 : wr (k : Int) < wr (n : Int) → T (D + 5) 212 (73, [(0, zr 74), (1, zi (n : Int)), (2, zi ((k : Int) + 1))], [], (zu m 86 ((wr (k : Int)).toNat) (m 80 ((wr (k : Int)).toNat)))) κ) :
    T (D + 5) 212 (73, lo, [], m) κ :=
  zkeep hT hlo (hT.1 [(73, [0, 1, 2])] 6 (D + 5) 212 _ κ (And.intro (fun a1 => (And.intro trivial (hT.1 [(73, [0, 1, 2])] 6 (D + 5) 212 (101, [(0, zr 74), (1, zi (n : Int)), (2, zi (k : Int))], [], (zu m 74 25 (n : Int))) _ (o1 a1)))) (fun a2 => (hT.1 [(73, [0, 1, 2])] 6 (D + 5) 212 (83, [(0, zr 74), (1, zi (n : Int)), (2, zi (k : Int))], [zi (k : Int), zr 86], m) _ (And.intro (o2 (Classical.byContradiction a2)) (And.intro (And.intro (o3 (Classical.byContradiction a2)) (o4 (Classical.byContradiction a2))) (hT.1 [(73, [0, 1, 2])] 6 (D + 5) 212 (93, [(0, zr 74), (1, zi (n : Int)), (2, zi ((k : Int) + 1))], [], (zu m 86 ((wr (k : Int)).toNat) (m 80 ((wr (k : Int)).toNat)))) _ (o5 (Classical.byContradiction a2)))))))))
theorem zb212_73 (hT : zRules T) {D : Nat} {κ : Option zA → zM → Prop} {m : zM} {n : Nat} {k : Nat} {lo : zL} (hlo : z_keep [0, 1, 2] lo = [(0, zr 74), (1, zi (n : Int)), (2, zi (k : Int))])  (hB : zB m) (h_n : n ≤ 40) (h_k : k ≤ 40) 
    (k1 : ¬ (k : Int) < (n : Int) → zB (zu m 74 25 (n : Int)) → κ (some (zi 0)) (zu m 74 25 (n : Int)))
    (k2 : (k : Int) < (n : Int) → zB (zu m 86 k (m 80 k)) → T (D + 5) 212 (73, [(0, zr 74), (1, zi (n : Int)), (2, zi ((k : Int) + 1))], [], (zu m 86 k (m 80 k))) κ) :
    T (D + 5) 212 (73, lo, [], m) κ := by
  have hb2 : (-128) ≤ (m 80 k) ∧ (m 80 k) ≤ 127 := hB 80 k
  have he0 : wr (k : Int) = (k : Int) := wr_id (by omega) (by omega)
  have he1 : wr (n : Int) = (n : Int) := wr_id (by omega) (by omega)
  have he2 : (k : Int).toNat = k := by omega
  have he3 : wr (m 80 k) = (m 80 k) := wr_id (by omega) (by omega)
  have key := @zb212_73r T hT D κ m n k lo hlo
  simp only [he0, he1, he2, he3, Int.toNat_natCast] at key
  exact key
    (fun x0 => k1 x0 (zB_u hB (show 0 ≤ (n : Int) ∧ (n : Int) ≤ 40 from ⟨by omega, by omega⟩)))
    (fun x0 => by refine ⟨?_, ?_⟩ <;> omega)
    (fun x0 => by refine ⟨?_, ?_⟩ <;> omega)
    (fun x0 => by refine ⟨?_, ?_⟩ <;> omega)
    (fun x0 => k2 x0 (zB_u hB (show (-128) ≤ (m 80 k) ∧ (m 80 k) ≤ 127 from ⟨by omega, by omega⟩)))
end ZBlocks
