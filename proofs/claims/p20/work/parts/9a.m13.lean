-- 9a.b18.lean.txt
section
section ZBlocks
variable {T : Nat → Nat → zG → (Option zA → zM → Prop) → Prop}
theorem zb144_0r (hT : zRules T) {D : Nat} {κ : Option zA → zM → Prop} {m : zM} {x : Int} 
    (o1 : wr x < 0 → κ (some (zi (-1))) m)
    (o2 : ¬ wr x < 0 → wr (z_shr x (m 17 0)) = 0 → T (D + 6) 293 (0, [(0, zi x)], [], m) (fun r m1 => T (D + 7) 144 (22, [(0, zr 1), (1, zi x)], r.toList ++ [], m1) κ))
    (o3 : ¬ wr x < 0 → ¬ wr (z_shr x (m 17 0)) = 0 → κ (some (zi (-1))) m) :
    T (D + 7) 144 (0, [(0, zr 1), (1, zi x)], [], m) κ :=
  hT.1 [(44, [0, 1, 2])] 6 (D + 7) 144 _ κ (And.intro (fun a1 => (o1 a1)) (fun a2 => (hT.1 [(44, [0, 1, 2])] 6 (D + 7) 144 (12, [(0, zr 1), (1, zi x)], [zi (m 17 0), zi x], m) _ (And.intro (fun a3 => (o2 a2 a3)) (fun a4 => (o3 a2 a4))))))
theorem zb144_0 (hT : zRules T) {D : Nat} {κ : Option zA → zM → Prop} {m : zM} {x : Int}  (hB : zB m) (h_x : (-2147483648) ≤ x ∧ x ≤ 2147483647) 
    (k1 : x < 0 → κ (some (zi (-1))) m)
    (k2 : ¬ x < 0 → (z_shr x (m 17 0)) = 0 → T (D + 6) 293 (0, [(0, zi x)], [], m) (fun r m1 => T (D + 7) 144 (22, [(0, zr 1), (1, zi x)], r.toList ++ [], m1) κ))
    (k3 : ¬ x < 0 → ¬ (z_shr x (m 17 0)) = 0 → κ (some (zi (-1))) m) :
    T (D + 7) 144 (0, [(0, zr 1), (1, zi x)], [], m) κ := by
  have hb1 : 0 ≤ (m 17 0) ∧ (m 17 0) ≤ 6 := hB 17 0
  have hb2 : (-2147483648) ≤ (z_shr x (m 17 0)) ∧ (z_shr x (m 17 0)) ≤ 2147483647 := z_shrB x (m 17 0)
  have he0 : wr x = x := wr_id (by omega) (by omega)
  have he1 : wr (z_shr x (m 17 0)) = (z_shr x (m 17 0)) := wr_id (by omega) (by omega)
  have key := @zb144_0r T hT D κ m x
  simp only [he0, he1, Int.toNat_natCast] at key
  exact key
    k1
    k2
    k3
theorem zb144_22r (hT : zRules T) {D : Nat} {κ : Option zA → zM → Prop} {m : zM} {x : Nat} {v : Int} {lo : zL} (hlo : z_keep [0, 1] lo = [(0, zr 1), (1, zi (x : Int))]) 
    (o1 : ¬ wr (m 17 1) < wr v → T (D + 7) 144 (44, [(0, zr 1), (1, zi (x : Int)), (2, zi 0)], [], (zu m 52 1 0)) κ)
    (o2 : wr (m 17 1) < wr v → κ (some (zi (-2))) m) :
    T (D + 7) 144 (22, lo, [zi v], m) κ :=
  zkeep hT hlo (hT.1 [(44, [0, 1, 2])] 6 (D + 7) 144 _ κ (And.intro (fun a1 => (hT.1 [(44, [0, 1, 2])] 6 (D + 7) 144 (39, [(0, zr 1), (1, zi (x : Int))], [zr 52], m) _ (hT.1 [] 6 (D + 6) 74 _ _ (And.intro trivial (hT.1 [(44, [0, 1, 2])] 6 (D + 7) 144 _ _ (o1 a1)))))) (fun a2 => (o2 (Classical.byContradiction a2)))))
theorem zb144_22 (hT : zRules T) {D : Nat} {κ : Option zA → zM → Prop} {m : zM} {x : Nat} {v : Int} {lo : zL} (hlo : z_keep [0, 1] lo = [(0, zr 1), (1, zi (x : Int))])  (hB : zB m) (h_x : x ≤ 63) (h_v : 0 ≤ v ∧ v ≤ 63) 
    (k1 : ¬ (m 17 1) < v → zB (zu m 52 1 0) → T (D + 7) 144 (44, [(0, zr 1), (1, zi (x : Int)), (2, zi 0)], [], (zu m 52 1 0)) κ)
    (k2 : (m 17 1) < v → κ (some (zi (-2))) m) :
    T (D + 7) 144 (22, lo, [zi v], m) κ := by
  have hb2 : 0 ≤ (m 17 1) ∧ (m 17 1) ≤ 8 := hB 17 1
  have he0 : wr (m 17 1) = (m 17 1) := wr_id (by omega) (by omega)
  have he1 : wr v = v := wr_id (by omega) (by omega)
  have key := @zb144_22r T hT D κ m x v lo hlo
  simp only [he0, he1, Int.toNat_natCast] at key
  exact key
    (fun x0 => k1 x0 (zB_u hB (show 0 ≤ 0 ∧ 0 ≤ 60 from ⟨by omega, by omega⟩)))
    k2
theorem zb144_44r (hT : zRules T) {D : Nat} {κ : Option zA → zM → Prop} {m : zM} {x : Nat} {i : Nat} {lo : zL} (hlo : z_keep [0, 1, 2] lo = [(0, zr 1), (1, zi (x : Int)), (2, zi (i : Int))]) 
    (o1 : ¬ wr (i : Int) < wr (m 17 0) → T (D + 6) 88 (0, [(0, zr 52), (1, zr 17)], [], m) (fun r m1 => T (D + 7) 144 (93, [(0, zr 1), (1, zi (x : Int)), (2, zi (i : Int))], r.toList ++ [], m1) κ))
    (o2 : wr (i : Int) < wr (m 17 0) → ¬ wr (z_and (z_shr (x : Int) (i : Int)) 1) = 1 → T (D + 7) 144 (44, [(0, zr 1), (1, zi (x : Int)), (2, zi ((i : Int) + 1))], [], m) κ)
    (o3 : wr (i : Int) < wr (m 17 0) → wr (z_and (z_shr (x : Int) (i : Int)) 1) = 1 → T (D + 6) 171 (0, [(0, zr 1), (1, zi (i : Int))], [], m) (fun r m1 => T (D + 7) 144 (73, [(0, zr 1), (1, zi (x : Int)), (2, zi (i : Int))], r.toList ++ [zr 52], m1) κ)) :
    T (D + 7) 144 (44, lo, [], m) κ :=
  zkeep hT hlo (hT.1 [(44, [0, 1, 2])] 6 (D + 7) 144 _ κ (And.intro (fun a1 => (hT.1 [(44, [0, 1, 2])] 6 (D + 7) 144 (83, [(0, zr 1), (1, zi (x : Int)), (2, zi (i : Int))], [zr 1], m) _ (o1 a1))) (fun a2 => (hT.1 [(44, [0, 1, 2])] 6 (D + 7) 144 (56, [(0, zr 1), (1, zi (x : Int)), (2, zi (i : Int))], [zi (x : Int)], m) _ (And.intro (fun a3 => (hT.1 [(44, [0, 1, 2])] 6 (D + 7) 144 (76, [(0, zr 1), (1, zi (x : Int)), (2, zi (i : Int))], [], m) _ (o2 (Classical.byContradiction a2) a3))) (fun a4 => (hT.1 [(44, [0, 1, 2])] 6 (D + 7) 144 (64, [(0, zr 1), (1, zi (x : Int)), (2, zi (i : Int))], [], m) _ (o3 (Classical.byContradiction a2) (Classical.byContradiction a4)))))))))
theorem zb144_44 (hT : zRules T) {D : Nat} {κ : Option zA → zM → Prop} {m : zM} {x : Nat} {i : Nat} {lo : zL} (hlo : z_keep [0, 1, 2] lo = [(0, zr 1), (1, zi (x : Int)), (2, zi (i : Int))])  (hB : zB m) (h_x : x ≤ 63) (h_i : i ≤ 6) 
    (k1 : ¬ (i : Int) < (m 17 0) → T (D + 6) 88 (0, [(0, zr 52), (1, zr 17)], [], m) (fun r m1 => T (D + 7) 144 (93, [(0, zr 1), (1, zi (x : Int)), (2, zi (i : Int))], r.toList ++ [], m1) κ))
    (k2 : (i : Int) < (m 17 0) → ¬ (z_and (z_shr (x : Int) (i : Int)) 1) = 1 → T (D + 7) 144 (44, [(0, zr 1), (1, zi (x : Int)), (2, zi ((i : Int) + 1))], [], m) κ)
    (k3 : (i : Int) < (m 17 0) → (z_and (z_shr (x : Int) (i : Int)) 1) = 1 → T (D + 6) 171 (0, [(0, zr 1), (1, zi (i : Int))], [], m) (fun r m1 => T (D + 7) 144 (73, [(0, zr 1), (1, zi (x : Int)), (2, zi (i : Int))], r.toList ++ [zr 52], m1) κ)) :
    T (D + 7) 144 (44, lo, [], m) κ := by
  have hb2 : 0 ≤ (m 17 0) ∧ (m 17 0) ≤ 6 := hB 17 0
  have hb3 : (-2147483648) ≤ (z_shr (x : Int) (i : Int)) ∧ (z_shr (x : Int) (i : Int)) ≤ 2147483647 := z_shrB (x : Int) (i : Int)
  have hb4 : 0 ≤ (z_and (z_shr (x : Int) (i : Int)) 1) ∧ (z_and (z_shr (x : Int) (i : Int)) 1) ≤ 1 := z_andC (z_shr (x : Int) (i : Int)) 1 (by decide)
  have he0 : wr (i : Int) = (i : Int) := wr_id (by omega) (by omega)
  have he1 : wr (m 17 0) = (m 17 0) := wr_id (by omega) (by omega)
  have he2 : wr (z_and (z_shr (x : Int) (i : Int)) 1) = (z_and (z_shr (x : Int) (i : Int)) 1) := wr_id (by omega) (by omega)
  have key := @zb144_44r T hT D κ m x i lo hlo
  simp only [he0, he1, he2, Int.toNat_natCast] at key
  exact key
    k1
    k2
    k3
theorem zb144_73r (hT : zRules T) {D : Nat} {κ : Option zA → zM → Prop} {m : zM} {x : Nat} {i : Nat} {v : Int} {lo : zL} (hlo : z_keep [0, 1, 2] lo = [(0, zr 1), (1, zi (x : Int)), (2, zi (i : Int))]) 
    (o1 : ¬ wr (m 52 1) < 60 → T (D + 7) 144 (44, [(0, zr 1), (1, zi (x : Int)), (2, zi ((i : Int) + 1))], [], m) κ)
    (o2 : wr (m 52 1) < 60 → (0 ≤ wr (m 52 1) ∧ wr (m 52 1) < 60))
    (o3 : wr (m 52 1) < 60 → T (D + 7) 144 (44, [(0, zr 1), (1, zi (x : Int)), (2, zi ((i : Int) + 1))], [], (zu (zu m 53 ((wr (m 52 1)).toNat) v) 52 1 ((m 52 1) + 1))) κ) :
    T (D + 7) 144 (73, lo, [zi v, zr 52], m) κ :=
  zkeep hT hlo (hT.1 [(44, [0, 1, 2])] 6 (D + 7) 144 _ κ (hT.1 [] 6 (D + 6) 75 _ _ (And.intro (fun a1 => (hT.1 [(44, [0, 1, 2])] 6 (D + 7) 144 _ _ (o1 a1))) (fun a2 => (hT.1 [] 6 (D + 6) 75 (13, [(0, zr 52), (1, zi v)], [zr 53], m) _ (And.intro (And.intro (o2 (Classical.byContradiction a2)) trivial) (hT.1 [] 6 (D + 6) 75 (21, [(0, zr 52), (1, zi v)], [zr 52, zr 52], (zu m 53 ((wr (m 52 1)).toNat) v)) _ (And.intro trivial (hT.1 [(44, [0, 1, 2])] 6 (D + 7) 144 _ _ (o3 (Classical.byContradiction a2)))))))))))
theorem zb144_73 (hT : zRules T) {D : Nat} {κ : Option zA → zM → Prop} {m : zM} {x : Nat} {i : Nat} {v : Int} {lo : zL} (hlo : z_keep [0, 1, 2] lo = [(0, zr 1), (1, zi (x : Int)), (2, zi (i : Int))])  (hB : zB m) (h_x : x ≤ 63) (h_i : i ≤ 5) (h_v : 0 ≤ v ∧ v ≤ 99) 
    (k1 : ¬ (m 52 1) < 60 → T (D + 7) 144 (44, [(0, zr 1), (1, zi (x : Int)), (2, zi ((i : Int) + 1))], [], m) κ)
    (k2 : (m 52 1) < 60 → zB (zu (zu m 53 ((m 52 1).toNat) v) 52 1 ((m 52 1) + 1)) → T (D + 7) 144 (44, [(0, zr 1), (1, zi (x : Int)), (2, zi ((i : Int) + 1))], [], (zu (zu m 53 ((m 52 1).toNat) v) 52 1 ((m 52 1) + 1))) κ) :
    T (D + 7) 144 (73, lo, [zi v, zr 52], m) κ := by
  have hb3 : 0 ≤ (m 52 1) ∧ (m 52 1) ≤ 60 := hB 52 1
  have he0 : wr (m 52 1) = (m 52 1) := wr_id (by omega) (by omega)
  have key := @zb144_73r T hT D κ m x i v lo hlo
  simp only [he0, Int.toNat_natCast] at key
  exact key
    k1
    (fun x0 => by refine ⟨?_, ?_⟩ <;> omega)
    (fun x0 => k2 x0 (zB_u (zB_u hB (show 0 ≤ v ∧ v ≤ 99 from ⟨by omega, by omega⟩)) (show 0 ≤ ((m 52 1) + 1) ∧ ((m 52 1) + 1) ≤ 60 from ⟨by omega, by omega⟩)))
theorem zb144_93r (hT : zRules T) {D : Nat} {κ : Option zA → zM → Prop} {m : zM} {v : Int} {lo : zL} (hlo : z_keep [0] lo = [(0, zr 1)]) 
    (o1 : T (D + 6) 48 (0, [(0, zr 72), (1, zr 58), (2, zi (m 52 1))], [], m) (fun r m1 => T (D + 7) 144 (115, [(0, zr 1), (2, zi v)], r.toList ++ [], m1) κ)) :
    T (D + 7) 144 (93, lo, [zi v], m) κ :=
  zkeep hT hlo (hT.1 [(44, [0, 1, 2])] 6 (D + 7) 144 _ κ (hT.1 [(44, [0, 1, 2])] 6 (D + 7) 144 (105, [(0, zr 1), (2, zi v)], [zr 58, zr 72], m) _ (o1)))
theorem zb144_93 (hT : zRules T) {D : Nat} {κ : Option zA → zM → Prop} {m : zM} {v : Int} {lo : zL} (hlo : z_keep [0] lo = [(0, zr 1)])  (hB : zB m) (h_v : (-2147483648) ≤ v ∧ v ≤ 2147483647) 
    (k1 : T (D + 6) 48 (0, [(0, zr 72), (1, zr 58), (2, zi (m 52 1))], [], m) (fun r m1 => T (D + 7) 144 (115, [(0, zr 1), (2, zi v)], r.toList ++ [], m1) κ)) :
    T (D + 7) 144 (93, lo, [zi v], m) κ := by
  have hb1 : 0 ≤ (m 52 1) ∧ (m 52 1) ≤ 60 := hB 52 1
  exact zb144_93r hT hlo
    k1
theorem zb144_115r (hT : zRules T) {D : Nat} {κ : Option zA → zM → Prop} {m : zM} {v : Int} {lo : zL} (hlo : z_keep [2] lo = [(2, zi v)]) 
    (o1 : κ (some (zi (wr v))) m) :
    T (D + 7) 144 (115, lo, [], m) κ :=
  zkeep hT hlo (hT.1 [(44, [0, 1, 2])] 6 (D + 7) 144 _ κ (o1))
theorem zb144_115 (hT : zRules T) {D : Nat} {κ : Option zA → zM → Prop} {m : zM} {v : Int} {lo : zL} (hlo : z_keep [2] lo = [(2, zi v)])  (h_v : (-2147483648) ≤ v ∧ v ≤ 2147483647) 
    (k1 : κ (some (zi v)) m) :
    T (D + 7) 144 (115, lo, [], m) κ := by
  have he0 : wr v = v := wr_id (by omega) (by omega)
  have key := @zb144_115r T hT D κ m v lo hlo
  simp only [he0, Int.toNat_natCast] at key
  exact key
    k1
theorem zb88_0r (hT : zRules T) {D : Nat} {κ : Option zA → zM → Prop} {m : zM} 
    (o1 : T (D + 6) 88 (11, [(0, zr 52), (1, zr 17), (3, zi ((z_shl 1 (m 17 1)) - 1))], [], m) κ) :
    T (D + 6) 88 (0, [(0, zr 52), (1, zr 17)], [], m) κ :=
  hT.1 [(11, [0, 1, 3]), (62, [0, 1, 3, 4])] 6 (D + 6) 88 _ κ (hT.1 [(11, [0, 1, 3]), (62, [0, 1, 3, 4])] 6 (D + 6) 88 (8, [(0, zr 52), (1, zr 17)], [zi ((z_shl 1 (m 17 1)) - 1)], m) _ (o1))
theorem zb88_0 (hT : zRules T) {D : Nat} {κ : Option zA → zM → Prop} {m : zM}  (hB : zB m) 
    (k1 : T (D + 6) 88 (11, [(0, zr 52), (1, zr 17), (3, zi ((z_shl 1 (m 17 1)) - 1))], [], m) κ) :
    T (D + 6) 88 (0, [(0, zr 52), (1, zr 17)], [], m) κ := by
  have hb0 : 0 ≤ (m 17 1) ∧ (m 17 1) ≤ 8 := hB 17 1
  have hb1 : (-2147483648) ≤ (z_shl 1 (m 17 1)) ∧ (z_shl 1 (m 17 1)) ≤ 2147483647 := z_shlB 1 (m 17 1)
  exact zb88_0r hT
    k1
theorem zb88_11r (hT : zRules T) {D : Nat} {κ : Option zA → zM → Prop} {m : zM} {x : Int} {lo : zL} (hlo : z_keep [0, 1, 3] lo = [(0, zr 52), (1, zr 17), (3, zi x)]) 
    (o1 : wr x < 0 → T (D + 6) 88 (62, [(0, zr 52), (1, zr 17), (3, zi 0), (4, zi 0)], [], m) κ)
    (o2 : ¬ wr x < 0 → (0 ≤ wr x ∧ wr x < 256))
    (o3 : ¬ wr x < 0 → T (D + 5) 293 (0, [(0, zi x)], [], (zu m 57 ((wr x).toNat) 0)) (fun r m1 => T (D + 6) 88 (26, [(0, zr 52), (1, zr 17), (3, zi x)], r.toList ++ [], m1) κ)) :
    T (D + 6) 88 (11, lo, [], m) κ :=
  zkeep hT hlo (hT.1 [(11, [0, 1, 3]), (62, [0, 1, 3, 4])] 6 (D + 6) 88 _ κ (And.intro (fun a1 => (o1 a1)) (fun a2 => (hT.1 [(11, [0, 1, 3]), (62, [0, 1, 3, 4])] 6 (D + 6) 88 (21, [(0, zr 52), (1, zr 17), (3, zi x)], [zi 0, zi x, zr 57], m) _ (And.intro (And.intro (o2 a2) trivial) (o3 a2))))))
theorem zb88_11 (hT : zRules T) {D : Nat} {κ : Option zA → zM → Prop} {m : zM} {x : Int} {lo : zL} (hlo : z_keep [0, 1, 3] lo = [(0, zr 52), (1, zr 17), (3, zi x)])  (hB : zB m) (h_x : (-1) ≤ x ∧ x ≤ 255) 
    (k1 : x < 0 → T (D + 6) 88 (62, [(0, zr 52), (1, zr 17), (3, zi 0), (4, zi 0)], [], m) κ)
    (k2 : ¬ x < 0 → zB (zu m 57 (x.toNat) 0) → T (D + 5) 293 (0, [(0, zi x)], [], (zu m 57 (x.toNat) 0)) (fun r m1 => T (D + 6) 88 (26, [(0, zr 52), (1, zr 17), (3, zi x)], r.toList ++ [], m1) κ)) :
    T (D + 6) 88 (11, lo, [], m) κ := by
  have he0 : wr x = x := wr_id (by omega) (by omega)
  have key := @zb88_11r T hT D κ m x lo hlo
  simp only [he0, Int.toNat_natCast] at key
  exact key
    k1
    (fun x0 => by refine ⟨?_, ?_⟩ <;> omega)
    (fun x0 => k2 x0 (zB_u hB trivial))
theorem zb88_26r (hT : zRules T) {D : Nat} {κ : Option zA → zM → Prop} {m : zM} {x : Nat} {v : Int} {lo : zL} (hlo : z_keep [0, 1, 3] lo = [(0, zr 52), (1, zr 17), (3, zi (x : Int))]) 
    (o1 : ¬ wr v < wr (m 52 1) → T (D + 6) 88 (11, [(0, zr 52), (1, zr 17), (3, zi ((x : Int) + (-1)))], [], m) κ)
    (o2 : wr v < wr (m 52 1) → T (D + 5) 90 (0, [(0, zr 52), (1, zr 17), (2, zi (x : Int))], [], m) (fun r m1 => T (D + 6) 88 (47, [(0, zr 52), (1, zr 17), (3, zi (x : Int))], r.toList ++ [zi (x : Int), zr 17, zr 52, zi (x : Int), zr 57], m1) κ)) :
    T (D + 6) 88 (26, lo, [zi v], m) κ :=
  zkeep hT hlo (hT.1 [(11, [0, 1, 3]), (62, [0, 1, 3, 4])] 6 (D + 6) 88 _ κ (And.intro (fun a1 => (o1 a1)) (fun a2 => (hT.1 [(11, [0, 1, 3]), (62, [0, 1, 3, 4])] 6 (D + 6) 88 (38, [(0, zr 52), (1, zr 17), (3, zi (x : Int))], [zi (x : Int), zr 57], m) _ (hT.1 [(11, [0, 1, 3]), (62, [0, 1, 3, 4])] 6 (D + 6) 88 (44, [(0, zr 52), (1, zr 17), (3, zi (x : Int))], [zi (x : Int), zr 17, zr 52, zi (x : Int), zr 17, zr 52, zi (x : Int), zr 57], m) _ (o2 (Classical.byContradiction a2)))))))
theorem zb88_26 (hT : zRules T) {D : Nat} {κ : Option zA → zM → Prop} {m : zM} {x : Nat} {v : Int} {lo : zL} (hlo : z_keep [0, 1, 3] lo = [(0, zr 52), (1, zr 17), (3, zi (x : Int))])  (hB : zB m) (h_x : x ≤ 255) (h_v : 0 ≤ v ∧ v ≤ 63) 
    (k1 : ¬ v < (m 52 1) → T (D + 6) 88 (11, [(0, zr 52), (1, zr 17), (3, zi ((x : Int) + (-1)))], [], m) κ)
    (k2 : v < (m 52 1) → T (D + 5) 90 (0, [(0, zr 52), (1, zr 17), (2, zi (x : Int))], [], m) (fun r m1 => T (D + 6) 88 (47, [(0, zr 52), (1, zr 17), (3, zi (x : Int))], r.toList ++ [zi (x : Int), zr 17, zr 52, zi (x : Int), zr 57], m1) κ)) :
    T (D + 6) 88 (26, lo, [zi v], m) κ := by
  have hb2 : 0 ≤ (m 52 1) ∧ (m 52 1) ≤ 60 := hB 52 1
  have he0 : wr v = v := wr_id (by omega) (by omega)
  have he1 : wr (m 52 1) = (m 52 1) := wr_id (by omega) (by omega)
  have key := @zb88_26r T hT D κ m x v lo hlo
  simp only [he0, he1, Int.toNat_natCast] at key
  exact key
    k1
    k2
theorem zb88_47r (hT : zRules T) {D : Nat} {κ : Option zA → zM → Prop} {m : zM} {x : Nat} {f : Int} {lo : zL} (hlo : z_keep [0, 1, 3] lo = [(0, zr 52), (1, zr 17), (3, zi (x : Int))]) 
    (o1 : T (D + 5) 89 (0, [(0, zr 52), (1, zr 17), (2, zi (x : Int)), (3, zi f)], [], m) (fun r m1 => T (D + 6) 88 (50, [(0, zr 52), (1, zr 17), (3, zi (x : Int))], r.toList ++ [zi (x : Int), zr 57], m1) κ)) :
    T (D + 6) 88 (47, lo, [zi f, zi (x : Int), zr 17, zr 52, zi (x : Int), zr 57], m) κ :=
  zkeep hT hlo (hT.1 [(11, [0, 1, 3]), (62, [0, 1, 3, 4])] 6 (D + 6) 88 _ κ (o1))
theorem zb88_47 (hT : zRules T) {D : Nat} {κ : Option zA → zM → Prop} {m : zM} {x : Nat} {f : Int} {lo : zL} (hlo : z_keep [0, 1, 3] lo = [(0, zr 52), (1, zr 17), (3, zi (x : Int))])  (hB : zB m) (h_x : x ≤ 255) (h_f : (-1) ≤ f ∧ f ≤ 7) 
    (k1 : T (D + 5) 89 (0, [(0, zr 52), (1, zr 17), (2, zi (x : Int)), (3, zi f)], [], m) (fun r m1 => T (D + 6) 88 (50, [(0, zr 52), (1, zr 17), (3, zi (x : Int))], r.toList ++ [zi (x : Int), zr 57], m1) κ)) :
    T (D + 6) 88 (47, lo, [zi f, zi (x : Int), zr 17, zr 52, zi (x : Int), zr 57], m) κ := by
  exact zb88_47r hT hlo
    k1
theorem zb88_50r (hT : zRules T) {D : Nat} {κ : Option zA → zM → Prop} {m : zM} {x : Nat} {v : Int} {lo : zL} (hlo : z_keep [0, 1, 3] lo = [(0, zr 52), (1, zr 17), (3, zi (x : Int))]) 
    (o1 : (0 ≤ wr (x : Int) ∧ wr (x : Int) < 256))
    (o2 : T (D + 6) 88 (11, [(0, zr 52), (1, zr 17), (3, zi ((x : Int) + (-1)))], [], (zu m 57 ((wr (x : Int)).toNat) v)) κ) :
    T (D + 6) 88 (50, lo, [zi v, zi (x : Int), zr 57], m) κ :=
  zkeep hT hlo (hT.1 [(11, [0, 1, 3]), (62, [0, 1, 3, 4])] 6 (D + 6) 88 _ κ (And.intro (And.intro (o1) trivial) (o2)))
theorem zb88_50 (hT : zRules T) {D : Nat} {κ : Option zA → zM → Prop} {m : zM} {x : Nat} {v : Int} {lo : zL} (hlo : z_keep [0, 1, 3] lo = [(0, zr 52), (1, zr 17), (3, zi (x : Int))])  (hB : zB m) (h_x : x ≤ 255) (h_v : (-2147483648) ≤ v ∧ v ≤ 2147483647) 
    (k1 : zB (zu m 57 x v) → T (D + 6) 88 (11, [(0, zr 52), (1, zr 17), (3, zi ((x : Int) + (-1)))], [], (zu m 57 x v)) κ) :
    T (D + 6) 88 (50, lo, [zi v, zi (x : Int), zr 57], m) κ := by
  have he0 : wr (x : Int) = (x : Int) := wr_id (by omega) (by omega)
  have he1 : (x : Int).toNat = x := by omega
  have key := @zb88_50r T hT D κ m x v lo hlo
  simp only [he0, he1, Int.toNat_natCast] at key
  exact key
    (by refine ⟨?_, ?_⟩ <;> omega)
    (k1  (zB_u hB trivial))
theorem zb88_62r (hT : zRules T) {D : Nat} {κ : Option zA → zM → Prop} {m : zM} {x : Nat} {i : Nat} {lo : zL} (hlo : z_keep [0, 1, 3, 4] lo = [(0, zr 52), (1, zr 17), (3, zi (x : Int)), (4, zi (i : Int))]) 
    (o1 : ¬ wr (i : Int) < wr (m 52 1) → κ (some (zi (wr (m 57 0)))) m)
    (o2 : wr (i : Int) < wr (m 52 1) → ¬ wr (i : Int) < 26 → False)
    (o3 : wr (i : Int) < wr (m 52 1) → wr (i : Int) < 26 → T (D + 5) 90 (0, [(0, zr 52), (1, zr 17), (2, zi (x : Int))], [], m) (fun r m1 => T (D + 6) 88 (93, [(0, zr 52), (1, zr 17), (3, zi (x : Int)), (4, zi (i : Int))], r.toList ++ [zi (i : Int), zr 58], m1) κ)) :
    T (D + 6) 88 (62, lo, [], m) κ :=
  zkeep hT hlo (hT.1 [(11, [0, 1, 3]), (62, [0, 1, 3, 4])] 6 (D + 6) 88 _ κ (And.intro (fun a1 => (hT.1 [(11, [0, 1, 3]), (62, [0, 1, 3, 4])] 6 (D + 6) 88 (116, [(0, zr 52), (1, zr 17), (3, zi (x : Int)), (4, zi (i : Int))], [zr 57], m) _ (And.intro (z_ixL rfl) (o1 a1)))) (fun a2 => (hT.1 [(11, [0, 1, 3]), (62, [0, 1, 3, 4])] 6 (D + 6) 88 (74, [(0, zr 52), (1, zr 17), (3, zi (x : Int)), (4, zi (i : Int))], [zr 52, zi (i : Int)], m) _ (And.intro (fun a3 => (o2 (Classical.byContradiction a2) a3).elim) (fun a4 => (hT.1 [(11, [0, 1, 3]), (62, [0, 1, 3, 4])] 6 (D + 6) 88 (87, [(0, zr 52), (1, zr 17), (3, zi (x : Int)), (4, zi (i : Int))], [zi (i : Int), zr 58], m) _ (o3 (Classical.byContradiction a2) (Classical.byContradiction a4)))))))))
theorem zb88_62 (hT : zRules T) {D : Nat} {κ : Option zA → zM → Prop} {m : zM} {x : Nat} {i : Nat} {lo : zL} (hlo : z_keep [0, 1, 3, 4] lo = [(0, zr 52), (1, zr 17), (3, zi (x : Int)), (4, zi (i : Int))])  (hB : zB m) (h_x : x ≤ 255) (h_i : i ≤ 8) 
    (k1 : ¬ (i : Int) < (m 52 1) → κ (some (zi (wr (m 57 0)))) m)
    (k2 : (i : Int) < (m 52 1) → T (D + 5) 90 (0, [(0, zr 52), (1, zr 17), (2, zi (x : Int))], [], m) (fun r m1 => T (D + 6) 88 (93, [(0, zr 52), (1, zr 17), (3, zi (x : Int)), (4, zi (i : Int))], r.toList ++ [zi (i : Int), zr 58], m1) κ)) :
    T (D + 6) 88 (62, lo, [], m) κ := by
  have hb2 : 0 ≤ (m 52 1) ∧ (m 52 1) ≤ 60 := hB 52 1
  have hb3 : (-2147483648) ≤ wr (m 57 0) ∧ wr (m 57 0) ≤ 2147483647 := wrB (m 57 0)
  have he0 : wr (i : Int) = (i : Int) := wr_id (by omega) (by omega)
  have he1 : wr (m 52 1) = (m 52 1) := wr_id (by omega) (by omega)
  have key := @zb88_62r T hT D κ m x i lo hlo
  simp only [he0, he1, Int.toNat_natCast] at key
  exact key
    k1
    (fun x0 x1 => by omega)
    (fun x0 x1 => k2 x0)
theorem zb88_93r (hT : zRules T) {D : Nat} {κ : Option zA → zM → Prop} {m : zM} {x : Nat} {i : Nat} {g : Nat} {lo : zL} (hlo : z_keep [0, 1, 3, 4] lo = [(0, zr 52), (1, zr 17), (3, zi (x : Int)), (4, zi (i : Int))]) 
    (o1 : (0 ≤ wr (i : Int) ∧ wr (i : Int) < 26))
    (o2 : (0 ≤ wr (i : Int) ∧ wr (i : Int) < 26))
    (o3 : T (D + 6) 88 (62, [(0, zr 52), (1, zr 17), (3, zi (z_or (x : Int) (z_shl 1 ((zu m 58 ((wr (i : Int)).toNat) (g : Int)) 58 ((wr (i : Int)).toNat))))), (4, zi ((i : Int) + 1))], [], (zu m 58 ((wr (i : Int)).toNat) (g : Int))) κ) :
    T (D + 6) 88 (93, lo, [zi (g : Int), zi (i : Int), zr 58], m) κ :=
  zkeep hT hlo (hT.1 [(11, [0, 1, 3]), (62, [0, 1, 3, 4])] 6 (D + 6) 88 _ κ (And.intro (And.intro (o1) trivial) (hT.1 [(11, [0, 1, 3]), (62, [0, 1, 3, 4])] 6 (D + 6) 88 (102, [(0, zr 52), (1, zr 17), (3, zi (x : Int)), (4, zi (i : Int))], [zi (i : Int), zr 58, zi 1, zi (x : Int)], (zu m 58 ((wr (i : Int)).toNat) (g : Int))) _ (And.intro (o2) (o3)))))
theorem zb88_93 (hT : zRules T) {D : Nat} {κ : Option zA → zM → Prop} {m : zM} {x : Nat} {i : Nat} {g : Nat} {lo : zL} (hlo : z_keep [0, 1, 3, 4] lo = [(0, zr 52), (1, zr 17), (3, zi (x : Int)), (4, zi (i : Int))])  (hB : zB m) (h_x : x ≤ 255) (h_i : i ≤ 7) (h_g : g ≤ 7) 
    (k1 : zB (zu m 58 i (g : Int)) → T (D + 6) 88 (62, [(0, zr 52), (1, zr 17), (3, zi (z_or (x : Int) (z_shl 1 (g : Int)))), (4, zi ((i : Int) + 1))], [], (zu m 58 i (g : Int))) κ) :
    T (D + 6) 88 (93, lo, [zi (g : Int), zi (i : Int), zr 58], m) κ := by
  have hb3 : (-2147483648) ≤ (z_shl 1 (g : Int)) ∧ (z_shl 1 (g : Int)) ≤ 2147483647 := z_shlB 1 (g : Int)
  have hb4 : (-2147483648) ≤ (z_or (x : Int) (z_shl 1 (g : Int))) ∧ (z_or (x : Int) (z_shl 1 (g : Int))) ≤ 2147483647 := z_orB (x : Int) (z_shl 1 (g : Int))
  have he0 : wr (i : Int) = (i : Int) := wr_id (by omega) (by omega)
  have he1 : (i : Int).toNat = i := by omega
  have he2 : ((zu m 58 i (g : Int)) 58 i) = (g : Int) := (zu_sm (by omega))
  have key := @zb88_93r T hT D κ m x i g lo hlo
  simp only [he0, he1, he2, Int.toNat_natCast] at key
  exact key
    (by refine ⟨?_, ?_⟩ <;> omega)
    (by refine ⟨?_, ?_⟩ <;> omega)
    (k1  (zB_u hB trivial))
theorem zb90_0r (hT : zRules T) {D : Nat} {κ : Option zA → zM → Prop} {m : zM} {x : Nat} 
    (o1 : T (D + 5) 90 (8, [(0, zr 52), (1, zr 17), (2, zi (x : Int)), (3, zi (-1)), (4, zi 0), (5, zi 0)], [], m) κ) :
    T (D + 5) 90 (0, [(0, zr 52), (1, zr 17), (2, zi (x : Int))], [], m) κ :=
  hT.1 [(8, [0, 1, 2, 3, 4, 5])] 6 (D + 5) 90 _ κ (o1)
theorem zb90_0 (hT : zRules T) {D : Nat} {κ : Option zA → zM → Prop} {m : zM} {x : Nat}  (hB : zB m) (h_x : x ≤ 255) 
    (k1 : T (D + 5) 90 (8, [(0, zr 52), (1, zr 17), (2, zi (x : Int)), (3, zi (-1)), (4, zi 0), (5, zi 0)], [], m) κ) :
    T (D + 5) 90 (0, [(0, zr 52), (1, zr 17), (2, zi (x : Int))], [], m) κ := by
  exact zb90_0r hT
    k1
theorem zb90_8r (hT : zRules T) {D : Nat} {κ : Option zA → zM → Prop} {m : zM} {x : Nat} {f : Int} {b : Int} {i : Nat} {lo : zL} (hlo : z_keep [0, 1, 2, 3, 4, 5] lo = [(0, zr 52), (1, zr 17), (2, zi (x : Int)), (3, zi f), (4, zi b), (5, zi (i : Int))]) 
    (o1 : ¬ wr (i : Int) < wr (m 17 1) → κ (some (zi (wr f))) m)
    (o2 : wr (i : Int) < wr (m 17 1) → ¬ wr (z_and (z_shr (x : Int) (i : Int)) 1) = 0 → T (D + 5) 90 (8, [(0, zr 52), (1, zr 17), (2, zi (x : Int)), (3, zi f), (4, zi b), (5, zi ((i : Int) + 1))], [], m) κ)
    (o3 : wr (i : Int) < wr (m 17 1) → wr (z_and (z_shr (x : Int) (i : Int)) 1) = 0 → T (D + 4) 89 (0, [(0, zr 52), (1, zr 17), (2, zi (x : Int)), (3, zi (i : Int))], [], m) (fun r m1 => T (D + 5) 90 (34, [(0, zr 52), (1, zr 17), (2, zi (x : Int)), (3, zi f), (4, zi b), (5, zi (i : Int))], r.toList ++ [], m1) κ)) :
    T (D + 5) 90 (8, lo, [], m) κ :=
  zkeep hT hlo (hT.1 [(8, [0, 1, 2, 3, 4, 5])] 6 (D + 5) 90 _ κ (And.intro (fun a1 => (o1 a1)) (fun a2 => (hT.1 [(8, [0, 1, 2, 3, 4, 5])] 6 (D + 5) 90 (20, [(0, zr 52), (1, zr 17), (2, zi (x : Int)), (3, zi f), (4, zi b), (5, zi (i : Int))], [zi (i : Int), zi (x : Int)], m) _ (And.intro (fun a3 => (o2 (Classical.byContradiction a2) a3)) (fun a4 => (hT.1 [(8, [0, 1, 2, 3, 4, 5])] 6 (D + 5) 90 (28, [(0, zr 52), (1, zr 17), (2, zi (x : Int)), (3, zi f), (4, zi b), (5, zi (i : Int))], [zr 17, zr 52], m) _ (o3 (Classical.byContradiction a2) (Classical.byContradiction a4)))))))))
theorem zb90_8 (hT : zRules T) {D : Nat} {κ : Option zA → zM → Prop} {m : zM} {x : Nat} {f : Int} {b : Int} {i : Nat} {lo : zL} (hlo : z_keep [0, 1, 2, 3, 4, 5] lo = [(0, zr 52), (1, zr 17), (2, zi (x : Int)), (3, zi f), (4, zi b), (5, zi (i : Int))])  (hB : zB m) (h_x : x ≤ 255) (h_f : (-1) ≤ f ∧ f ≤ 7) (h_b : (-2147483648) ≤ b ∧ b ≤ 2147483647) (h_i : i ≤ 8) 
    (k1 : ¬ (i : Int) < (m 17 1) → κ (some (zi f)) m)
    (k2 : (i : Int) < (m 17 1) → ¬ (z_and (z_shr (x : Int) (i : Int)) 1) = 0 → T (D + 5) 90 (8, [(0, zr 52), (1, zr 17), (2, zi (x : Int)), (3, zi f), (4, zi b), (5, zi ((i : Int) + 1))], [], m) κ)
    (k3 : (i : Int) < (m 17 1) → (z_and (z_shr (x : Int) (i : Int)) 1) = 0 → T (D + 4) 89 (0, [(0, zr 52), (1, zr 17), (2, zi (x : Int)), (3, zi (i : Int))], [], m) (fun r m1 => T (D + 5) 90 (34, [(0, zr 52), (1, zr 17), (2, zi (x : Int)), (3, zi f), (4, zi b), (5, zi (i : Int))], r.toList ++ [], m1) κ)) :
    T (D + 5) 90 (8, lo, [], m) κ := by
  have hb4 : 0 ≤ (m 17 1) ∧ (m 17 1) ≤ 8 := hB 17 1
  have hb5 : (-2147483648) ≤ (z_shr (x : Int) (i : Int)) ∧ (z_shr (x : Int) (i : Int)) ≤ 2147483647 := z_shrB (x : Int) (i : Int)
  have hb6 : 0 ≤ (z_and (z_shr (x : Int) (i : Int)) 1) ∧ (z_and (z_shr (x : Int) (i : Int)) 1) ≤ 1 := z_andC (z_shr (x : Int) (i : Int)) 1 (by decide)
  have he0 : wr (i : Int) = (i : Int) := wr_id (by omega) (by omega)
  have he1 : wr (m 17 1) = (m 17 1) := wr_id (by omega) (by omega)
  have he2 : wr (z_and (z_shr (x : Int) (i : Int)) 1) = (z_and (z_shr (x : Int) (i : Int)) 1) := wr_id (by omega) (by omega)
  have he3 : wr f = f := wr_id (by omega) (by omega)
  have key := @zb90_8r T hT D κ m x f b i lo hlo
  simp only [he0, he1, he2, he3, Int.toNat_natCast] at key
  exact key
    k1
    k2
    k3
theorem zb90_34r (hT : zRules T) {D : Nat} {κ : Option zA → zM → Prop} {m : zM} {x : Nat} {f : Int} {b : Int} {i : Nat} {v : Int} {lo : zL} (hlo : z_keep [0, 1, 2, 3, 4, 5] lo = [(0, zr 52), (1, zr 17), (2, zi (x : Int)), (3, zi f), (4, zi b), (5, zi (i : Int))]) 
    (o1 : wr f = (-1) → T (D + 5) 90 (8, [(0, zr 52), (1, zr 17), (2, zi (x : Int)), (3, zi (i : Int)), (4, zi v), (5, zi ((i : Int) + 1))], [], m) κ)
    (o2 : ¬ wr f = (-1) → ¬ wr v < wr b → T (D + 5) 90 (8, [(0, zr 52), (1, zr 17), (2, zi (x : Int)), (3, zi f), (4, zi b), (5, zi ((i : Int) + 1))], [], m) κ)
    (o3 : ¬ wr f = (-1) → wr v < wr b → T (D + 5) 90 (8, [(0, zr 52), (1, zr 17), (2, zi (x : Int)), (3, zi (i : Int)), (4, zi v), (5, zi ((i : Int) + 1))], [], m) κ) :
    T (D + 5) 90 (34, lo, [zi v], m) κ :=
  zkeep hT hlo (hT.1 [(8, [0, 1, 2, 3, 4, 5])] 6 (D + 5) 90 _ κ (And.intro (fun a1 => (hT.1 [(8, [0, 1, 2, 3, 4, 5])] 6 (D + 5) 90 (51, [(0, zr 52), (1, zr 17), (2, zi (x : Int)), (3, zi (i : Int)), (4, zi b), (5, zi (i : Int)), (6, zi v)], [], m) _ (o1 a1))) (fun a2 => (hT.1 [(8, [0, 1, 2, 3, 4, 5])] 6 (D + 5) 90 (45, [(0, zr 52), (1, zr 17), (2, zi (x : Int)), (3, zi f), (4, zi b), (5, zi (i : Int)), (6, zi v)], [zi b, zi v], m) _ (And.intro (fun a3 => (o2 a2 a3)) (fun a4 => (hT.1 [(8, [0, 1, 2, 3, 4, 5])] 6 (D + 5) 90 (58, [(0, zr 52), (1, zr 17), (2, zi (x : Int)), (3, zi (i : Int)), (4, zi v), (5, zi ((i : Int) + 1)), (6, zi v)], [], m) _ (o3 a2 (Classical.byContradiction a4)))))))))
theorem zb90_34 (hT : zRules T) {D : Nat} {κ : Option zA → zM → Prop} {m : zM} {x : Nat} {f : Int} {b : Int} {i : Nat} {v : Int} {lo : zL} (hlo : z_keep [0, 1, 2, 3, 4, 5] lo = [(0, zr 52), (1, zr 17), (2, zi (x : Int)), (3, zi f), (4, zi b), (5, zi (i : Int))])  (hB : zB m) (h_x : x ≤ 255) (h_f : (-1) ≤ f ∧ f ≤ 7) (h_b : (-2147483648) ≤ b ∧ b ≤ 2147483647) (h_i : i ≤ 7) (h_v : (-2147483648) ≤ v ∧ v ≤ 2147483647) 
    (k1 : f = (-1) → T (D + 5) 90 (8, [(0, zr 52), (1, zr 17), (2, zi (x : Int)), (3, zi (i : Int)), (4, zi v), (5, zi ((i : Int) + 1))], [], m) κ)
    (k2 : ¬ f = (-1) → ¬ v < b → T (D + 5) 90 (8, [(0, zr 52), (1, zr 17), (2, zi (x : Int)), (3, zi f), (4, zi b), (5, zi ((i : Int) + 1))], [], m) κ)
    (k3 : ¬ f = (-1) → v < b → T (D + 5) 90 (8, [(0, zr 52), (1, zr 17), (2, zi (x : Int)), (3, zi (i : Int)), (4, zi v), (5, zi ((i : Int) + 1))], [], m) κ) :
    T (D + 5) 90 (34, lo, [zi v], m) κ := by
  have he0 : wr f = f := wr_id (by omega) (by omega)
  have he1 : wr v = v := wr_id (by omega) (by omega)
  have he2 : wr b = b := wr_id (by omega) (by omega)
  have key := @zb90_34r T hT D κ m x f b i v lo hlo
  simp only [he0, he1, he2, Int.toNat_natCast] at key
  exact key
    k1
    k2
    k3
theorem zb89_0r (hT : zRules T) {D : Nat} {κ : Option zA → zM → Prop} {m : zM} {x : Nat} {f : Int} 
    (o1 : T (D + 3) 293 (0, [(0, zi (x : Int))], [], m) (fun r m1 => T (D + 4) 89 (4, [(0, zr 52), (1, zr 17), (2, zi (x : Int)), (3, zi f)], r.toList ++ [], m1) κ)) :
    T (D + 4) 89 (0, [(0, zr 52), (1, zr 17), (2, zi (x : Int)), (3, zi f)], [], m) κ :=
  hT.1 [] 6 (D + 4) 89 _ κ (o1)
theorem zb89_0 (hT : zRules T) {D : Nat} {κ : Option zA → zM → Prop} {m : zM} {x : Nat} {f : Int}  (hB : zB m) (h_x : x ≤ 255) (h_f : (-1) ≤ f ∧ f ≤ 7) 
    (k1 : T (D + 3) 293 (0, [(0, zi (x : Int))], [], m) (fun r m1 => T (D + 4) 89 (4, [(0, zr 52), (1, zr 17), (2, zi (x : Int)), (3, zi f)], r.toList ++ [], m1) κ)) :
    T (D + 4) 89 (0, [(0, zr 52), (1, zr 17), (2, zi (x : Int)), (3, zi f)], [], m) κ := by
  exact zb89_0r hT
    k1
theorem zb89_4r (hT : zRules T) {D : Nat} {κ : Option zA → zM → Prop} {m : zM} {x : Nat} {f : Int} {v : Int} {lo : zL} (hlo : z_keep [0, 1, 2, 3] lo = [(0, zr 52), (1, zr 17), (2, zi (x : Int)), (3, zi f)]) 
    (o1 : wr f < 0 → κ (some (zi 0)) m)
    (o2 : ¬ wr f < 0 → ¬ wr f < wr (m 17 1) → κ (some (zi 0)) m)
    (o3 : ¬ wr f < 0 → wr f < wr (m 17 1) → wr v < wr (m 52 1) → (0 ≤ wr v ∧ wr v < 60))
    (o4 : ¬ wr f < 0 → wr f < wr (m 17 1) → wr v < wr (m 52 1) → T (D + 3) 34 (0, [(0, zr 17), (1, zi f), (2, zi (m 53 ((wr v).toNat)))], [], m) (fun r m1 => T (D + 4) 89 (37, [(0, zr 52), (1, zr 17), (2, zi (x : Int)), (3, zi f), (4, zi v)], r.toList ++ [], m1) κ))
    (o5 : ¬ wr f < 0 → wr f < wr (m 17 1) → ¬ wr v < wr (m 52 1) → κ (some (zi 0)) m) :
    T (D + 4) 89 (4, lo, [zi v], m) κ :=
  zkeep hT hlo (hT.1 [] 6 (D + 4) 89 _ κ (hT.1 [] 6 (D + 3) 26 _ _ (And.intro (fun a1 => (And.intro (z_b01L rfl) (hT.1 [] 6 (D + 4) 89 _ _ (And.intro (fun _ => (o1 a1)) (fun a3 => (a3 (z_litT rfl)).elim))))) (fun a2 => (And.intro (fun a4 => (hT.1 [] 6 (D + 3) 26 (16, [(0, zr 17), (1, zi f)], [], m) _ (And.intro (z_b01L rfl) (hT.1 [] 6 (D + 4) 89 _ _ (And.intro (fun _ => (o2 a2 a4)) (fun a6 => (a6 (z_litT rfl)).elim)))))) (fun a5 => (hT.1 [] 6 (D + 3) 26 (12, [(0, zr 17), (1, zi f)], [], m) _ (And.intro (z_b01L rfl) (hT.1 [] 6 (D + 4) 89 _ _ (And.intro (fun a7 => (z_litF a7 rfl).elim) (fun _ => (And.intro (fun a8 => (hT.1 [] 6 (D + 4) 89 (26, [(0, zr 52), (1, zr 17), (2, zi (x : Int)), (3, zi f), (4, zi v)], [zr 17], m) _ (And.intro (o3 a2 (Classical.byContradiction a5) a8) (o4 a2 (Classical.byContradiction a5) a8)))) (fun a9 => (hT.1 [] 6 (D + 4) 89 (24, [(0, zr 52), (1, zr 17), (2, zi (x : Int)), (3, zi f), (4, zi v)], [zi 0], m) _ (o5 a2 (Classical.byContradiction a5) a9)))))))))))))))
theorem zb89_4 (hT : zRules T) {D : Nat} {κ : Option zA → zM → Prop} {m : zM} {x : Nat} {f : Int} {v : Int} {lo : zL} (hlo : z_keep [0, 1, 2, 3] lo = [(0, zr 52), (1, zr 17), (2, zi (x : Int)), (3, zi f)])  (hB : zB m) (h_x : x ≤ 255) (h_f : (-1) ≤ f ∧ f ≤ 7) (h_v : 0 ≤ v ∧ v ≤ 63) 
    (k1 : f < 0 → κ (some (zi 0)) m)
    (k2 : ¬ f < 0 → ¬ f < (m 17 1) → κ (some (zi 0)) m)
    (k3 : ¬ f < 0 → f < (m 17 1) → v < (m 52 1) → T (D + 3) 34 (0, [(0, zr 17), (1, zi f), (2, zi (m 53 (v.toNat)))], [], m) (fun r m1 => T (D + 4) 89 (37, [(0, zr 52), (1, zr 17), (2, zi (x : Int)), (3, zi f), (4, zi v)], r.toList ++ [], m1) κ))
    (k4 : ¬ f < 0 → f < (m 17 1) → ¬ v < (m 52 1) → κ (some (zi 0)) m) :
    T (D + 4) 89 (4, lo, [zi v], m) κ := by
  have hb3 : 0 ≤ (m 17 1) ∧ (m 17 1) ≤ 8 := hB 17 1
  have hb4 : 0 ≤ (m 52 1) ∧ (m 52 1) ≤ 60 := hB 52 1
  have hb5 : 0 ≤ (m 53 (v.toNat)) ∧ (m 53 (v.toNat)) ≤ 99 := hB 53 (v.toNat)
  have he0 : wr f = f := wr_id (by omega) (by omega)
  have he1 : wr (m 17 1) = (m 17 1) := wr_id (by omega) (by omega)
  have he2 : wr v = v := wr_id (by omega) (by omega)
  have he3 : wr (m 52 1) = (m 52 1) := wr_id (by omega) (by omega)
  have key := @zb89_4r T hT D κ m x f v lo hlo
  simp only [he0, he1, he2, he3, Int.toNat_natCast] at key
  exact key
    k1
    k2
    (fun x0 x1 x2 => by refine ⟨?_, ?_⟩ <;> omega)
    k3
    k4
theorem zb89_37r (hT : zRules T) {D : Nat} {κ : Option zA → zM → Prop} {m : zM} {x : Nat} {f : Nat} {v : Int} {lo : zL} (hlo : z_keep [0, 2, 3] lo = [(0, zr 52), (2, zi (x : Int)), (3, zi (f : Int))]) 
    (o1 : (0 ≤ wr (z_or (x : Int) (z_shl 1 (f : Int))) ∧ wr (z_or (x : Int) (z_shl 1 (f : Int))) < 256))
    (o2 : κ (some (zi (wr (v + (m 57 ((wr (z_or (x : Int) (z_shl 1 (f : Int)))).toNat)))))) m) :
    T (D + 4) 89 (37, lo, [zi v], m) κ :=
  zkeep hT hlo (hT.1 [] 6 (D + 4) 89 _ κ (hT.1 [] 6 (D + 4) 89 (45, [(0, zr 52), (2, zi (x : Int)), (3, zi (f : Int))], [zi (z_shl 1 (f : Int)), zi (x : Int), zr 57, zi v], m) _ (And.intro (o1) (o2))))
theorem zb89_37 (hT : zRules T) {D : Nat} {κ : Option zA → zM → Prop} {m : zM} {x : Nat} {f : Nat} {v : Int} {lo : zL} (hlo : z_keep [0, 2, 3] lo = [(0, zr 52), (2, zi (x : Int)), (3, zi (f : Int))])  (hB : zB m) (h_x : x ≤ 255) (h_f : f ≤ 7) (h_v : 0 ≤ v ∧ v ≤ 1000) 
    (k1 : (0 ≤ (z_or (x : Int) (z_shl 1 (f : Int))) ∧ (z_or (x : Int) (z_shl 1 (f : Int))) < 256))
    (k2 : κ (some (zi (wr (v + (m 57 ((z_or (x : Int) (z_shl 1 (f : Int))).toNat)))))) m) :
    T (D + 4) 89 (37, lo, [zi v], m) κ := by
  have hb3 : (-2147483648) ≤ (z_shl 1 (f : Int)) ∧ (z_shl 1 (f : Int)) ≤ 2147483647 := z_shlB 1 (f : Int)
  have hb4 : (-2147483648) ≤ (z_or (x : Int) (z_shl 1 (f : Int))) ∧ (z_or (x : Int) (z_shl 1 (f : Int))) ≤ 2147483647 := z_orB (x : Int) (z_shl 1 (f : Int))
  have hb5 : (-2147483648) ≤ wr (v + (m 57 ((z_or (x : Int) (z_shl 1 (f : Int))).toNat))) ∧ wr (v + (m 57 ((z_or (x : Int) (z_shl 1 (f : Int))).toNat))) ≤ 2147483647 := wrB (v + (m 57 ((z_or (x : Int) (z_shl 1 (f : Int))).toNat)))
  have he0 : wr (z_or (x : Int) (z_shl 1 (f : Int))) = (z_or (x : Int) (z_shl 1 (f : Int))) := wr_id (by omega) (by omega)
  have key := @zb89_37r T hT D κ m x f v lo hlo
  simp only [he0, Int.toNat_natCast] at key
  exact key
    k1
    k2
theorem zb48_0_58r (hT : zRules T) {D : Nat} {κ : Option zA → zM → Prop} {m : zM} {n : Nat} 
    (o1 : 26 < wr (n : Int) → False)
    (o2 : ¬ 26 < wr (n : Int) → 0 < wr (wr (n : Int)) → ((0 : Int) ≤ 0 ∧ (0 : Int) ≤ 0 ∧ (0 : Int) ≤ wr ((zu m 72 1 (wr (wr (n : Int)))) 72 1) ∧ 0 + wr ((zu m 72 1 (wr (wr (n : Int)))) 72 1) ≤ 26 ∧ 0 + wr ((zu m 72 1 (wr (wr (n : Int)))) 72 1) ≤ 26))
    (o3 : ¬ 26 < wr (n : Int) → 0 < wr (wr (n : Int)) → κ (none) (z_cp (zu m 72 1 (wr (wr (n : Int)))) 58 73 0 0 ((wr ((zu m 72 1 (wr (wr (n : Int)))) 72 1)).toNat)))
    (o4 : ¬ 26 < wr (n : Int) → ¬ 0 < wr (wr (n : Int)) → κ (none) (z_cp (zu m 72 1 0) 58 73 0 0 0)) :
    T (D + 2) 48 (0, [(0, zr 72), (1, zr 58), (2, zi (n : Int))], [], m) κ :=
  hT.1 [] 6 (D + 2) 48 _ κ (hT.1 [] 6 (D + 2) 48 (6, [(0, zr 72), (1, zr 58), (2, zi (n : Int))], [zr 72, zi 26, zi (n : Int), zi 0, zr 72], m) _ (hT.1 [] 6 (D + 1) 294 _ _ (And.intro (fun a1 => (z_litF a1 rfl).elim) (fun _ => (hT.1 [] 6 (D + 2) 48 _ _ (hT.1 [] 6 (D + 1) 294 _ _ (And.intro (fun a2 => (o1 a2).elim) (fun a3 => (hT.1 [] 6 (D + 2) 48 _ _ (hT.1 [] 6 (D + 1) 295 _ _ (And.intro (fun a4 => (hT.1 [] 6 (D + 2) 48 _ _ (And.intro trivial (hT.1 [] 6 (D + 2) 48 (29, [(0, zr 72), (1, zr 58), (2, zi (n : Int))], [zi 0, zr 73, zi 0, zr 58], (zu m 72 1 (wr (wr (n : Int))))) _ (And.intro (o2 a3 a4) (o3 a3 a4)))))) (fun a5 => (hT.1 [] 6 (D + 2) 48 _ _ (And.intro trivial (hT.1 [] 6 (D + 2) 48 (29, [(0, zr 72), (1, zr 58), (2, zi (n : Int))], [zi 0, zr 73, zi 0, zr 58], (zu m 72 1 0)) _ (And.intro (And.intro (z_leL rfl) (And.intro (z_leL rfl) (And.intro (z_leL rfl) (And.intro (z_leL rfl) (z_leL rfl))))) (o4 a3 a5)))))))))))))))))
theorem zb48_0_58 (hT : zRules T) {D : Nat} {κ : Option zA → zM → Prop} {m : zM} {n : Nat}  (hB : zB m) (h_n : n ≤ 8) 
    (k1 : 0 < (n : Int) → zB (z_cp (zu m 72 1 (n : Int)) 58 73 0 0 n) → κ (none) (z_cp (zu m 72 1 (n : Int)) 58 73 0 0 n))
    (k2 : ¬ 0 < (n : Int) → zB (z_cp (zu m 72 1 0) 58 73 0 0 0) → κ (none) (z_cp (zu m 72 1 0) 58 73 0 0 0)) :
    T (D + 2) 48 (0, [(0, zr 72), (1, zr 58), (2, zi (n : Int))], [], m) κ := by
  have he0 : wr (n : Int) = (n : Int) := wr_id (by omega) (by omega)
  have he1 : ((zu m 72 1 (n : Int)) 72 1) = (n : Int) := (zu_sm rfl)
  have he2 : (n : Int).toNat = n := by omega
  have key := @zb48_0_58r T hT D κ m n
  simp only [he0, he1, he2, Int.toNat_natCast] at key
  exact key
    (fun x0 => by omega)
    (fun x0 x1 => by refine ⟨?_, ?_, ?_, ?_, ?_⟩ <;> omega)
    (fun x0 x1 => k1 x1 (zB_cp (zB_u hB (show 0 ≤ (n : Int) ∧ (n : Int) ≤ 26 from ⟨by omega, by omega⟩)) (fun _ _ _ => trivial)))
    (fun x0 x1 => k2 x1 (zB_cp (zB_u hB (show 0 ≤ 0 ∧ 0 ≤ 26 from ⟨by omega, by omega⟩)) (fun _ _ _ => trivial)))
theorem zb264_0r (hT : zRules T) {D : Nat} {κ : Option zA → zM → Prop} {m : zM} {x : Int} 
    (o1 : wr x < 0 → κ (some (zi (-1))) (zu m 74 12 0))
    (o2 : ¬ wr x < 0 → wr ((z_shl 1 (m 74 4)) - 1) < wr x → κ (some (zi (-1))) (zu m 74 12 0))
    (o3 : ¬ wr x < 0 → ¬ wr ((z_shl 1 (m 74 4)) - 1) < wr x → T (D + 6) 264 (25, [(0, zr 74), (1, zi x), (2, zi 0)], [], (zu m 74 12 0)) κ) :
    T (D + 6) 264 (0, [(0, zr 74), (1, zi x)], [], m) κ :=
  hT.1 [(25, [0, 1, 2]), (35, [0, 1, 2, 3]), (107, [0, 1, 2])] 6 (D + 6) 264 _ κ (And.intro trivial (hT.1 [(25, [0, 1, 2]), (35, [0, 1, 2, 3]), (107, [0, 1, 2])] 6 (D + 6) 264 (8, [(0, zr 74), (1, zi x)], [zi 1, zi 0, zi x], (zu m 74 12 0)) _ (hT.1 [] 6 (D + 5) 186 _ _ (And.intro (fun a1 => (And.intro (z_b01L rfl) (hT.1 [(25, [0, 1, 2]), (35, [0, 1, 2, 3]), (107, [0, 1, 2])] 6 (D + 6) 264 _ _ (And.intro (fun a3 => (z_litF a3 rfl).elim) (fun _ => (o1 a1)))))) (fun a2 => (And.intro (fun a4 => (hT.1 [] 6 (D + 5) 186 (14, [(0, zi x), (1, zi 0), (2, zi ((z_shl 1 (m 74 4)) - 1))], [], (zu m 74 12 0)) _ (And.intro (z_b01L rfl) (hT.1 [(25, [0, 1, 2]), (35, [0, 1, 2, 3]), (107, [0, 1, 2])] 6 (D + 6) 264 _ _ (And.intro (fun a6 => (z_litF a6 rfl).elim) (fun _ => (o2 a2 a4))))))) (fun a5 => (hT.1 [] 6 (D + 5) 186 (10, [(0, zi x), (1, zi 0), (2, zi ((z_shl 1 (m 74 4)) - 1))], [], (zu m 74 12 0)) _ (And.intro (z_b01L rfl) (hT.1 [(25, [0, 1, 2]), (35, [0, 1, 2, 3]), (107, [0, 1, 2])] 6 (D + 6) 264 _ _ (And.intro (fun _ => (o3 a2 a5)) (fun a7 => (a7 (z_litT rfl)).elim))))))))))))
theorem zb264_0 (hT : zRules T) {D : Nat} {κ : Option zA → zM → Prop} {m : zM} {x : Int}  (hB : zB m) (h_x : (-2147483648) ≤ x ∧ x ≤ 2147483647) 
    (k1 : x < 0 → zB (zu m 74 12 0) → κ (some (zi (-1))) (zu m 74 12 0))
    (k2 : ¬ x < 0 → wr ((z_shl 1 (m 74 4)) - 1) < x → zB (zu m 74 12 0) → κ (some (zi (-1))) (zu m 74 12 0))
    (k3 : ¬ x < 0 → ¬ wr ((z_shl 1 (m 74 4)) - 1) < x → zB (zu m 74 12 0) → T (D + 6) 264 (25, [(0, zr 74), (1, zi x), (2, zi 0)], [], (zu m 74 12 0)) κ) :
    T (D + 6) 264 (0, [(0, zr 74), (1, zi x)], [], m) κ := by
  have hb1 : 0 ≤ (m 74 4) ∧ (m 74 4) ≤ 6 := hB 74 4
  have hb2 : (-2147483648) ≤ (z_shl 1 (m 74 4)) ∧ (z_shl 1 (m 74 4)) ≤ 2147483647 := z_shlB 1 (m 74 4)
  have hb3 : (-2147483648) ≤ wr ((z_shl 1 (m 74 4)) - 1) ∧ wr ((z_shl 1 (m 74 4)) - 1) ≤ 2147483647 := wrB ((z_shl 1 (m 74 4)) - 1)
  have he0 : wr x = x := wr_id (by omega) (by omega)
  have key := @zb264_0r T hT D κ m x
  simp only [he0, Int.toNat_natCast] at key
  exact key
    (fun x0 => k1 x0 (zB_u hB trivial))
    (fun x0 x1 => k2 x0 x1 (zB_u hB trivial))
    (fun x0 x1 => k3 x0 x1 (zB_u hB trivial))
theorem zb264_25r (hT : zRules T) {D : Nat} {κ : Option zA → zM → Prop} {m : zM} {x : Nat} {p : Nat} {lo : zL} (hlo : z_keep [0, 1, 2] lo = [(0, zr 74), (1, zi (x : Int)), (2, zi (p : Int))]) 
    (o1 : ¬ wr (p : Int) < wr (m 74 4) → T (D + 5) 263 (0, [(0, zr 74), (1, zi 0), (2, zi (x : Int)), (3, zi 0), (4, zi 0)], [], (zu m 74 47 100000000)) (fun r m1 => T (D + 6) 264 (87, [(0, zr 74), (1, zi (x : Int)), (2, zi (p : Int))], r.toList ++ [], m1) κ))
    (o2 : wr (p : Int) < wr (m 74 4) → T (D + 6) 264 (35, [(0, zr 74), (1, zi (x : Int)), (2, zi (p : Int)), (3, zi 0)], [], m) κ) :
    T (D + 6) 264 (25, lo, [], m) κ :=
  zkeep hT hlo (hT.1 [(25, [0, 1, 2]), (35, [0, 1, 2, 3]), (107, [0, 1, 2])] 6 (D + 6) 264 _ κ (And.intro (fun a1 => (hT.1 [(25, [0, 1, 2]), (35, [0, 1, 2, 3]), (107, [0, 1, 2])] 6 (D + 6) 264 (76, [(0, zr 74), (1, zi (x : Int)), (2, zi (p : Int))], [zi 100000000, zr 74], m) _ (And.intro trivial (hT.1 [(25, [0, 1, 2]), (35, [0, 1, 2, 3]), (107, [0, 1, 2])] 6 (D + 6) 264 (84, [(0, zr 74), (1, zi (x : Int)), (2, zi (p : Int))], [zi 0, zi 0, zi (x : Int), zi 0, zr 74], (zu m 74 47 100000000)) _ (o1 a1))))) (fun a2 => (o2 (Classical.byContradiction a2)))))
theorem zb264_25 (hT : zRules T) {D : Nat} {κ : Option zA → zM → Prop} {m : zM} {x : Nat} {p : Nat} {lo : zL} (hlo : z_keep [0, 1, 2] lo = [(0, zr 74), (1, zi (x : Int)), (2, zi (p : Int))])  (hB : zB m) (h_x : x ≤ 63) (h_p : p ≤ 6) 
    (k1 : ¬ (p : Int) < (m 74 4) → zB (zu m 74 47 100000000) → T (D + 5) 263 (0, [(0, zr 74), (1, zi 0), (2, zi (x : Int)), (3, zi 0), (4, zi 0)], [], (zu m 74 47 100000000)) (fun r m1 => T (D + 6) 264 (87, [(0, zr 74), (1, zi (x : Int)), (2, zi (p : Int))], r.toList ++ [], m1) κ))
    (k2 : (p : Int) < (m 74 4) → T (D + 6) 264 (35, [(0, zr 74), (1, zi (x : Int)), (2, zi (p : Int)), (3, zi 0)], [], m) κ) :
    T (D + 6) 264 (25, lo, [], m) κ := by
  have hb2 : 0 ≤ (m 74 4) ∧ (m 74 4) ≤ 6 := hB 74 4
  have he0 : wr (p : Int) = (p : Int) := wr_id (by omega) (by omega)
  have he1 : wr (m 74 4) = (m 74 4) := wr_id (by omega) (by omega)
  have key := @zb264_25r T hT D κ m x p lo hlo
  simp only [he0, he1, Int.toNat_natCast] at key
  exact key
    (fun x0 => k1 x0 (zB_u hB trivial))
    k2
theorem zb264_35r (hT : zRules T) {D : Nat} {κ : Option zA → zM → Prop} {m : zM} {x : Nat} {p : Nat} {c : Nat} {lo : zL} (hlo : z_keep [0, 1, 2, 3] lo = [(0, zr 74), (1, zi (x : Int)), (2, zi (p : Int)), (3, zi (c : Int))]) 
    (o1 : ¬ wr (c : Int) < wr (m 74 6) → T (D + 6) 264 (25, [(0, zr 74), (1, zi (x : Int)), (2, zi ((p : Int) + 1))], [], m) κ)
    (o2 : wr (c : Int) < wr (m 74 6) → T (D + 5) 261 (0, [(0, zr 74), (1, zi (c : Int)), (2, zi (p : Int))], [], m) (fun r m1 => T (D + 6) 264 (59, [(0, zr 74), (1, zi (x : Int)), (2, zi (p : Int)), (3, zi (c : Int))], r.toList ++ [zi ((8 * (p : Int)) + (c : Int)), zr 94], m1) κ)) :
    T (D + 6) 264 (35, lo, [], m) κ :=
  zkeep hT hlo (hT.1 [(25, [0, 1, 2]), (35, [0, 1, 2, 3]), (107, [0, 1, 2])] 6 (D + 6) 264 _ κ (And.intro (fun a1 => (o1 a1)) (fun a2 => (hT.1 [(25, [0, 1, 2]), (35, [0, 1, 2, 3]), (107, [0, 1, 2])] 6 (D + 6) 264 (47, [(0, zr 74), (1, zi (x : Int)), (2, zi (p : Int)), (3, zi (c : Int))], [zr 94], m) _ (hT.1 [(25, [0, 1, 2]), (35, [0, 1, 2, 3]), (107, [0, 1, 2])] 6 (D + 6) 264 (54, [(0, zr 74), (1, zi (x : Int)), (2, zi (p : Int)), (3, zi (c : Int))], [zr 74, zi ((8 * (p : Int)) + (c : Int)), zr 94], m) _ (o2 (Classical.byContradiction a2)))))))
theorem zb264_35 (hT : zRules T) {D : Nat} {κ : Option zA → zM → Prop} {m : zM} {x : Nat} {p : Nat} {c : Nat} {lo : zL} (hlo : z_keep [0, 1, 2, 3] lo = [(0, zr 74), (1, zi (x : Int)), (2, zi (p : Int)), (3, zi (c : Int))])  (hB : zB m) (h_x : x ≤ 63) (h_p : p ≤ 5) (h_c : c ≤ 8) 
    (k1 : ¬ (c : Int) < (m 74 6) → T (D + 6) 264 (25, [(0, zr 74), (1, zi (x : Int)), (2, zi ((p : Int) + 1))], [], m) κ)
    (k2 : (c : Int) < (m 74 6) → T (D + 5) 261 (0, [(0, zr 74), (1, zi (c : Int)), (2, zi (p : Int))], [], m) (fun r m1 => T (D + 6) 264 (59, [(0, zr 74), (1, zi (x : Int)), (2, zi (p : Int)), (3, zi (c : Int))], r.toList ++ [zi ((8 * (p : Int)) + (c : Int)), zr 94], m1) κ)) :
    T (D + 6) 264 (35, lo, [], m) κ := by
  have hb3 : 0 ≤ (m 74 6) ∧ (m 74 6) ≤ 8 := hB 74 6
  have he0 : wr (c : Int) = (c : Int) := wr_id (by omega) (by omega)
  have he1 : wr (m 74 6) = (m 74 6) := wr_id (by omega) (by omega)
  have key := @zb264_35r T hT D κ m x p c lo hlo
  simp only [he0, he1, Int.toNat_natCast] at key
  exact key
    k1
    k2
theorem zb264_59r (hT : zRules T) {D : Nat} {κ : Option zA → zM → Prop} {m : zM} {x : Nat} {p : Nat} {c : Nat} {v : Int} {d : Nat} {lo : zL} (hlo : z_keep [0, 1, 2, 3] lo = [(0, zr 74), (1, zi (x : Int)), (2, zi (p : Int)), (3, zi (c : Int))]) 
    (o1 : (0 ≤ wr (d : Int) ∧ wr (d : Int) < 48))
    (o2 : T (D + 6) 264 (35, [(0, zr 74), (1, zi (x : Int)), (2, zi (p : Int)), (3, zi ((c : Int) + 1))], [], (zu m 94 ((wr (d : Int)).toNat) v)) κ) :
    T (D + 6) 264 (59, lo, [zi v, zi (d : Int), zr 94], m) κ :=
  zkeep hT hlo (hT.1 [(25, [0, 1, 2]), (35, [0, 1, 2, 3]), (107, [0, 1, 2])] 6 (D + 6) 264 _ κ (And.intro (And.intro (o1) trivial) (o2)))
theorem zb264_59 (hT : zRules T) {D : Nat} {κ : Option zA → zM → Prop} {m : zM} {x : Nat} {p : Nat} {c : Nat} {v : Int} {d : Nat} {lo : zL} (hlo : z_keep [0, 1, 2, 3] lo = [(0, zr 74), (1, zi (x : Int)), (2, zi (p : Int)), (3, zi (c : Int))])  (hB : zB m) (h_x : x ≤ 63) (h_p : p ≤ 5) (h_c : c ≤ 7) (h_v : 0 ≤ v ∧ v ≤ 1000) (h_d : d ≤ 47) 
    (k1 : zB (zu m 94 d v) → T (D + 6) 264 (35, [(0, zr 74), (1, zi (x : Int)), (2, zi (p : Int)), (3, zi ((c : Int) + 1))], [], (zu m 94 d v)) κ) :
    T (D + 6) 264 (59, lo, [zi v, zi (d : Int), zr 94], m) κ := by
  have he0 : wr (d : Int) = (d : Int) := wr_id (by omega) (by omega)
  have he1 : (d : Int).toNat = d := by omega
  have key := @zb264_59r T hT D κ m x p c v d lo hlo
  simp only [he0, he1, Int.toNat_natCast] at key
  exact key
    (by refine ⟨?_, ?_⟩ <;> omega)
    (k1  (zB_u hB trivial))
theorem zb264_87r (hT : zRules T) {D : Nat} {κ : Option zA → zM → Prop} {m : zM} {x : Nat} {lo : zL} (hlo : z_keep [0, 1] lo = [(0, zr 74), (1, zi (x : Int))]) 
    (o1 : ¬ wr (m 74 47) = 100000000 → T (D + 6) 264 (107, [(0, zr 74), (1, zi (x : Int)), (2, zi 0)], [], (zu m 74 11 0)) κ)
    (o2 : wr (m 74 47) = 100000000 → κ (some (zi (-2))) m) :
    T (D + 6) 264 (87, lo, [], m) κ :=
  zkeep hT hlo (hT.1 [(25, [0, 1, 2]), (35, [0, 1, 2, 3]), (107, [0, 1, 2])] 6 (D + 6) 264 _ κ (And.intro (fun a1 => (hT.1 [(25, [0, 1, 2]), (35, [0, 1, 2, 3]), (107, [0, 1, 2])] 6 (D + 6) 264 (102, [(0, zr 74), (1, zi (x : Int))], [zi 0, zr 74], m) _ (And.intro trivial (o1 a1)))) (fun a2 => (o2 (Classical.byContradiction a2)))))
theorem zb264_87 (hT : zRules T) {D : Nat} {κ : Option zA → zM → Prop} {m : zM} {x : Nat} {lo : zL} (hlo : z_keep [0, 1] lo = [(0, zr 74), (1, zi (x : Int))])  (hB : zB m) (h_x : x ≤ 63) 
    (k1 : ¬ wr (m 74 47) = 100000000 → zB (zu m 74 11 0) → T (D + 6) 264 (107, [(0, zr 74), (1, zi (x : Int)), (2, zi 0)], [], (zu m 74 11 0)) κ)
    (k2 : wr (m 74 47) = 100000000 → κ (some (zi (-2))) m) :
    T (D + 6) 264 (87, lo, [], m) κ := by
  have hb1 : (-2147483648) ≤ wr (m 74 47) ∧ wr (m 74 47) ≤ 2147483647 := wrB (m 74 47)
  exact zb264_87r hT hlo
    (fun x0 => k1 x0 (zB_u hB (show 0 ≤ 0 ∧ 0 ≤ 32 from ⟨by omega, by omega⟩)))
    k2
theorem zb264_107r (hT : zRules T) {D : Nat} {κ : Option zA → zM → Prop} {m : zM} {x : Nat} {p : Nat} {lo : zL} (hlo : z_keep [0, 1, 2] lo = [(0, zr 74), (1, zi (x : Int)), (2, zi (p : Int))]) 
    (o1 : ¬ wr (p : Int) < wr (m 74 4) → κ (some (zi (wr (m 74 47)))) m)
    (o2 : wr (p : Int) < wr (m 74 4) → ¬ wr (z_and (z_shr (x : Int) (p : Int)) 1) = 1 → T (D + 6) 264 (107, [(0, zr 74), (1, zi (x : Int)), (2, zi ((p : Int) + 1))], [], m) κ)
    (o3 : wr (p : Int) < wr (m 74 4) → wr (z_and (z_shr (x : Int) (p : Int)) 1) = 1 → (0 ≤ wr (p : Int) ∧ wr (p : Int) < 6))
    (o4 : wr (p : Int) < wr (m 74 4) → wr (z_and (z_shr (x : Int) (p : Int)) 1) = 1 → (0 ≤ wr (m 74 11) ∧ wr (m 74 11) < 32))
    (o5 : wr (p : Int) < wr (m 74 4) → wr (z_and (z_shr (x : Int) (p : Int)) 1) = 1 → T (D + 6) 264 (107, [(0, zr 74), (1, zi (x : Int)), (2, zi ((p : Int) + 1))], [], (zu (zu m 81 ((wr (m 74 11)).toNat) (m 96 ((wr (p : Int)).toNat))) 74 11 ((m 74 11) + 1))) κ) :
    T (D + 6) 264 (107, lo, [], m) κ :=
  zkeep hT hlo (hT.1 [(25, [0, 1, 2]), (35, [0, 1, 2, 3]), (107, [0, 1, 2])] 6 (D + 6) 264 _ κ (And.intro (fun a1 => (hT.1 [(25, [0, 1, 2]), (35, [0, 1, 2, 3]), (107, [0, 1, 2])] 6 (D + 6) 264 (143, [(0, zr 74), (1, zi (x : Int)), (2, zi (p : Int))], [zi (m 74 47)], m) _ (o1 a1))) (fun a2 => (hT.1 [(25, [0, 1, 2]), (35, [0, 1, 2, 3]), (107, [0, 1, 2])] 6 (D + 6) 264 (117, [(0, zr 74), (1, zi (x : Int)), (2, zi (p : Int))], [zi (p : Int), zi (x : Int)], m) _ (hT.1 [] 6 (D + 5) 187 _ _ (hT.1 [] 6 (D + 5) 187 (6, [(0, zi (x : Int)), (1, zi (p : Int))], [zi 1, zi (z_and (z_shr (x : Int) (p : Int)) 1)], m) _ (And.intro (fun a3 => (And.intro (z_b01L rfl) (hT.1 [(25, [0, 1, 2]), (35, [0, 1, 2, 3]), (107, [0, 1, 2])] 6 (D + 6) 264 _ _ (And.intro (fun _ => (o2 (Classical.byContradiction a2) a3)) (fun a5 => (a5 (z_litT rfl)).elim))))) (fun a4 => (And.intro (z_b01L rfl) (hT.1 [(25, [0, 1, 2]), (35, [0, 1, 2, 3]), (107, [0, 1, 2])] 6 (D + 6) 264 _ _ (And.intro (fun a6 => (z_litF a6 rfl).elim) (fun _ => (And.intro (o3 (Classical.byContradiction a2) (Classical.byContradiction a4)) (hT.1 [(25, [0, 1, 2]), (35, [0, 1, 2, 3]), (107, [0, 1, 2])] 6 (D + 6) 264 (130, [(0, zr 74), (1, zi (x : Int)), (2, zi (p : Int))], [zi (m 96 ((wr (p : Int)).toNat)), zr 74], m) _ (hT.1 [] 6 (D + 5) 189 _ _ (And.intro (And.intro (o4 (Classical.byContradiction a2) (Classical.byContradiction a4)) trivial) (hT.1 [] 6 (D + 5) 189 (10, [(0, zr 74), (1, zi (m 96 ((wr (p : Int)).toNat)))], [], (zu m 81 ((wr (m 74 11)).toNat) (m 96 ((wr (p : Int)).toNat)))) _ (And.intro trivial (hT.1 [] 6 (D + 5) 189 (20, [(0, zr 74), (1, zi (m 96 ((wr (p : Int)).toNat)))], [], (zu (zu m 81 ((wr (m 74 11)).toNat) (m 96 ((wr (p : Int)).toNat))) 74 11 ((m 74 11) + 1))) _ (hT.1 [(25, [0, 1, 2]), (35, [0, 1, 2, 3]), (107, [0, 1, 2])] 6 (D + 6) 264 _ _ (o5 (Classical.byContradiction a2) (Classical.byContradiction a4))))))))))))))))))))))
theorem zb264_107 (hT : zRules T) {D : Nat} {κ : Option zA → zM → Prop} {m : zM} {x : Nat} {p : Nat} {lo : zL} (hlo : z_keep [0, 1, 2] lo = [(0, zr 74), (1, zi (x : Int)), (2, zi (p : Int))])  (hB : zB m) (h_x : x ≤ 63) (h_p : p ≤ 6) 
    (k1 : ¬ (p : Int) < (m 74 4) → κ (some (zi (wr (m 74 47)))) m)
    (k2 : (p : Int) < (m 74 4) → ¬ (z_and (z_shr (x : Int) (p : Int)) 1) = 1 → T (D + 6) 264 (107, [(0, zr 74), (1, zi (x : Int)), (2, zi ((p : Int) + 1))], [], m) κ)
    (k3 : (p : Int) < (m 74 4) → (z_and (z_shr (x : Int) (p : Int)) 1) = 1 → (0 ≤ (m 74 11) ∧ (m 74 11) < 32))
    (k4 : (p : Int) < (m 74 4) → (z_and (z_shr (x : Int) (p : Int)) 1) = 1 → T (D + 6) 264 (107, [(0, zr 74), (1, zi (x : Int)), (2, zi ((p : Int) + 1))], [], (zu (zu m 81 ((m 74 11).toNat) (m 96 p)) 74 11 ((m 74 11) + 1))) κ) :
    T (D + 6) 264 (107, lo, [], m) κ := by
  have hb2 : 0 ≤ (m 74 4) ∧ (m 74 4) ≤ 6 := hB 74 4
  have hb3 : (-2147483648) ≤ (z_shr (x : Int) (p : Int)) ∧ (z_shr (x : Int) (p : Int)) ≤ 2147483647 := z_shrB (x : Int) (p : Int)
  have hb4 : 0 ≤ (z_and (z_shr (x : Int) (p : Int)) 1) ∧ (z_and (z_shr (x : Int) (p : Int)) 1) ≤ 1 := z_andC (z_shr (x : Int) (p : Int)) 1 (by decide)
  have hb5 : 0 ≤ (m 74 11) ∧ (m 74 11) ≤ 32 := hB 74 11
  have hb6 : (-2147483648) ≤ wr (m 74 47) ∧ wr (m 74 47) ≤ 2147483647 := wrB (m 74 47)
  have he0 : wr (p : Int) = (p : Int) := wr_id (by omega) (by omega)
  have he1 : wr (m 74 4) = (m 74 4) := wr_id (by omega) (by omega)
  have he2 : wr (z_and (z_shr (x : Int) (p : Int)) 1) = (z_and (z_shr (x : Int) (p : Int)) 1) := wr_id (by omega) (by omega)
  have he3 : (p : Int).toNat = p := by omega
  have he4 : wr (m 74 11) = (m 74 11) := wr_id (by omega) (by omega)
  have key := @zb264_107r T hT D κ m x p lo hlo
  simp only [he0, he1, he2, he3, he4, Int.toNat_natCast] at key
  exact key
    k1
    k2
    (fun x0 x1 => by refine ⟨?_, ?_⟩ <;> omega)
    k3
    k4
theorem zb263_0r (hT : zRules T) {D : Nat} {κ : Option zA → zM → Prop} {m : zM} {k : Nat} {x : Nat} {u : Nat} {t : Int} 
    (o1 : wr t < wr (m 74 47) → ¬ wr (k : Int) = wr (m 74 4) → ¬ wr (z_and (z_shr (x : Int) (k : Int)) 1) = 1 → T D 263 (0, [(0, zr 74), (1, zi ((k : Int) + 1)), (2, zi (x : Int)), (3, zi (u : Int)), (4, zi t)], [], m) (fun r m1 => T (D + 1) 263 (76, [(0, zr 74), (1, zi (k : Int)), (2, zi (x : Int)), (3, zi (u : Int)), (4, zi t)], r.toList ++ [], m1) κ))
    (o2 : wr t < wr (m 74 47) → ¬ wr (k : Int) = wr (m 74 4) → wr (z_and (z_shr (x : Int) (k : Int)) 1) = 1 → T (D + 1) 263 (80, [(0, zr 74), (1, zi (k : Int)), (2, zi (x : Int)), (3, zi (u : Int)), (4, zi t), (5, zi 0)], [], m) κ)
    (o3 : wr t < wr (m 74 47) → wr (k : Int) = wr (m 74 4) → T (D + 1) 263 (27, [(0, zr 74), (5, zi 0)], [], (zu m 74 47 t)) κ)
    (o4 : ¬ wr t < wr (m 74 47) → κ (none) m) :
    T (D + 1) 263 (0, [(0, zr 74), (1, zi (k : Int)), (2, zi (x : Int)), (3, zi (u : Int)), (4, zi t)], [], m) κ :=
  hT.1 [(27, [0, 5]), (80, [0, 1, 2, 3, 4, 5])] 6 (D + 1) 263 _ κ (And.intro (fun a1 => (hT.1 [(27, [0, 5]), (80, [0, 1, 2, 3, 4, 5])] 6 (D + 1) 263 (12, [(0, zr 74), (1, zi (k : Int)), (2, zi (x : Int)), (3, zi (u : Int)), (4, zi t)], [zr 74, zi (k : Int)], m) _ (And.intro (fun a3 => (hT.1 [] 6 D 187 _ _ (hT.1 [] 6 D 187 (6, [(0, zi (x : Int)), (1, zi (k : Int))], [zi 1, zi (z_and (z_shr (x : Int) (k : Int)) 1)], m) _ (And.intro (fun a5 => (And.intro (z_b01L rfl) (hT.1 [(27, [0, 5]), (80, [0, 1, 2, 3, 4, 5])] 6 (D + 1) 263 _ _ (And.intro (fun a7 => (z_litF a7 rfl).elim) (fun _ => (hT.1 [(27, [0, 5]), (80, [0, 1, 2, 3, 4, 5])] 6 (D + 1) 263 (70, [(0, zr 74), (1, zi (k : Int)), (2, zi (x : Int)), (3, zi (u : Int)), (4, zi t)], [zi (x : Int), zi ((k : Int) + 1), zr 74], m) _ (o1 a1 a3 a5))))))) (fun a6 => (And.intro (z_b01L rfl) (hT.1 [(27, [0, 5]), (80, [0, 1, 2, 3, 4, 5])] 6 (D + 1) 263 _ _ (And.intro (fun _ => (o2 a1 a3 (Classical.byContradiction a6))) (fun a8 => (a8 (z_litT rfl)).elim))))))))) (fun a4 => (And.intro trivial (hT.1 [(27, [0, 5]), (80, [0, 1, 2, 3, 4, 5])] 6 (D + 1) 263 (25, [(0, zr 74), (1, zi (k : Int)), (2, zi (x : Int)), (3, zi (u : Int)), (4, zi t)], [zi 0], (zu m 74 47 t)) _ (o3 a1 (Classical.byContradiction a4)))))))) (fun a2 => (o4 a2)))
theorem zb263_0 (hT : zRules T) {D : Nat} {κ : Option zA → zM → Prop} {m : zM} {k : Nat} {x : Nat} {u : Nat} {t : Int}  (hB : zB m) (h_k : k ≤ 6) (h_x : x ≤ 63) (h_u : u ≤ 255) (h_t : 0 ≤ t ∧ t ≤ 10000) 
    (k1 : t < wr (m 74 47) → ¬ (k : Int) = (m 74 4) → ¬ (z_and (z_shr (x : Int) (k : Int)) 1) = 1 → T D 263 (0, [(0, zr 74), (1, zi ((k : Int) + 1)), (2, zi (x : Int)), (3, zi (u : Int)), (4, zi t)], [], m) (fun r m1 => T (D + 1) 263 (76, [(0, zr 74), (1, zi (k : Int)), (2, zi (x : Int)), (3, zi (u : Int)), (4, zi t)], r.toList ++ [], m1) κ))
    (k2 : t < wr (m 74 47) → ¬ (k : Int) = (m 74 4) → (z_and (z_shr (x : Int) (k : Int)) 1) = 1 → T (D + 1) 263 (80, [(0, zr 74), (1, zi (k : Int)), (2, zi (x : Int)), (3, zi (u : Int)), (4, zi t), (5, zi 0)], [], m) κ)
    (k3 : t < wr (m 74 47) → (k : Int) = (m 74 4) → zB (zu m 74 47 t) → T (D + 1) 263 (27, [(0, zr 74), (5, zi 0)], [], (zu m 74 47 t)) κ)
    (k4 : ¬ t < wr (m 74 47) → κ (none) m) :
    T (D + 1) 263 (0, [(0, zr 74), (1, zi (k : Int)), (2, zi (x : Int)), (3, zi (u : Int)), (4, zi t)], [], m) κ := by
  have hb4 : (-2147483648) ≤ wr (m 74 47) ∧ wr (m 74 47) ≤ 2147483647 := wrB (m 74 47)
  have hb5 : 0 ≤ (m 74 4) ∧ (m 74 4) ≤ 6 := hB 74 4
  have hb6 : (-2147483648) ≤ (z_shr (x : Int) (k : Int)) ∧ (z_shr (x : Int) (k : Int)) ≤ 2147483647 := z_shrB (x : Int) (k : Int)
  have hb7 : 0 ≤ (z_and (z_shr (x : Int) (k : Int)) 1) ∧ (z_and (z_shr (x : Int) (k : Int)) 1) ≤ 1 := z_andC (z_shr (x : Int) (k : Int)) 1 (by decide)
  have he0 : wr t = t := wr_id (by omega) (by omega)
  have he1 : wr (k : Int) = (k : Int) := wr_id (by omega) (by omega)
  have he2 : wr (m 74 4) = (m 74 4) := wr_id (by omega) (by omega)
  have he3 : wr (z_and (z_shr (x : Int) (k : Int)) 1) = (z_and (z_shr (x : Int) (k : Int)) 1) := wr_id (by omega) (by omega)
  have key := @zb263_0r T hT D κ m k x u t
  simp only [he0, he1, he2, he3, Int.toNat_natCast] at key
  exact key
    k1
    k2
    (fun x0 x1 => k3 x0 x1 (zB_u hB trivial))
    k4
theorem zb263_27r (hT : zRules T) {D : Nat} {κ : Option zA → zM → Prop} {m : zM} {i : Nat} {lo : zL} (hlo : z_keep [0, 5] lo = [(0, zr 74), (5, zi (i : Int))]) 
    (o1 : ¬ wr (i : Int) < wr (m 74 4) → κ (none) m)
    (o2 : wr (i : Int) < wr (m 74 4) → (0 ≤ wr (i : Int) ∧ wr (i : Int) < 6))
    (o3 : wr (i : Int) < wr (m 74 4) → (0 ≤ wr (i : Int) ∧ wr (i : Int) < 6))
    (o4 : wr (i : Int) < wr (m 74 4) → T (D + 1) 263 (27, [(0, zr 74), (5, zi ((i : Int) + 1))], [], (zu m 96 ((wr (i : Int)).toNat) (m 95 ((wr (i : Int)).toNat)))) κ) :
    T (D + 1) 263 (27, lo, [], m) κ :=
  zkeep hT hlo (hT.1 [(27, [0, 5]), (80, [0, 1, 2, 3, 4, 5])] 6 (D + 1) 263 _ κ (And.intro (fun a1 => (o1 a1)) (fun a2 => (hT.1 [(27, [0, 5]), (80, [0, 1, 2, 3, 4, 5])] 6 (D + 1) 263 (40, [(0, zr 74), (5, zi (i : Int))], [zr 96], m) _ (And.intro (o2 (Classical.byContradiction a2)) (And.intro (And.intro (o3 (Classical.byContradiction a2)) trivial) (hT.1 [(27, [0, 5]), (80, [0, 1, 2, 3, 4, 5])] 6 (D + 1) 263 (50, [(0, zr 74), (5, zi (i : Int))], [], (zu m 96 ((wr (i : Int)).toNat) (m 95 ((wr (i : Int)).toNat)))) _ (o4 (Classical.byContradiction a2)))))))))
theorem zb263_27 (hT : zRules T) {D : Nat} {κ : Option zA → zM → Prop} {m : zM} {i : Nat} {lo : zL} (hlo : z_keep [0, 5] lo = [(0, zr 74), (5, zi (i : Int))])  (hB : zB m) (h_i : i ≤ 6) 
    (k1 : ¬ (i : Int) < (m 74 4) → κ (none) m)
    (k2 : (i : Int) < (m 74 4) → zB (zu m 96 i (m 95 i)) → T (D + 1) 263 (27, [(0, zr 74), (5, zi ((i : Int) + 1))], [], (zu m 96 i (m 95 i))) κ) :
    T (D + 1) 263 (27, lo, [], m) κ := by
  have hb1 : 0 ≤ (m 74 4) ∧ (m 74 4) ≤ 6 := hB 74 4
  have he0 : wr (i : Int) = (i : Int) := wr_id (by omega) (by omega)
  have he1 : wr (m 74 4) = (m 74 4) := wr_id (by omega) (by omega)
  have he2 : (i : Int).toNat = i := by omega
  have key := @zb263_27r T hT D κ m i lo hlo
  simp only [he0, he1, he2, Int.toNat_natCast] at key
  exact key
    k1
    (fun x0 => by refine ⟨?_, ?_⟩ <;> omega)
    (fun x0 => by refine ⟨?_, ?_⟩ <;> omega)
    (fun x0 => k2 x0 (zB_u hB trivial))
theorem zb263_76r (hT : zRules T) {D : Nat} {κ : Option zA → zM → Prop} {m : zM} {lo : zL} (hlo : z_keep [] lo = []) 
    (o1 : κ (none) m) :
    T (D + 1) 263 (76, lo, [], m) κ :=
  zkeep hT hlo (hT.1 [(27, [0, 5]), (80, [0, 1, 2, 3, 4, 5])] 6 (D + 1) 263 _ κ (o1))
theorem zb263_76 (hT : zRules T) {D : Nat} {κ : Option zA → zM → Prop} {m : zM} {lo : zL} (hlo : z_keep [] lo = [])  
    (k1 : κ (none) m) :
    T (D + 1) 263 (76, lo, [], m) κ := by
  exact zb263_76r hT hlo
    k1
theorem zb263_80r (hT : zRules T) {D : Nat} {κ : Option zA → zM → Prop} {m : zM} {k : Nat} {x : Nat} {u : Nat} {t : Int} {c : Nat} {lo : zL} (hlo : z_keep [0, 1, 2, 3, 4, 5] lo = [(0, zr 74), (1, zi (k : Int)), (2, zi (x : Int)), (3, zi (u : Int)), (4, zi t), (5, zi (c : Int))]) 
    (o1 : ¬ wr (c : Int) < wr (m 74 6) → κ (none) m)
    (o2 : wr (c : Int) < wr (m 74 6) → ¬ wr (z_and (z_shr (u : Int) (c : Int)) 1) = 1 → (0 ≤ wr (k : Int) ∧ wr (k : Int) < 6))
    (o3 : wr (c : Int) < wr (m 74 6) → ¬ wr (z_and (z_shr (u : Int) (c : Int)) 1) = 1 → (0 ≤ wr ((8 * (k : Int)) + (c : Int)) ∧ wr ((8 * (k : Int)) + (c : Int)) < 48))
    (o4 : wr (c : Int) < wr (m 74 6) → ¬ wr (z_and (z_shr (u : Int) (c : Int)) 1) = 1 → T D 263 (0, [(0, zr 74), (1, zi ((k : Int) + 1)), (2, zi (x : Int)), (3, zi (z_or (u : Int) (z_shl 1 (c : Int)))), (4, zi (t + (m 94 ((wr ((8 * (k : Int)) + (c : Int))).toNat))))], [], (zu m 95 ((wr (k : Int)).toNat) (c : Int))) (fun r m1 => T (D + 1) 263 (138, [(0, zr 74), (1, zi (k : Int)), (2, zi (x : Int)), (3, zi (u : Int)), (4, zi t), (5, zi (c : Int))], r.toList ++ [], m1) κ))
    (o5 : wr (c : Int) < wr (m 74 6) → wr (z_and (z_shr (u : Int) (c : Int)) 1) = 1 → T (D + 1) 263 (80, [(0, zr 74), (1, zi (k : Int)), (2, zi (x : Int)), (3, zi (u : Int)), (4, zi t), (5, zi ((c : Int) + 1))], [], m) κ) :
    T (D + 1) 263 (80, lo, [], m) κ :=
  zkeep hT hlo (hT.1 [(27, [0, 5]), (80, [0, 1, 2, 3, 4, 5])] 6 (D + 1) 263 _ κ (And.intro (fun a1 => (o1 a1)) (fun a2 => (hT.1 [(27, [0, 5]), (80, [0, 1, 2, 3, 4, 5])] 6 (D + 1) 263 (92, [(0, zr 74), (1, zi (k : Int)), (2, zi (x : Int)), (3, zi (u : Int)), (4, zi t), (5, zi (c : Int))], [zi (c : Int), zi (u : Int)], m) _ (hT.1 [] 6 D 187 _ _ (hT.1 [] 6 D 187 (6, [(0, zi (u : Int)), (1, zi (c : Int))], [zi 1, zi (z_and (z_shr (u : Int) (c : Int)) 1)], m) _ (And.intro (fun a3 => (And.intro (z_b01L rfl) (hT.1 [(27, [0, 5]), (80, [0, 1, 2, 3, 4, 5])] 6 (D + 1) 263 _ _ (And.intro (fun _ => (And.intro (And.intro (o2 (Classical.byContradiction a2) a3) trivial) (hT.1 [(27, [0, 5]), (80, [0, 1, 2, 3, 4, 5])] 6 (D + 1) 263 (109, [(0, zr 74), (1, zi (k : Int)), (2, zi (x : Int)), (3, zi (u : Int)), (4, zi t), (5, zi (c : Int))], [], (zu m 95 ((wr (k : Int)).toNat) (c : Int))) _ (hT.1 [(27, [0, 5]), (80, [0, 1, 2, 3, 4, 5])] 6 (D + 1) 263 (115, [(0, zr 74), (1, zi (k : Int)), (2, zi (x : Int)), (3, zi (u : Int)), (4, zi t), (5, zi (c : Int))], [zi (u : Int), zi (x : Int), zi ((k : Int) + 1), zr 74], (zu m 95 ((wr (k : Int)).toNat) (c : Int))) _ (hT.1 [(27, [0, 5]), (80, [0, 1, 2, 3, 4, 5])] 6 (D + 1) 263 (123, [(0, zr 74), (1, zi (k : Int)), (2, zi (x : Int)), (3, zi (u : Int)), (4, zi t), (5, zi (c : Int))], [zr 74, zi t, zi (z_or (u : Int) (z_shl 1 (c : Int))), zi (x : Int), zi ((k : Int) + 1), zr 74], (zu m 95 ((wr (k : Int)).toNat) (c : Int))) _ (hT.1 [(27, [0, 5]), (80, [0, 1, 2, 3, 4, 5])] 6 (D + 1) 263 (133, [(0, zr 74), (1, zi (k : Int)), (2, zi (x : Int)), (3, zi (u : Int)), (4, zi t), (5, zi (c : Int))], [zi ((8 * (k : Int)) + (c : Int)), zr 94, zi t, zi (z_or (u : Int) (z_shl 1 (c : Int))), zi (x : Int), zi ((k : Int) + 1), zr 74], (zu m 95 ((wr (k : Int)).toNat) (c : Int))) _ (And.intro (o3 (Classical.byContradiction a2) a3) (o4 (Classical.byContradiction a2) a3)))))))) (fun a5 => (a5 (z_litT rfl)).elim))))) (fun a4 => (And.intro (z_b01L rfl) (hT.1 [(27, [0, 5]), (80, [0, 1, 2, 3, 4, 5])] 6 (D + 1) 263 _ _ (And.intro (fun a6 => (z_litF a6 rfl).elim) (fun _ => (o5 (Classical.byContradiction a2) (Classical.byContradiction a4))))))))))))))
theorem zb263_80 (hT : zRules T) {D : Nat} {κ : Option zA → zM → Prop} {m : zM} {k : Nat} {x : Nat} {u : Nat} {t : Int} {c : Nat} {lo : zL} (hlo : z_keep [0, 1, 2, 3, 4, 5] lo = [(0, zr 74), (1, zi (k : Int)), (2, zi (x : Int)), (3, zi (u : Int)), (4, zi t), (5, zi (c : Int))])  (hB : zB m) (h_k : k ≤ 5) (h_x : x ≤ 63) (h_u : u ≤ 255) (h_t : 0 ≤ t ∧ t ≤ 10000) (h_c : c ≤ 8) 
    (k1 : ¬ (c : Int) < (m 74 6) → κ (none) m)
    (k2 : (c : Int) < (m 74 6) → ¬ (z_and (z_shr (u : Int) (c : Int)) 1) = 1 → zB (zu m 95 k (c : Int)) → T D 263 (0, [(0, zr 74), (1, zi ((k : Int) + 1)), (2, zi (x : Int)), (3, zi (z_or (u : Int) (z_shl 1 (c : Int)))), (4, zi (t + (m 94 (8 * k + c))))], [], (zu m 95 k (c : Int))) (fun r m1 => T (D + 1) 263 (138, [(0, zr 74), (1, zi (k : Int)), (2, zi (x : Int)), (3, zi (u : Int)), (4, zi t), (5, zi (c : Int))], r.toList ++ [], m1) κ))
    (k3 : (c : Int) < (m 74 6) → (z_and (z_shr (u : Int) (c : Int)) 1) = 1 → T (D + 1) 263 (80, [(0, zr 74), (1, zi (k : Int)), (2, zi (x : Int)), (3, zi (u : Int)), (4, zi t), (5, zi ((c : Int) + 1))], [], m) κ) :
    T (D + 1) 263 (80, lo, [], m) κ := by
  have hb5 : 0 ≤ (m 74 6) ∧ (m 74 6) ≤ 8 := hB 74 6
  have hb6 : (-2147483648) ≤ (z_shr (u : Int) (c : Int)) ∧ (z_shr (u : Int) (c : Int)) ≤ 2147483647 := z_shrB (u : Int) (c : Int)
  have hb7 : 0 ≤ (z_and (z_shr (u : Int) (c : Int)) 1) ∧ (z_and (z_shr (u : Int) (c : Int)) 1) ≤ 1 := z_andC (z_shr (u : Int) (c : Int)) 1 (by decide)
  have hb8 : (-2147483648) ≤ (z_shl 1 (c : Int)) ∧ (z_shl 1 (c : Int)) ≤ 2147483647 := z_shlB 1 (c : Int)
  have hb9 : (-2147483648) ≤ (z_or (u : Int) (z_shl 1 (c : Int))) ∧ (z_or (u : Int) (z_shl 1 (c : Int))) ≤ 2147483647 := z_orB (u : Int) (z_shl 1 (c : Int))
  have he0 : wr (c : Int) = (c : Int) := wr_id (by omega) (by omega)
  have he1 : wr (m 74 6) = (m 74 6) := wr_id (by omega) (by omega)
  have he2 : wr (z_and (z_shr (u : Int) (c : Int)) 1) = (z_and (z_shr (u : Int) (c : Int)) 1) := wr_id (by omega) (by omega)
  have he3 : wr (k : Int) = (k : Int) := wr_id (by omega) (by omega)
  have he4 : (k : Int).toNat = k := by omega
  have he5 : wr ((8 * (k : Int)) + (c : Int)) = ((8 * (k : Int)) + (c : Int)) := wr_id (by omega) (by omega)
  have he6 : ((8 * (k : Int)) + (c : Int)).toNat = 8 * k + c := by omega
  have key := @zb263_80r T hT D κ m k x u t c lo hlo
  simp only [he0, he1, he2, he3, he4, he5, he6, Int.toNat_natCast] at key
  exact key
    k1
    (fun x0 x1 => by refine ⟨?_, ?_⟩ <;> omega)
    (fun x0 x1 => by refine ⟨?_, ?_⟩ <;> omega)
    (fun x0 x1 => k2 x0 x1 (zB_u hB trivial))
    k3
theorem zb263_138r (hT : zRules T) {D : Nat} {κ : Option zA → zM → Prop} {m : zM} {k : Nat} {x : Nat} {u : Nat} {t : Int} {c : Nat} {lo : zL} (hlo : z_keep [0, 1, 2, 3, 4, 5] lo = [(0, zr 74), (1, zi (k : Int)), (2, zi (x : Int)), (3, zi (u : Int)), (4, zi t), (5, zi (c : Int))]) 
    (o1 : T (D + 1) 263 (80, [(0, zr 74), (1, zi (k : Int)), (2, zi (x : Int)), (3, zi (u : Int)), (4, zi t), (5, zi ((c : Int) + 1))], [], m) κ) :
    T (D + 1) 263 (138, lo, [], m) κ :=
  zkeep hT hlo (hT.1 [(27, [0, 5]), (80, [0, 1, 2, 3, 4, 5])] 6 (D + 1) 263 _ κ (o1))
theorem zb263_138 (hT : zRules T) {D : Nat} {κ : Option zA → zM → Prop} {m : zM} {k : Nat} {x : Nat} {u : Nat} {t : Int} {c : Nat} {lo : zL} (hlo : z_keep [0, 1, 2, 3, 4, 5] lo = [(0, zr 74), (1, zi (k : Int)), (2, zi (x : Int)), (3, zi (u : Int)), (4, zi t), (5, zi (c : Int))])  (hB : zB m) (h_k : k ≤ 5) (h_x : x ≤ 63) (h_u : u ≤ 255) (h_t : 0 ≤ t ∧ t ≤ 10000) (h_c : c ≤ 7) 
    (k1 : T (D + 1) 263 (80, [(0, zr 74), (1, zi (k : Int)), (2, zi (x : Int)), (3, zi (u : Int)), (4, zi t), (5, zi ((c : Int) + 1))], [], m) κ) :
    T (D + 1) 263 (138, lo, [], m) κ := by
  exact zb263_138r hT hlo
    k1
end ZBlocks
end
-- 9b.dress.lean.txt
section
/-! dress(): it ends, and leaves what matters. -/
noncomputable def popc8 (x : Nat) : Nat := (List.range 8).countP (fun i => x.testBit i)
theorem bc_eq : ∀ x : Nat, x < 256 → (z_and (((z_and (((z_and ((x : Int) - (z_and (z_ush (x : Int) 1) 1431655765)) 858993459) + (z_and (z_ush ((x : Int) - (z_and (z_ush (x : Int) 1) 1431655765)) 2) 858993459)) + (z_ush ((z_and ((x : Int) - (z_and (z_ush (x : Int) 1) 1431655765)) 858993459) + (z_and (z_ush ((x : Int) - (z_and (z_ush (x : Int) 1) 1431655765)) 2) 858993459)) 4)) 252645135) + (z_ush (z_and (((z_and ((x : Int) - (z_and (z_ush (x : Int) 1) 1431655765)) 858993459) + (z_and (z_ush ((x : Int) - (z_and (z_ush (x : Int) 1) 1431655765)) 2) 858993459)) + (z_ush ((z_and ((x : Int) - (z_and (z_ush (x : Int) 1) 1431655765)) 858993459) + (z_and (z_ush ((x : Int) - (z_and (z_ush (x : Int) 1) 1431655765)) 2) 858993459)) 4)) 252645135) 8)) + (z_ush ((z_and (((z_and ((x : Int) - (z_and (z_ush (x : Int) 1) 1431655765)) 858993459) + (z_and (z_ush ((x : Int) - (z_and (z_ush (x : Int) 1) 1431655765)) 2) 858993459)) + (z_ush ((z_and ((x : Int) - (z_and (z_ush (x : Int) 1) 1431655765)) 858993459) + (z_and (z_ush ((x : Int) - (z_and (z_ush (x : Int) 1) 1431655765)) 2) 858993459)) 4)) 252645135) + (z_ush (z_and (((z_and ((x : Int) - (z_and (z_ush (x : Int) 1) 1431655765)) 858993459) + (z_and (z_ush ((x : Int) - (z_and (z_ush (x : Int) 1) 1431655765)) 2) 858993459)) + (z_ush ((z_and ((x : Int) - (z_and (z_ush (x : Int) 1) 1431655765)) 858993459) + (z_and (z_ush ((x : Int) - (z_and (z_ush (x : Int) 1) 1431655765)) 2) 858993459)) 4)) 252645135) 8)) 16)) 63) = ((popc8 x : Nat) : Int) := by decide +kernel
theorem popc8_8 : ∀ x : Nat, x < 256 → popc8 x ≤ 8 := by decide +kernel
noncomputable def pcn (x : Nat) : Nat → Nat
  | 0 => 0
  | i + 1 => pcn x i + (if x.testBit i then 1 else 0)
theorem pcn_le : ∀ x : Nat, x < 64 → ∀ i : Nat, i < 7 → pcn x i ≤ popc8 x := by decide +kernel
theorem set_p8 : ∀ f : Nat, f < 8 → ∀ x : Nat, x < 256 → x.testBit f = false → popc8 (x ||| 2 ^ f) = popc8 x + 1 := by decide +kernel
theorem full_p8 : ∀ N : Nat, N < 9 → ∀ x : Nat, x < 256 → (∀ q, q < N → x.testBit q = true) → N ≤ popc8 x := by decide +kernel
theorem bit_no8 {x t : Nat} (hx : x < 256) (ht : t ≤ 8) (q : z_and (z_shr (x : Int) (t : Int)) 1 = 0) : x.testBit t = false := by
  rw [z_bit (by omega) (by omega)] at q
  cases hb : x.testBit t with
  | false => rfl
  | true =>
    rw [hb, if_pos rfl] at q
    cases q
theorem bit_yes8 {x t : Nat} (hx : x < 256) (ht : t ≤ 8) (q : ¬ z_and (z_shr (x : Int) (t : Int)) 1 = 0) : x.testBit t = true := by
  rw [z_bit (by omega) (by omega)] at q
  cases hb : x.testBit t with
  | true => rfl
  | false =>
    rw [hb, if_neg (by simp)] at q
    exact absurd rfl q
theorem orB8 {x f : Nat} (hx : x < 256) (hf : f < 8) : z_or (x : Int) (z_shl 1 (f : Int)) = ((x ||| 2 ^ f : Nat) : Int) ∧ x ||| 2 ^ f < 256 := by
  have p : 2 ^ f ≤ 2 ^ 7 := Nat.pow_le_pow_right (by omega) (by omega)
  refine ⟨?_, Nat.or_lt_two_pow (n := 8) hx (by omega)⟩
  rw [z_shl1T f (by omega), z_orN (by omega) (by omega)]
section ZDress
variable {T : Nat → Nat → zG → (Option zA → zM → Prop) → Prop} {B : Int}
theorem z_bitCount (hT : zRules T) {D : Nat} {κ : Option zA → zM → Prop} {m : zM} {x : Nat} (hx : x < 256) (h : κ (some (zi ((popc8 x : Nat) : Int))) m) : T (D + 1) 293 (0, [(0, zi (x : Int))], [], m) κ := by
  refine zb293_0 hT (by omega) ?_
  rw [bc_eq x hx]
  exact h
theorem z_costWith0 (hT : zRules T) {D : Nat} {κ : Option zA → zM → Prop} {m : zM} {x : Nat} {f : Int} (hB : zB m) (hx : x ≤ 255) (hf : -1 ≤ f ∧ f ≤ 7) (hk : ∀ v : Int, isI v → κ (some (zi v)) m) : T (D + 4) 89 (0, [(0, zr 52), (1, zr 17), (2, zi (x : Int)), (3, zi f)], [], m) κ := by
  have p8 := popc8_8 x (by omega)
  refine zb89_0 hT hB hx hf ?_
  refine z_bitCount (D := D + 2) hT (by omega) ?_
  refine zb89_4 hT rfl hB hx hf (by omega) (fun _ => hk 0 (by unfold isI; omega)) (fun _ _ => hk 0 (by unfold isI; omega)) (fun q _ _ => ?_) (fun _ _ _ => hk 0 (by unfold isI; omega))
  obtain ⟨g, rfl⟩ : ∃ g : Nat, f = (g : Int) := ⟨f.toNat, by omega⟩
  have b53 : 0 ≤ m 53 (((popc8 x : Nat) : Int).toNat) ∧ m 53 (((popc8 x : Nat) : Int).toNat) ≤ 99 := hB 53 _
  refine z_costC (D := D) hT hB (by omega) b53 (fun v hv => ?_)
  obtain ⟨e1, e2⟩ := orB8 (x := x) (f := g) (by omega) (by omega)
  exact zb89_37 hT rfl hB hx (by omega) hv (by rw [e1]; omega) (hk _ (wrB _))
theorem z_firstCh0 (hT : zRules T) {D : Nat} {κ : Option zA → zM → Prop} {m : zM} {x N : Nat} (hB : zB m) (hN : m 17 1 = (N : Int)) (hx : x ≤ 255)
    (hk : ∀ f : Int, ((f = -1 ∧ ∀ q, q < N → x.testBit q = true) ∨ ∃ g : Nat, f = (g : Int) ∧ g < N ∧ x.testBit g = false) → κ (some (zi f)) m) : T (D + 5) 90 (0, [(0, zr 52), (1, zr 17), (2, zi (x : Int))], [], m) κ := by
  have b64 : 0 ≤ m 17 1 ∧ m 17 1 ≤ 8 := hB 17 1
  have key : ∀ (j t : Nat) (f b : Int), t + j = N → isI b → ((f = -1 ∧ ∀ q, q < t → x.testBit q = true) ∨ ∃ g : Nat, f = (g : Int) ∧ g < N ∧ x.testBit g = false) → T (D + 5) 90 (8, [(0, zr 52), (1, zr 17), (2, zi (x : Int)), (3, zi f), (4, zi b), (5, zi (t : Int))], [], m) κ := by
    intro j
    induction j with
    | zero =>
      intro t f b ht hb hf
      have et : t = N := by omega
      subst et
      have f6 : -1 ≤ f ∧ f ≤ 7 := by
        rcases hf with ⟨h0, _⟩ | ⟨g, h0, h1, _⟩
        · omega
        · omega
      exact zb90_8 hT rfl hB hx f6 hb (by omega) (fun _ => hk f hf) (fun q => by omega) (fun q => by omega)
    | succ j ih =>
      intro t f b ht hb hf
      have f6 : -1 ≤ f ∧ f ≤ 7 := by
        rcases hf with ⟨h0, _⟩ | ⟨g, h0, h1, _⟩
        · omega
        · omega
      refine zb90_8 hT rfl hB hx f6 hb (by omega) (fun q => by omega) (fun _ q => ?_) (fun _ q => ?_)
      · refine ih (t + 1) f b (by omega) hb ?_
        rcases hf with ⟨h0, h1⟩ | h0
        · refine Or.inl ⟨h0, fun r hr => ?_⟩
          by_cases e : r = t
          · rw [e]
            exact bit_yes8 (by omega) (by omega) q
          · exact h1 r (by omega)
        · exact Or.inr h0
      · refine z_costWith0 hT hB hx (by omega) (fun v hv => ?_)
        have nx : ∀ b2 : Int, isI b2 → T (D + 5) 90 (8, [(0, zr 52), (1, zr 17), (2, zi (x : Int)), (3, zi (t : Int)), (4, zi b2), (5, zi ((t : Int) + 1))], [], m) κ := fun b2 hb2 => ih (t + 1) (t : Int) b2 (by omega) hb2 (Or.inr ⟨t, rfl, by omega, bit_no8 (by omega) (by omega) q⟩)
        refine zb90_34 hT rfl hB hx f6 hb (by omega) hv (fun _ => nx v hv) (fun q2 _ => ?_) (fun _ _ => nx v hv)
        refine ih (t + 1) f b (by omega) hb ?_
        rcases hf with ⟨h0, _⟩ | h0
        · exact absurd h0 q2
        · exact Or.inr h0
  exact zb90_0 hT hB hx (key N 0 (-1) 0 (by omega) (by unfold isI; omega) (Or.inl ⟨rfl, fun q hq => by omega⟩))
theorem z_dressCh0 (hT : zRules T) {D : Nat} {κ : Option zA → zM → Prop} {m : zM} {N cnt : Nat} (hB : zB m) (hN : m 17 1 = (N : Int)) (hcnt : m 52 1 = (cnt : Int)) (hle : cnt ≤ N) (hk : ∀ v M, isI v → zB M → zFr (inL [(57, none), (58, none)]) m M → κ (some (zi v)) M) : T (D + 6) 88 (0, [(0, zr 52), (1, zr 17)], [], m) κ := by
  have b64 : 0 ≤ m 17 1 ∧ m 17 1 ≤ 8 := hB 17 1
  have p7 : 2 ^ N ≤ 2 ^ 8 := Nat.pow_le_pow_right (by omega) (by omega)
  have p1 : 1 ≤ 2 ^ N := Nat.one_le_two_pow
  have second : ∀ (j t x : Nat) (M : zM), t + j = cnt → x < 256 → popc8 x = t → zB M → zFr (inL [(57, none), (58, none)]) m M → T (D + 6) 88 (62, [(0, zr 52), (1, zr 17), (3, zi (x : Int)), (4, zi (t : Int))], [], M) κ := by
    intro j
    induction j with
    | zero =>
      intro t x M ht hx hp hBM hF
      have e64 : M 52 1 = (cnt : Int) := (hF 52 1 rfl).trans hcnt
      exact zb88_62 hT rfl hBM (by omega) (by omega) (fun _ => hk _ M (wrB _) hBM hF) (fun q => by omega)
    | succ j ih =>
      intro t x M ht hx hp hBM hF
      have e64 : M 52 1 = (cnt : Int) := (hF 52 1 rfl).trans hcnt
      refine zb88_62 hT rfl hBM (by omega) (by omega) (fun q => by omega) (fun _ => ?_)
      refine z_firstCh0 (D := D) (N := N) hT hBM ((hF 17 1 rfl).trans hN) (by omega) (fun f hf => ?_)
      have hg : ∃ g : Nat, f = (g : Int) ∧ g < N ∧ x.testBit g = false := by
        rcases hf with ⟨_, h1⟩ | h0
        · have := full_p8 N (by omega) x hx h1
          omega
        · exact h0
      obtain ⟨g, rfl, g7, gb⟩ := hg
      refine zb88_93 hT rfl hBM (by omega) (by omega) (by omega) (fun hz => ?_)
      obtain ⟨e1, e2⟩ := orB8 (x := x) (f := g) (by omega) (by omega)
      rw [e1]
      exact ih (t + 1) _ _ (by omega) e2 (by rw [set_p8 g (by omega) x hx gb, hp]) hz (hF.set rfl)
  have first : ∀ (j : Nat) (M : zM), j ≤ 2 ^ N → zB M → zFr (inL [(57, none), (58, none)]) m M → T (D + 6) 88 (11, [(0, zr 52), (1, zr 17), (3, zi ((j : Int) - 1))], [], M) κ := by
    intro j
    induction j with
    | zero =>
      intro M hj hBM hF
      exact zb88_11 hT rfl hBM (by omega) (fun _ => second cnt 0 0 M (by omega) (by omega) (by decide) hBM hF) (fun q => by omega)
    | succ j ih =>
      intro M hj hBM hF
      have hj8 : j < 256 := by omega
      rw [show ((j + 1 : Nat) : Int) - 1 = (j : Int) by omega]
      refine zb88_11 hT rfl hBM (by omega) (fun q => by omega) (fun _ hz => ?_)
      refine z_bitCount (D := D + 4) hT hj8 ?_
      have p8 := popc8_8 j hj8
      have hF1 : zFr (inL [(57, none), (58, none)]) m (zu M 57 ((j : Int).toNat) 0) := hF.set rfl
      generalize zu M 57 ((j : Int).toNat) 0 = M1 at hz hF1 ⊢
      refine zb88_26 hT rfl hz (by omega) (by omega) (fun _ => ih M1 (by omega) hz hF1) (fun _ => ?_)
      refine z_firstCh0 (D := D) (N := N) hT hz ((hF1 17 1 rfl).trans hN) (by omega) (fun f hf => ?_)
      have f6 : -1 ≤ f ∧ f ≤ 7 := by
        rcases hf with ⟨h0, _⟩ | ⟨g, h0, h1, _⟩
        · omega
        · omega
      refine zb88_47 hT rfl hz (by omega) f6 ?_
      refine z_costWith0 (D := D + 1) hT hz (by omega) f6 (fun v hv => ?_)
      refine zb88_50 hT rfl hz (by omega) hv (fun hz2 => ?_)
      exact ih _ (by omega) hz2 (hF1.set rfl)
  refine zb88_0 hT hB ?_
  rw [hN, z_shl1T N (by omega)]
  exact first (2 ^ N) m (Nat.le_refl _) hB zFr.refl
theorem z_costR94 (hT : zRules T) {D : Nat} {κ : Option zA → zM → Prop} {m M : zM} {sc : zSc} {n k c p : Nat} (hI : Inv B sc n k m) (hBM : zB M) (hA : Agree coreK m M) (hc : c < k) (hp : p < n)
    (hk : ∀ v M1, (0 ≤ v ∧ v ≤ 1000) → zB M1 → Agree coreK m M1 → (∀ j, M1 94 j = M 94 j) → κ (some (zi v)) M1) : T (D + 172) 261 (0, [(0, zr 74), (1, zi (c : Int)), (2, zi (p : Int))], [], M) κ := by
  have i1 := hI.1
  have h4 := hI.2.2.2.1
  have b17 : 0 ≤ m 17 0 ∧ m 17 0 ≤ 6 := i1 17 0
  have b171 : 0 ≤ m 17 1 ∧ m 17 1 ≤ 8 := i1 17 1
  have n1 := h4.1.1
  have k1 := h4.2.1.1
  have bpl := (h4.2.2.2.2.1 p hp).1
  obtain ⟨pl, hpl⟩ : ∃ pl : Nat, m 75 p = (pl : Int) := ⟨(m 75 p).toNat, by omega⟩
  refine zb261_0 (D := D + 168) hT hBM (by omega) (by omega) ?_
  refine z_lay_75_91 (k := 0) (D := D + 170) hT (by omega) ?_
  have hA2 : Agree coreK m (z_cp M 75 91 0 0 59) := hA.trans (.of (L := [(91, none)]) (zFr.refl.cp (fun _ => rfl)) rfl)
  have hB2 : zB (z_cp M 75 91 0 0 59) := zB_cpB hBM rfl
  have x91 : ∀ j, j < 59 → (z_cp M 75 91 0 0 59) 91 j = m 75 j := fun j hj => by
    rw [z_cp_in (by omega), show 0 + (j - 0) = j by omega]
    exact hA 75 j rfl
  refine zb261_12 (D := D + 168) hT rfl hB2 (by omega) (by omega) (fun hz => ?_)
  have hA3 : Agree coreK m (zu (zu (zu (z_cp M 75 91 0 0 59) 74 31 0) 74 32 0) 74 33 0) := hA2.trans (.of (L := [(74, some 31), (74, some 32), (74, some 33)]) (((zFr.refl.set rfl).set rfl).set rfl) rfl)
  have y91 : ∀ j, j < 59 → (zu (zu (zu (z_cp M 75 91 0 0 59) 74 31 0) 74 32 0) 74 33 0) 91 j = m 75 j := fun j hj => by
    rw [zu_dn (by omega), zu_dn (by omega), zu_dn (by omega), x91 j hj]
  have z94 : ∀ j, (zu (zu (zu (z_cp M 75 91 0 0 59) 74 31 0) 74 32 0) 74 33 0) 94 j = M 94 j := fun j => by
    rw [zu_dn (by omega), zu_dn (by omega), zu_dn (by omega), z_cp_dn (by omega)]
  have hR : RelR 91 (zu (zu (zu (z_cp M 75 91 0 0 59) 74 31 0) 74 32 0) 74 33 0) ((zu (zu (zu (z_cp M 75 91 0 0 59) 74 31 0) 74 32 0) 74 33 0) 91, 0, 0, 0) :=
    ⟨rfl, by simp (disch := omega) only [zu_off, zu_sm], by simp (disch := omega) only [zu_off, zu_sm], by simp (disch := omega) only [zu_sm]⟩
  generalize (zu (zu (zu (z_cp M 75 91 0 0 59) 74 31 0) 74 32 0) 74 33 0) = M3 at hz hA3 y91 z94 hR ⊢
  refine z_lawInF (d := 0) (pl := pl) hT hI hz (hA3.sub (fun q hq => List.mem_append.mpr (Or.inr (List.mem_append.mpr (Or.inl hq))))) (funext fun j => hA3 78 j rfl) (hA3 75 57 rfl) hp ((hA3 75 p rfl).trans hpl) (by omega) (fun M4 hB4 hF4 => ?_)
  refine zb261_28 (D := D + 168) hT rfl hB4 (by omega) laFB ?_
  have hA4 : Agree coreK m M4 := hA3.trans (.of hF4 rfl)
  have hR4 : RelR 91 M4 (M3 91, 0, 0, 0) := ⟨funext fun j => hF4 91 j rfl, (hF4 74 31 rfl).trans hR.2.1, (hF4 74 32 rfl).trans hR.2.2.1, (hF4 74 33 rfl).trans hR.2.2.2⟩
  refine z_makes_91 (D := D + 169) hT hB4 (by omega) laFB hR4 (fun M5 hB5 hF5 hR5 => ?_)
  have b12 : -1 ≤ m 75 (c + 12) ∧ m 75 (c + 12) ≤ 99 := zSg i1 75 12 20 (-1) 99 rfl (c + 12) (by omega) (by omega)
  have b20 : -1 ≤ m 75 (c + 20) ∧ m 75 (c + 20) ≤ 9 := zSg i1 75 20 28 (-1) 9 rfl (c + 20) (by omega) (by omega)
  have hc2 := mkA_cost (h := M4 79 0) (v := laF m p pl 0) (g := M3 91) (c := c) (by rw [y91 (c + 12) (by omega)]; omega) (by rw [y91 (c + 20) (by omega)]; omega) laFB
  refine zb261_31 (D := D + 168) hT rfl hB5 ?_
  have hA5 : Agree coreK m M5 := hA4.trans (.of (hF5.sub mkL91) rfl)
  have p1 : 0 ≤ M5 79 1 ∧ M5 79 1 ≤ 9 := hB5 79 1
  have p2 : 0 ≤ M5 79 2 ∧ M5 79 2 ≤ 9 := hB5 79 2
  rw [Int.mul_comm (M5 79 1), Int.mul_comm (M5 79 2), hR5.2.1, hR5.2.2.1]
  exact hk _ M5 (cost_wr hc2.1 hc2.2 p1 p2) hB5 hA5 (fun j => by rw [(hF5.sub mkL91) 94 j rfl, hF4 94 j rfl, z94 j])
noncomputable def gdL : zLs := [(74, some 47), (95, none), (96, none)]
theorem z_goDress0 (hT : zRules T) {N K x : Nat} (hN6 : N ≤ 6) (hK8 : K ≤ 8) (hx : x ≤ 63) : ∀ (j : Nat) (D : Nat) (κ : Option zA → zM → Prop) (m : zM) (k u : Nat) (t : Int), zB m → m 74 4 = (N : Int) → m 74 6 = (K : Int) → (∀ p c, p < N → c < K → 0 ≤ m 94 (8 * p + c) ∧ m 94 (8 * p + c) ≤ 1000) → k + j = N → u < 256 → (0 ≤ t ∧ t ≤ 1000 * k) → (∀ M, zB M → zFr (inL gdL) m M → κ none M) →
    T (D + j + 1) 263 (0, [(0, zr 74), (1, zi (k : Int)), (2, zi (x : Int)), (3, zi (u : Int)), (4, zi t)], [], m) κ := by
  intro j
  induction j with
  | zero =>
    intro D κ m k u t hB hN hK h94 hkj hu ht hk
    refine zb263_0 (D := D) hT hB (by omega) hx (by omega) (by omega) (fun _ q => by omega) (fun _ q => by omega) (fun _ _ hz => ?_) (fun _ => hk m hB zFr.refl)
    have key : ∀ (i c : Nat) (M : zM), c + i = N → zB M → zFr (inL gdL) m M → T (D + 1) 263 (27, [(0, zr 74), (5, zi (c : Int))], [], M) κ := by
      intro i
      induction i with
      | zero =>
        intro c M hc hBM hF
        have e54 : M 74 4 = (N : Int) := (hF 74 4 rfl).trans hN
        exact zb263_27 (D := D) hT rfl hBM (by omega) (fun _ => hk M hBM hF) (fun q => by omega)
      | succ i ih =>
        intro c M hc hBM hF
        have e54 : M 74 4 = (N : Int) := (hF 74 4 rfl).trans hN
        exact zb263_27 (D := D) hT rfl hBM (by omega) (fun q => by omega) (fun _ hz2 => ih (c + 1) _ (by omega) hz2 (hF.set rfl))
    exact key N 0 _ (by omega) hz (zFr.refl.set rfl)
  | succ j ih =>
    intro D κ m k u t hB hN hK h94 hkj hu ht hk
    have loop : ∀ (i c : Nat) (M : zM), c + i = K → zB M → zFr (inL gdL) m M → T (D + (j + 1) + 1) 263 (80, [(0, zr 74), (1, zi (k : Int)), (2, zi (x : Int)), (3, zi (u : Int)), (4, zi t), (5, zi (c : Int))], [], M) κ := by
      intro i
      induction i with
      | zero =>
        intro c M hc hBM hF
        have e6 : M 74 6 = (K : Int) := (hF 74 6 rfl).trans hK
        exact zb263_80 (D := D + j + 1) hT rfl hBM (by omega) hx (by omega) (by omega) (by omega) (fun _ => hk M hBM hF) (fun q => by omega) (fun q => by omega)
      | succ i ih2 =>
        intro c M hc hBM hF
        have e6 : M 74 6 = (K : Int) := (hF 74 6 rfl).trans hK
        have h9 : 0 ≤ M 94 (8 * k + c) ∧ M 94 (8 * k + c) ≤ 1000 := by
          rw [hF 94 (8 * k + c) rfl]
          exact h94 k c (by omega) (by omega)
        refine zb263_80 (D := D + j + 1) hT rfl hBM (by omega) hx (by omega) (by omega) (by omega) (fun q => by omega) (fun _ _ hz => ?_) (fun _ _ => ih2 (c + 1) M (by omega) hBM hF)
        obtain ⟨e1, e2⟩ := orB8 (x := u) (f := c) hu (by omega)
        rw [e1]
        have hF1 : zFr (inL gdL) m (zu M 95 k (c : Int)) := hF.set rfl
        refine ih D _ _ (k + 1) (u ||| 2 ^ c) _ hz ((hF1 74 4 rfl).trans hN) ((hF1 74 6 rfl).trans hK) (fun p c hp hc => by rw [hF1 94 (8 * p + c) rfl]; exact h94 p c hp hc) (by omega) e2 (by omega) (fun M2 hB2 hF2 => ?_)
        exact zb263_138 (D := D + j + 1) hT rfl hB2 (by omega) hx (by omega) (by omega) (by omega) (ih2 (c + 1) M2 (by omega) hB2 (hF1.trans hF2))
    refine zb263_0 (D := D + j + 1) hT hB (by omega) hx (by omega) (by omega) (fun _ _ _ => ?_) (fun _ _ _ => loop K 0 m (by omega) hB zFr.refl) (fun _ q => by omega) (fun _ => hk m hB zFr.refl)
    exact ih D _ m (k + 1) u t hB hN hK h94 (by omega) hu (by omega) (fun M hBM hF => zb263_76 (D := D + j + 1) hT rfl (hk M hBM hF))
theorem w_dress0 (hT : zRules T) {v : Int} (hv : isI v) : Way T 144 264 [(0, zr 1), (1, zi v)] [(0, zr 74), (1, zi v)] 7 173 B B False := by
  rintro D m sc ⟨n, k, hI⟩ κ hκ
  have hI0 := hI
  obtain ⟨i1, i2, i3, i4, i5, i6, i7, i8, i9, i10, i11⟩ := hI
  obtain ⟨⟨n1, n2⟩, ⟨k1, k2⟩, hh, hRel, hok⟩ := i4
  have b17 : 0 ≤ m 17 0 ∧ m 17 0 ≤ 6 := i1 17 0
  have b171 : 0 ≤ m 17 1 ∧ m 17 1 ≤ 8 := i1 17 1
  have p6 : 2 ^ n ≤ 2 ^ 6 := Nat.pow_le_pow_right (by omega) (by omega)
  have p1 : 1 ≤ 2 ^ n := Nat.one_le_two_pow
  have ref : ∀ (r : Option zA) (M0 : zM), zB M0 → Agree coreK m M0 → κ r M0 := by
    intro r M0 hB0 hA0
    refine hκ _ _ (fun D2 κ2 h2 => ?_)
    have t12 : Agree coreK m (zu M0 74 12 0) := hA0.trans (.of (L := [(74, some 12)]) (zFr.refl.set rfl) rfl)
    have fin : ∀ r2 M1, zB M1 → Agree coreK m M1 → κ2 r2 M1 := fun r2 M1 hB1 hA1 => h2 _ _ (fun x => x.elim) ⟨n, k, Inv_fr hA1 hB1 hI0⟩
    refine zb264_0 (D := D2 + 167) hT hB0 hv (fun _ hz => fin _ _ hz t12) (fun _ _ hz => fin _ _ hz t12) (fun q1 q2 hz => ?_)
    obtain ⟨x, rfl⟩ : ∃ x : Nat, v = (x : Int) := ⟨v.toNat, by omega⟩
    have hx63 : x ≤ 63 := by
      rw [hA0 74 4 rfl, n2, z_shl1T n (by omega)] at q2
      generalize 2 ^ n = P at p6 p1 q2
      rw [wr_id (by omega) (by omega)] at q2
      omega
    have fin107 : ∀ (i p e : Nat) (M : zM), p + i = n → e ≤ p → zB M → M 74 11 = (e : Int) → Agree coreK m M → T (D2 + 173) 264 (107, [(0, zr 74), (1, zi (x : Int)), (2, zi (p : Int))], [], M) κ2 := by
      intro i
      induction i with
      | zero =>
        intro p e M hp he hBM h11 hA
        have e4 : M 74 4 = (n : Int) := (hA 74 4 rfl).trans n2
        exact zb264_107 (D := D2 + 167) hT rfl hBM hx63 (by omega) (fun _ => fin _ _ hBM hA) (fun q => by omega) (fun q => by omega) (fun q => by omega)
      | succ i ih =>
        intro p e M hp he hBM h11 hA
        have e4 : M 74 4 = (n : Int) := (hA 74 4 rfl).trans n2
        refine zb264_107 (D := D2 + 167) hT rfl hBM hx63 (by omega) (fun q => by omega) (fun _ _ => ih (p + 1) e M (by omega) (by omega) hBM h11 hA) (fun _ _ => by omega) (fun _ _ => ?_)
        refine ih (p + 1) (e + 1) _ (by omega) (by omega) (zB_u (zB_u hBM trivial) ?_) (by rw [zu_sm rfl, h11]; omega) (hA.trans (.of (L := [(74, some 11), (81, none)]) ((zFr.refl.set rfl).set rfl) rfl))
        show 0 ≤ M 74 11 + 1 ∧ M 74 11 + 1 ≤ 32
        omega
    have h25 : ∀ (i p : Nat) (M : zM), p + i = n → zB M → Agree coreK m M → (∀ a c, a < p → c < k → 0 ≤ M 94 (8 * a + c) ∧ M 94 (8 * a + c) ≤ 1000) → T (D2 + 173) 264 (25, [(0, zr 74), (1, zi (x : Int)), (2, zi (p : Int))], [], M) κ2 := by
      intro i
      induction i with
      | zero =>
        intro p M hp hBM hA h94
        have ep : p = n := by omega
        subst ep
        have e4 : M 74 4 = (p : Int) := (hA 74 4 rfl).trans n2
        have e6 : M 74 6 = (k : Int) := (hA 74 6 rfl).trans k2
        refine zb264_25 (D := D2 + 167) hT rfl hBM hx63 (by omega) (fun _ hz2 => ?_) (fun q => by omega)
        have hA2 : Agree coreK m (zu M 74 47 100000000) := hA.trans (.of (L := [(74, some 47)]) (zFr.refl.set rfl) rfl)
        have hgo := z_goDress0 (N := p) (K := k) (x := x) hT (by omega) (by omega) hx63 p (D2 + 171 - p) (fun r m1 => T (D2 + 173) 264 (87, [(0, zr 74), (1, zi (x : Int)), (2, zi (p : Int))], r.toList ++ [], m1) κ2) _ 0 0 0 hz2 ((hA2 74 4 rfl).trans n2) ((hA2 74 6 rfl).trans k2) (fun a c ha hc => by rw [zu_dn (by omega)]; exact h94 a c ha hc) (by omega) (by omega) (by omega)
        rw [show D2 + 171 - p + p + 1 = D2 + 172 by omega] at hgo
        refine hgo (fun M3 hB3 hF3 => ?_)
        have hA3 : Agree coreK m M3 := hA2.trans (.of hF3 rfl)
        refine zb264_87 (D := D2 + 167) hT rfl hB3 hx63 (fun _ hz4 => ?_) (fun _ => fin _ _ hB3 hA3)
        exact fin107 p 0 0 _ (by omega) (by omega) hz4 (by rw [zu_sm rfl]; rfl) (hA3.trans (.of (L := [(74, some 11)]) (zFr.refl.set rfl) rfl))
      | succ i ih =>
        intro p M hp hBM hA h94
        have e4 : M 74 4 = (n : Int) := (hA 74 4 rfl).trans n2
        refine zb264_25 (D := D2 + 167) hT rfl hBM hx63 (by omega) (fun q => by omega) (fun _ => ?_)
        have h35 : ∀ (i2 c : Nat) (M : zM), c + i2 = k → zB M → Agree coreK m M → (∀ a b, a < p → b < k → 0 ≤ M 94 (8 * a + b) ∧ M 94 (8 * a + b) ≤ 1000) → (∀ b, b < c → 0 ≤ M 94 (8 * p + b) ∧ M 94 (8 * p + b) ≤ 1000) → T (D2 + 173) 264 (35, [(0, zr 74), (1, zi (x : Int)), (2, zi (p : Int)), (3, zi (c : Int))], [], M) κ2 := by
          intro i2
          induction i2 with
          | zero =>
            intro c M hc hBM hA h94 h94c
            have e6 : M 74 6 = (k : Int) := (hA 74 6 rfl).trans k2
            refine zb264_35 (D := D2 + 167) hT rfl hBM hx63 (by omega) (by omega) (fun _ => ?_) (fun q => by omega)
            refine ih (p + 1) M (by omega) hBM hA (fun a b ha hb => ?_)
            by_cases e : a = p
            · rw [e]
              exact h94c b (by omega)
            · exact h94 a b (by omega) hb
          | succ i2 ih2 =>
            intro c M hc hBM hA h94 h94c
            have e6 : M 74 6 = (k : Int) := (hA 74 6 rfl).trans k2
            refine zb264_35 (D := D2 + 167) hT rfl hBM hx63 (by omega) (by omega) (fun q => by omega) (fun _ => ?_)
            refine z_costR94 hT hI0 hBM hA (by omega) (by omega) (fun w M1 hw hB1 hA1 h1 => ?_)
            rw [show (8 * (p : Int)) + (c : Int) = ((8 * p + c : Nat) : Int) by omega]
            refine zb264_59 (D := D2 + 167) hT rfl hB1 hx63 (by omega) (by omega) hw (by omega) (fun hz3 => ?_)
            refine ih2 (c + 1) _ (by omega) hz3 (hA1.trans (.of (L := [(94, none)]) (zFr.refl.set rfl) rfl)) (fun a b ha hb => ?_) (fun b hb => ?_)
            · rw [zu_off (by omega), h1]
              exact h94 a b ha hb
            · by_cases e : b = c
              · rw [e, zu_sm rfl]
                exact hw
              · rw [zu_off (by omega), h1]
                exact h94c b (by omega)
        exact h35 k 0 M (by omega) hBM hA h94 (fun b hb => by omega)
    exact h25 n 0 _ (by omega) hz t12 (fun a c ha => by omega)
  refine zb144_0 hT i1 hv (fun _ => ref _ _ i1 (fun _ _ _ => rfl)) (fun q1 q2 => ?_) (fun _ _ => ref _ _ i1 (fun _ _ _ => rfl))
  obtain ⟨x, rfl⟩ : ∃ x : Nat, v = (x : Int) := ⟨v.toNat, by omega⟩
  have hx : x < 2 ^ n := by
    have e1 : z_shr (x : Int) (n : Int) = ((x / 2 ^ n : Nat) : Int) := by
      have hi := hv.2
      rw [z_shrE _ (by omega), wr_id (by omega) (by omega)]
      exact (Int.natCast_ediv x (2 ^ n)).symm.trans (by rw [Int.natCast_ediv])
    rw [n1, e1] at q2
    rcases Nat.lt_or_ge x (2 ^ n) with h | h
    · exact h
    · have := Nat.div_pos h (by omega)
      omega
  have hx63 : x ≤ 63 := by omega
  refine z_bitCount (D := D + 5) hT (by omega) ?_
  have p8 := popc8_8 x (by omega)
  refine zb144_22 hT rfl i1 hx63 (by omega) (fun q3 hz => ?_) (fun _ => ref _ _ i1 (fun _ _ _ => rfl))
  have loop : ∀ (j t : Nat) (M : zM), t + j = n → zB M → zFr (inL [(13, none), (52, some 1), (53, none)]) m M → M 52 1 = (pcn x t : Int) → T (D + 7) 144 (44, [(0, zr 1), (1, zi (x : Int)), (2, zi (t : Int))], [], M) κ := by
    intro j
    induction j with
    | zero =>
      intro t M ht hBM hF hc
      have et : t = n := by omega
      subst et
      have e17 : M 17 0 = (t : Int) := (hF 17 0 rfl).trans n1
      have hpc := pcn_le x (by omega) t (by omega)
      refine zb144_44 hT rfl hBM hx63 (by omega) (fun _ => ?_) (fun q => by omega) (fun q => by omega)
      refine z_dressCh0 (N := k) (cnt := pcn x t) hT hBM ((hF 17 1 rfl).trans k1) hc (by omega) (fun r M2 hr hB2 hF2 => ?_)
      have hFa : zFr (inL [(13, none), (52, some 1), (53, none), (57, none), (58, none)]) m M2 := (hF.sub (inL_sub (by decide))).trans (hF2.sub (inL_sub (by decide)))
      have hA : Agree coreK m M2 := .of hFa rfl
      refine zb144_93 hT rfl hB2 hr ?_
      rw [hF2 52 1 rfl, hc]
      refine zb48_0_58 (D := D + 4) hT hB2 (by omega) (fun _ hz => ?_) (fun _ hz => ?_)
      · exact zb144_115 hT rfl hr (ref _ _ hz (hA.trans (.of (L := [(72, some 1), (73, none)]) ((zFr.refl.set rfl).cp (fun _ => rfl)) rfl)))
      · exact zb144_115 hT rfl hr (ref _ _ hz (hA.trans (.of (L := [(72, some 1), (73, none)]) ((zFr.refl.set rfl).cp (fun _ => rfl)) rfl)))
    | succ j ih =>
      intro t M ht hBM hF hc
      have e17 : M 17 0 = (n : Int) := (hF 17 0 rfl).trans n1
      have hpc := pcn_le x (by omega) t (by omega)
      have hbit := z_bit (n := x) (i := t) (by omega) (by omega)
      refine zb144_44 hT rfl hBM hx63 (by omega) (fun q => by omega) (fun _ q => ?_) (fun _ q => ?_)
      · refine ih (t + 1) M (by omega) hBM hF ?_
        rw [hc, pcn]
        rw [hbit] at q
        cases hb : x.testBit t with
        | false => rfl
        | true =>
          rw [hb, if_pos rfl] at q
          exact absurd rfl q
      · have hbt : x.testBit t = true := by
          rw [hbit] at q
          cases hb : x.testBit t with
          | true => rfl
          | false =>
            rw [hb, if_neg (by simp)] at q
            cases q
        obtain ⟨r1, r2⟩ := hRel.1 t (by omega)
        have h18 := (hh t (by omega)).2
        have bpl := (hok.1 t (by omega)).1
        obtain ⟨pl, hpl⟩ : ∃ pl : Nat, m 75 t = (pl : Int) := ⟨(m 75 t).toNat, by omega⟩
        have hA : Agree KL m M := .of hF rfl
        refine z_lawNow (D := D + 2) (pl := pl) hT hBM (by omega) (by rw [hF 18 t rfl]; omega) (by rw [hF 19 t rfl]; omega) (by omega) (hA.law.1 i3).1 (fun M1 hB1 hF1 => ?_)
        have hF1b := hF1.sub rowL13
        have hFa : zFr (inL [(13, none), (52, some 1), (53, none)]) m M1 := hF.trans (hF1b.sub (inL_sub (by decide)))
        have e52 : M1 52 1 = (pcn x t : Int) := (hF1b 52 1 rfl).trans hc
        refine zb144_73 hT rfl hB1 hx63 (by omega) LWB (fun q => by omega) (fun _ hz2 => ?_)
        refine ih (t + 1) _ (by omega) hz2 ((hFa.set rfl).set rfl) ?_
        rw [zu_sm rfl, e52, pcn, if_pos hbt]
        omega
  exact loop n 0 _ (by omega) hz (zFr.refl.set rfl) (by rw [zu_sm rfl]; rfl)
end ZDress
end
-- 9c.b19.lean.txt
section
section ZBlocks
variable {T : Nat → Nat → zG → (Option zA → zM → Prop) → Prop}
theorem zb92_0r (hT : zRules T) {D : Nat} {κ : Option zA → zM → Prop} {m : zM} {v : Int} 
    (o1 : T (D + 2) 92 (4, [(0, zr 52), (1, zi v), (2, zi (-1)), (3, zi 0)], [], m) κ) :
    T (D + 2) 92 (0, [(0, zr 52), (1, zi v)], [], m) κ :=
  hT.1 [(4, [0, 1, 2, 3])] 6 (D + 2) 92 _ κ (o1)
theorem zb92_0 (hT : zRules T) {D : Nat} {κ : Option zA → zM → Prop} {m : zM} {v : Int}  (hB : zB m) (h_v : (-1) ≤ v ∧ v ≤ 200) 
    (k1 : T (D + 2) 92 (4, [(0, zr 52), (1, zi v), (2, zi (-1)), (3, zi 0)], [], m) κ) :
    T (D + 2) 92 (0, [(0, zr 52), (1, zi v)], [], m) κ := by
  exact zb92_0r hT
    k1
theorem zb92_4r (hT : zRules T) {D : Nat} {κ : Option zA → zM → Prop} {m : zM} {v : Int} {f : Int} {i : Nat} {lo : zL} (hlo : z_keep [0, 1, 2, 3] lo = [(0, zr 52), (1, zi v), (2, zi f), (3, zi (i : Int))]) 
    (o1 : ¬ wr (i : Int) < wr (m 52 1) → κ (some (zi (wr f))) m)
    (o2 : wr (i : Int) < wr (m 52 1) → (0 ≤ wr (i : Int) ∧ wr (i : Int) < 60))
    (o3 : wr (i : Int) < wr (m 52 1) → wr (m 53 ((wr (i : Int)).toNat)) < wr v → T (D + 2) 92 (4, [(0, zr 52), (1, zi v), (2, zi f), (3, zi ((i : Int) + 1))], [], m) κ)
    (o4 : wr (i : Int) < wr (m 52 1) → ¬ wr (m 53 ((wr (i : Int)).toNat)) < wr v → wr f = (-1) → (0 ≤ wr (i : Int) ∧ wr (i : Int) < 60))
    (o5 : wr (i : Int) < wr (m 52 1) → ¬ wr (m 53 ((wr (i : Int)).toNat)) < wr v → wr f = (-1) → T (D + 2) 92 (4, [(0, zr 52), (1, zi v), (2, zi (m 53 ((wr (i : Int)).toNat))), (3, zi ((i : Int) + 1))], [], m) κ)
    (o6 : wr (i : Int) < wr (m 52 1) → ¬ wr (m 53 ((wr (i : Int)).toNat)) < wr v → ¬ wr f = (-1) → (0 ≤ wr (i : Int) ∧ wr (i : Int) < 60))
    (o7 : wr (i : Int) < wr (m 52 1) → ¬ wr (m 53 ((wr (i : Int)).toNat)) < wr v → ¬ wr f = (-1) → ¬ wr (m 53 ((wr (i : Int)).toNat)) < wr f → T (D + 2) 92 (4, [(0, zr 52), (1, zi v), (2, zi f), (3, zi ((i : Int) + 1))], [], m) κ)
    (o8 : wr (i : Int) < wr (m 52 1) → ¬ wr (m 53 ((wr (i : Int)).toNat)) < wr v → ¬ wr f = (-1) → wr (m 53 ((wr (i : Int)).toNat)) < wr f → (0 ≤ wr (i : Int) ∧ wr (i : Int) < 60))
    (o9 : wr (i : Int) < wr (m 52 1) → ¬ wr (m 53 ((wr (i : Int)).toNat)) < wr v → ¬ wr f = (-1) → wr (m 53 ((wr (i : Int)).toNat)) < wr f → T (D + 2) 92 (4, [(0, zr 52), (1, zi v), (2, zi (m 53 ((wr (i : Int)).toNat))), (3, zi ((i : Int) + 1))], [], m) κ) :
    T (D + 2) 92 (4, lo, [], m) κ :=
  zkeep hT hlo (hT.1 [(4, [0, 1, 2, 3])] 6 (D + 2) 92 _ κ (And.intro (fun a1 => (o1 a1)) (fun a2 => (hT.1 [(4, [0, 1, 2, 3])] 6 (D + 2) 92 (16, [(0, zr 52), (1, zi v), (2, zi f), (3, zi (i : Int))], [zr 53], m) _ (And.intro (o2 (Classical.byContradiction a2)) (And.intro (fun a3 => (o3 (Classical.byContradiction a2) a3)) (fun a4 => (hT.1 [(4, [0, 1, 2, 3])] 6 (D + 2) 92 (24, [(0, zr 52), (1, zi v), (2, zi f), (3, zi (i : Int))], [zi (-1), zi f], m) _ (And.intro (fun a5 => (And.intro (o4 (Classical.byContradiction a2) a4 a5) (hT.1 [(4, [0, 1, 2, 3])] 6 (D + 2) 92 (44, [(0, zr 52), (1, zi v), (2, zi (m 53 ((wr (i : Int)).toNat))), (3, zi (i : Int))], [], m) _ (o5 (Classical.byContradiction a2) a4 a5)))) (fun a6 => (And.intro (o6 (Classical.byContradiction a2) a4 a6) (hT.1 [(4, [0, 1, 2, 3])] 6 (D + 2) 92 (34, [(0, zr 52), (1, zi v), (2, zi f), (3, zi (i : Int))], [zi f, zi (m 53 ((wr (i : Int)).toNat))], m) _ (And.intro (fun a7 => (o7 (Classical.byContradiction a2) a4 a6 a7)) (fun a8 => (And.intro (o8 (Classical.byContradiction a2) a4 a6 (Classical.byContradiction a8)) (hT.1 [(4, [0, 1, 2, 3])] 6 (D + 2) 92 (44, [(0, zr 52), (1, zi v), (2, zi (m 53 ((wr (i : Int)).toNat))), (3, zi (i : Int))], [], m) _ (o9 (Classical.byContradiction a2) a4 a6 (Classical.byContradiction a8))))))))))))))))))
theorem zb92_4 (hT : zRules T) {D : Nat} {κ : Option zA → zM → Prop} {m : zM} {v : Int} {f : Int} {i : Nat} {lo : zL} (hlo : z_keep [0, 1, 2, 3] lo = [(0, zr 52), (1, zi v), (2, zi f), (3, zi (i : Int))])  (hB : zB m) (h_v : (-1) ≤ v ∧ v ≤ 200) (h_f : (-1) ≤ f ∧ f ≤ 99) (h_i : i ≤ 60) 
    (k1 : ¬ (i : Int) < (m 52 1) → κ (some (zi f)) m)
    (k2 : (i : Int) < (m 52 1) → (m 53 i) < v → T (D + 2) 92 (4, [(0, zr 52), (1, zi v), (2, zi f), (3, zi ((i : Int) + 1))], [], m) κ)
    (k3 : (i : Int) < (m 52 1) → ¬ (m 53 i) < v → f = (-1) → T (D + 2) 92 (4, [(0, zr 52), (1, zi v), (2, zi (m 53 i)), (3, zi ((i : Int) + 1))], [], m) κ)
    (k4 : (i : Int) < (m 52 1) → ¬ (m 53 i) < v → ¬ f = (-1) → ¬ (m 53 i) < f → T (D + 2) 92 (4, [(0, zr 52), (1, zi v), (2, zi f), (3, zi ((i : Int) + 1))], [], m) κ)
    (k5 : (i : Int) < (m 52 1) → ¬ (m 53 i) < v → ¬ f = (-1) → (m 53 i) < f → T (D + 2) 92 (4, [(0, zr 52), (1, zi v), (2, zi (m 53 i)), (3, zi ((i : Int) + 1))], [], m) κ) :
    T (D + 2) 92 (4, lo, [], m) κ := by
  have hb3 : 0 ≤ (m 52 1) ∧ (m 52 1) ≤ 60 := hB 52 1
  have hb4 : 0 ≤ (m 53 i) ∧ (m 53 i) ≤ 99 := hB 53 i
  have he0 : wr (i : Int) = (i : Int) := wr_id (by omega) (by omega)
  have he1 : wr (m 52 1) = (m 52 1) := wr_id (by omega) (by omega)
  have he2 : (i : Int).toNat = i := by omega
  have he3 : wr (m 53 i) = (m 53 i) := wr_id (by omega) (by omega)
  have he4 : wr v = v := wr_id (by omega) (by omega)
  have he5 : wr f = f := wr_id (by omega) (by omega)
  have key := @zb92_4r T hT D κ m v f i lo hlo
  simp only [he0, he1, he2, he3, he4, he5, Int.toNat_natCast] at key
  exact key
    k1
    (fun x0 => by refine ⟨?_, ?_⟩ <;> omega)
    k2
    (fun x0 x1 x2 => by refine ⟨?_, ?_⟩ <;> omega)
    k3
    (fun x0 x1 x2 => by refine ⟨?_, ?_⟩ <;> omega)
    k4
    (fun x0 x1 x2 x3 => by refine ⟨?_, ?_⟩ <;> omega)
    k5
theorem zb93_0r (hT : zRules T) {D : Nat} {κ : Option zA → zM → Prop} {m : zM} {v : Int} {h : Int} 
    (o1 : T (D + 2) 92 (0, [(0, zr 52), (1, zi v)], [], m) (fun r m1 => T (D + 3) 93 (7, [(0, zr 52), (1, zi v), (2, zi h), (3, zi 0)], r.toList ++ [], m1) κ)) :
    T (D + 3) 93 (0, [(0, zr 52), (1, zi v), (2, zi h)], [], m) κ :=
  hT.1 [(12, [0, 2, 3, 4, 5])] 6 (D + 3) 93 _ κ (o1)
theorem zb93_0 (hT : zRules T) {D : Nat} {κ : Option zA → zM → Prop} {m : zM} {v : Int} {h : Int}  (hB : zB m) (h_v : (-1) ≤ v ∧ v ≤ 200) (h_h : 0 ≤ h ∧ h ≤ 9) 
    (k1 : T (D + 2) 92 (0, [(0, zr 52), (1, zi v)], [], m) (fun r m1 => T (D + 3) 93 (7, [(0, zr 52), (1, zi v), (2, zi h), (3, zi 0)], r.toList ++ [], m1) κ)) :
    T (D + 3) 93 (0, [(0, zr 52), (1, zi v), (2, zi h)], [], m) κ := by
  exact zb93_0r hT
    k1
theorem zb93_7r (hT : zRules T) {D : Nat} {κ : Option zA → zM → Prop} {m : zM} {h : Int} {c : Nat} {v : Int} {lo : zL} (hlo : z_keep [0, 2, 3] lo = [(0, zr 52), (2, zi h), (3, zi (c : Int))]) 
    (o1 : T (D + 3) 93 (12, [(0, zr 52), (2, zi h), (3, zi (c : Int)), (4, zi v), (5, zi 0)], [], m) κ) :
    T (D + 3) 93 (7, lo, [zi v], m) κ :=
  zkeep hT hlo (hT.1 [(12, [0, 2, 3, 4, 5])] 6 (D + 3) 93 _ κ (o1))
theorem zb93_7 (hT : zRules T) {D : Nat} {κ : Option zA → zM → Prop} {m : zM} {h : Int} {c : Nat} {v : Int} {lo : zL} (hlo : z_keep [0, 2, 3] lo = [(0, zr 52), (2, zi h), (3, zi (c : Int))])  (hB : zB m) (h_h : 0 ≤ h ∧ h ≤ 9) (h_c : c ≤ 60) (h_v : (-1) ≤ v ∧ v ≤ 99) 
    (k1 : T (D + 3) 93 (12, [(0, zr 52), (2, zi h), (3, zi (c : Int)), (4, zi v), (5, zi 0)], [], m) κ) :
    T (D + 3) 93 (7, lo, [zi v], m) κ := by
  exact zb93_7r hT hlo
    k1
theorem zb93_12r (hT : zRules T) {D : Nat} {κ : Option zA → zM → Prop} {m : zM} {h : Int} {c : Nat} {v : Int} {i : Nat} {lo : zL} (hlo : z_keep [0, 2, 3, 4, 5] lo = [(0, zr 52), (2, zi h), (3, zi (c : Int)), (4, zi v), (5, zi (i : Int))]) 
    (o1 : ¬ wr (i : Int) < wr (m 52 1) → κ (some (zi (wr (c : Int)))) m)
    (o2 : wr (i : Int) < wr (m 52 1) → wr v = (-1) → κ (some (zi (wr (c : Int)))) m)
    (o3 : wr (i : Int) < wr (m 52 1) → ¬ wr v = (-1) → T (D + 2) 92 (0, [(0, zr 52), (1, zi ((v + h) + 1))], [], m) (fun r m1 => T (D + 3) 93 (40, [(0, zr 52), (2, zi h), (3, zi ((c : Int) + 1)), (4, zi v), (5, zi (i : Int))], r.toList ++ [], m1) κ)) :
    T (D + 3) 93 (12, lo, [], m) κ :=
  zkeep hT hlo (hT.1 [(12, [0, 2, 3, 4, 5])] 6 (D + 3) 93 _ κ (And.intro (fun a1 => (o1 a1)) (fun a2 => (hT.1 [(12, [0, 2, 3, 4, 5])] 6 (D + 3) 93 (24, [(0, zr 52), (2, zi h), (3, zi (c : Int)), (4, zi v), (5, zi (i : Int))], [zi (-1), zi v], m) _ (And.intro (fun a3 => (o2 (Classical.byContradiction a2) a3)) (fun a4 => (hT.1 [(12, [0, 2, 3, 4, 5])] 6 (D + 3) 93 (35, [(0, zr 52), (2, zi h), (3, zi ((c : Int) + 1)), (4, zi v), (5, zi (i : Int))], [zi (v + h), zr 52], m) _ (o3 (Classical.byContradiction a2) a4))))))))
theorem zb93_12 (hT : zRules T) {D : Nat} {κ : Option zA → zM → Prop} {m : zM} {h : Int} {c : Nat} {v : Int} {i : Nat} {lo : zL} (hlo : z_keep [0, 2, 3, 4, 5] lo = [(0, zr 52), (2, zi h), (3, zi (c : Int)), (4, zi v), (5, zi (i : Int))])  (hB : zB m) (h_h : 0 ≤ h ∧ h ≤ 9) (h_c : c ≤ 60) (h_v : (-1) ≤ v ∧ v ≤ 99) (h_i : i ≤ 60) 
    (k1 : ¬ (i : Int) < (m 52 1) → κ (some (zi (c : Int))) m)
    (k2 : (i : Int) < (m 52 1) → v = (-1) → κ (some (zi (c : Int))) m)
    (k3 : (i : Int) < (m 52 1) → ¬ v = (-1) → T (D + 2) 92 (0, [(0, zr 52), (1, zi ((v + h) + 1))], [], m) (fun r m1 => T (D + 3) 93 (40, [(0, zr 52), (2, zi h), (3, zi ((c : Int) + 1)), (4, zi v), (5, zi (i : Int))], r.toList ++ [], m1) κ)) :
    T (D + 3) 93 (12, lo, [], m) κ := by
  have hb4 : 0 ≤ (m 52 1) ∧ (m 52 1) ≤ 60 := hB 52 1
  have he0 : wr (i : Int) = (i : Int) := wr_id (by omega) (by omega)
  have he1 : wr (m 52 1) = (m 52 1) := wr_id (by omega) (by omega)
  have he2 : wr v = v := wr_id (by omega) (by omega)
  have he3 : wr (c : Int) = (c : Int) := wr_id (by omega) (by omega)
  have key := @zb93_12r T hT D κ m h c v i lo hlo
  simp only [he0, he1, he2, he3, Int.toNat_natCast] at key
  exact key
    k1
    k2
    k3
theorem zb93_40r (hT : zRules T) {D : Nat} {κ : Option zA → zM → Prop} {m : zM} {h : Int} {c : Nat} {v : Int} {i : Nat} {lo : zL} (hlo : z_keep [0, 2, 3, 5] lo = [(0, zr 52), (2, zi h), (3, zi (c : Int)), (5, zi (i : Int))]) 
    (o1 : T (D + 3) 93 (12, [(0, zr 52), (2, zi h), (3, zi (c : Int)), (4, zi v), (5, zi ((i : Int) + 1))], [], m) κ) :
    T (D + 3) 93 (40, lo, [zi v], m) κ :=
  zkeep hT hlo (hT.1 [(12, [0, 2, 3, 4, 5])] 6 (D + 3) 93 _ κ (o1))
theorem zb93_40 (hT : zRules T) {D : Nat} {κ : Option zA → zM → Prop} {m : zM} {h : Int} {c : Nat} {v : Int} {i : Nat} {lo : zL} (hlo : z_keep [0, 2, 3, 5] lo = [(0, zr 52), (2, zi h), (3, zi (c : Int)), (5, zi (i : Int))])  (hB : zB m) (h_h : 0 ≤ h ∧ h ≤ 9) (h_c : c ≤ 60) (h_v : (-1) ≤ v ∧ v ≤ 99) (h_i : i ≤ 60) 
    (k1 : T (D + 3) 93 (12, [(0, zr 52), (2, zi h), (3, zi (c : Int)), (4, zi v), (5, zi ((i : Int) + 1))], [], m) κ) :
    T (D + 3) 93 (40, lo, [zi v], m) κ := by
  exact zb93_40r hT hlo
    k1
theorem zb91_0r (hT : zRules T) {D : Nat} {κ : Option zA → zM → Prop} {m : zM} {h : Int} 
    (o1 : T (D + 3) 93 (0, [(0, zr 52), (1, zi 0), (2, zi h)], [], m) (fun r m1 => T (D + 4) 91 (6, [(0, zr 52), (1, zi h)], r.toList ++ [], m1) κ)) :
    T (D + 4) 91 (0, [(0, zr 52), (1, zi h)], [], m) κ :=
  hT.1 [(16, [0, 1, 2, 3, 4]), (35, [0, 1, 2, 3, 4, 5])] 6 (D + 4) 91 _ κ (o1)
theorem zb91_0 (hT : zRules T) {D : Nat} {κ : Option zA → zM → Prop} {m : zM} {h : Int}  (hB : zB m) (h_h : 0 ≤ h ∧ h ≤ 9) 
    (k1 : T (D + 3) 93 (0, [(0, zr 52), (1, zi 0), (2, zi h)], [], m) (fun r m1 => T (D + 4) 91 (6, [(0, zr 52), (1, zi h)], r.toList ++ [], m1) κ)) :
    T (D + 4) 91 (0, [(0, zr 52), (1, zi h)], [], m) κ := by
  exact zb91_0r hT
    k1
theorem zb91_6r (hT : zRules T) {D : Nat} {κ : Option zA → zM → Prop} {m : zM} {h : Int} {n : Nat} {lo : zL} (hlo : z_keep [0, 1] lo = [(0, zr 52), (1, zi h)]) 
    (o1 : T (D + 3) 92 (0, [(0, zr 52), (1, zi 0)], [], m) (fun r m1 => T (D + 4) 91 (12, [(0, zr 52), (1, zi h), (2, zi (n : Int))], r.toList ++ [], m1) κ)) :
    T (D + 4) 91 (6, lo, [zi (n : Int)], m) κ :=
  zkeep hT hlo (hT.1 [(16, [0, 1, 2, 3, 4]), (35, [0, 1, 2, 3, 4, 5])] 6 (D + 4) 91 _ κ (o1))
theorem zb91_6 (hT : zRules T) {D : Nat} {κ : Option zA → zM → Prop} {m : zM} {h : Int} {n : Nat} {lo : zL} (hlo : z_keep [0, 1] lo = [(0, zr 52), (1, zi h)])  (hB : zB m) (h_h : 0 ≤ h ∧ h ≤ 9) (h_n : n ≤ 60) 
    (k1 : T (D + 3) 92 (0, [(0, zr 52), (1, zi 0)], [], m) (fun r m1 => T (D + 4) 91 (12, [(0, zr 52), (1, zi h), (2, zi (n : Int))], r.toList ++ [], m1) κ)) :
    T (D + 4) 91 (6, lo, [zi (n : Int)], m) κ := by
  exact zb91_6r hT hlo
    k1
theorem zb91_12r (hT : zRules T) {D : Nat} {κ : Option zA → zM → Prop} {m : zM} {h : Int} {n : Nat} {a : Int} {lo : zL} (hlo : z_keep [0, 1, 2] lo = [(0, zr 52), (1, zi h), (2, zi (n : Int))]) 
    (o1 : T (D + 4) 91 (16, [(0, zr 52), (1, zi h), (2, zi (n : Int)), (3, zi a), (4, zi 0)], [], m) κ) :
    T (D + 4) 91 (12, lo, [zi a], m) κ :=
  zkeep hT hlo (hT.1 [(16, [0, 1, 2, 3, 4]), (35, [0, 1, 2, 3, 4, 5])] 6 (D + 4) 91 _ κ (o1))
theorem zb91_12 (hT : zRules T) {D : Nat} {κ : Option zA → zM → Prop} {m : zM} {h : Int} {n : Nat} {a : Int} {lo : zL} (hlo : z_keep [0, 1, 2] lo = [(0, zr 52), (1, zi h), (2, zi (n : Int))])  (hB : zB m) (h_h : 0 ≤ h ∧ h ≤ 9) (h_n : n ≤ 60) (h_a : (-1) ≤ a ∧ a ≤ 99) 
    (k1 : T (D + 4) 91 (16, [(0, zr 52), (1, zi h), (2, zi (n : Int)), (3, zi a), (4, zi 0)], [], m) κ) :
    T (D + 4) 91 (12, lo, [zi a], m) κ := by
  exact zb91_12r hT hlo
    k1
theorem zb91_16r (hT : zRules T) {D : Nat} {κ : Option zA → zM → Prop} {m : zM} {h : Int} {n : Nat} {a : Int} {i : Nat} {lo : zL} (hlo : z_keep [0, 1, 2, 3, 4] lo = [(0, zr 52), (1, zi h), (2, zi (n : Int)), (3, zi a), (4, zi (i : Int))]) 
    (o1 : ¬ wr (i : Int) < wr (n : Int) → κ (some (zi (wr (n : Int)))) m)
    (o2 : wr (i : Int) < wr (n : Int) → ¬ wr (i : Int) < 26 → κ (some (zi (wr (n : Int)))) m)
    (o3 : wr (i : Int) < wr (n : Int) → wr (i : Int) < 26 → T (D + 4) 91 (35, [(0, zr 52), (1, zi h), (2, zi (n : Int)), (3, zi a), (4, zi (i : Int)), (5, zi a)], [], m) κ) :
    T (D + 4) 91 (16, lo, [], m) κ :=
  zkeep hT hlo (hT.1 [(16, [0, 1, 2, 3, 4]), (35, [0, 1, 2, 3, 4, 5])] 6 (D + 4) 91 _ κ (And.intro (fun a1 => (o1 a1)) (fun a2 => (hT.1 [(16, [0, 1, 2, 3, 4]), (35, [0, 1, 2, 3, 4, 5])] 6 (D + 4) 91 (28, [(0, zr 52), (1, zi h), (2, zi (n : Int)), (3, zi a), (4, zi (i : Int))], [zr 58, zi (i : Int)], m) _ (And.intro (fun a3 => (o2 (Classical.byContradiction a2) a3)) (fun a4 => (o3 (Classical.byContradiction a2) (Classical.byContradiction a4))))))))
theorem zb91_16 (hT : zRules T) {D : Nat} {κ : Option zA → zM → Prop} {m : zM} {h : Int} {n : Nat} {a : Int} {i : Nat} {lo : zL} (hlo : z_keep [0, 1, 2, 3, 4] lo = [(0, zr 52), (1, zi h), (2, zi (n : Int)), (3, zi a), (4, zi (i : Int))])  (hB : zB m) (h_h : 0 ≤ h ∧ h ≤ 9) (h_n : n ≤ 60) (h_a : (-1) ≤ a ∧ a ≤ 99) (h_i : i ≤ 60) 
    (k1 : ¬ (i : Int) < (n : Int) → κ (some (zi (n : Int))) m)
    (k2 : (i : Int) < (n : Int) → ¬ (i : Int) < 26 → κ (some (zi (n : Int))) m)
    (k3 : (i : Int) < (n : Int) → (i : Int) < 26 → T (D + 4) 91 (35, [(0, zr 52), (1, zi h), (2, zi (n : Int)), (3, zi a), (4, zi (i : Int)), (5, zi a)], [], m) κ) :
    T (D + 4) 91 (16, lo, [], m) κ := by
  have he0 : wr (i : Int) = (i : Int) := wr_id (by omega) (by omega)
  have he1 : wr (n : Int) = (n : Int) := wr_id (by omega) (by omega)
  have key := @zb91_16r T hT D κ m h n a i lo hlo
  simp only [he0, he1, Int.toNat_natCast] at key
  exact key
    k1
    k2
    k3
theorem zb91_35r (hT : zRules T) {D : Nat} {κ : Option zA → zM → Prop} {m : zM} {h : Int} {n : Nat} {a : Int} {i : Nat} {b : Int} {lo : zL} (hlo : z_keep [0, 1, 2, 3, 4, 5] lo = [(0, zr 52), (1, zi h), (2, zi (n : Int)), (3, zi a), (4, zi (i : Int)), (5, zi b)]) 
    (o1 : ¬ wr b < wr (a + h) → (0 ≤ wr (i : Int) ∧ wr (i : Int) < 26))
    (o2 : ¬ wr b < wr (a + h) → T (D + 3) 92 (0, [(0, zr 52), (1, zi (b + 1))], [], (zu m 58 ((wr (i : Int)).toNat) b)) (fun r m1 => T (D + 4) 91 (84, [(0, zr 52), (1, zi h), (2, zi (n : Int)), (3, zi a), (4, zi (i : Int)), (5, zi b)], r.toList ++ [], m1) κ))
    (o3 : wr b < wr (a + h) → T (D + 3) 93 (0, [(0, zr 52), (1, zi (b + 1)), (2, zi h)], [], m) (fun r m1 => T (D + 4) 91 (52, [(0, zr 52), (1, zi h), (2, zi (n : Int)), (3, zi a), (4, zi (i : Int)), (5, zi b)], r.toList ++ [], m1) κ)) :
    T (D + 4) 91 (35, lo, [], m) κ :=
  zkeep hT hlo (hT.1 [(16, [0, 1, 2, 3, 4]), (35, [0, 1, 2, 3, 4, 5])] 6 (D + 4) 91 _ κ (And.intro (fun a1 => (hT.1 [(16, [0, 1, 2, 3, 4]), (35, [0, 1, 2, 3, 4, 5])] 6 (D + 4) 91 (68, [(0, zr 52), (1, zi h), (2, zi (n : Int)), (3, zi a), (4, zi (i : Int)), (5, zi b)], [zr 52], m) _ (And.intro (And.intro (o1 a1) trivial) (hT.1 [(16, [0, 1, 2, 3, 4]), (35, [0, 1, 2, 3, 4, 5])] 6 (D + 4) 91 (79, [(0, zr 52), (1, zi h), (2, zi (n : Int)), (3, zi a), (4, zi (i : Int)), (5, zi b)], [zi b, zr 52], (zu m 58 ((wr (i : Int)).toNat) b)) _ (o2 a1))))) (fun a2 => (hT.1 [(16, [0, 1, 2, 3, 4]), (35, [0, 1, 2, 3, 4, 5])] 6 (D + 4) 91 (44, [(0, zr 52), (1, zi h), (2, zi (n : Int)), (3, zi a), (4, zi (i : Int)), (5, zi b)], [zr 52], m) _ (o3 (Classical.byContradiction a2))))))
theorem zb91_35 (hT : zRules T) {D : Nat} {κ : Option zA → zM → Prop} {m : zM} {h : Int} {n : Nat} {a : Int} {i : Nat} {b : Int} {lo : zL} (hlo : z_keep [0, 1, 2, 3, 4, 5] lo = [(0, zr 52), (1, zi h), (2, zi (n : Int)), (3, zi a), (4, zi (i : Int)), (5, zi b)])  (hB : zB m) (h_h : 0 ≤ h ∧ h ≤ 9) (h_n : n ≤ 60) (h_a : (-1) ≤ a ∧ a ≤ 99) (h_i : i ≤ 60) (h_b : (-1) ≤ b ∧ b ≤ 108) 
    (k1 : ¬ b < (a + h) → (0 ≤ (i : Int) ∧ (i : Int) < 26))
    (k2 : ¬ b < (a + h) → zB (zu m 58 i b) → T (D + 3) 92 (0, [(0, zr 52), (1, zi (b + 1))], [], (zu m 58 i b)) (fun r m1 => T (D + 4) 91 (84, [(0, zr 52), (1, zi h), (2, zi (n : Int)), (3, zi a), (4, zi (i : Int)), (5, zi b)], r.toList ++ [], m1) κ))
    (k3 : b < (a + h) → T (D + 3) 93 (0, [(0, zr 52), (1, zi (b + 1)), (2, zi h)], [], m) (fun r m1 => T (D + 4) 91 (52, [(0, zr 52), (1, zi h), (2, zi (n : Int)), (3, zi a), (4, zi (i : Int)), (5, zi b)], r.toList ++ [], m1) κ)) :
    T (D + 4) 91 (35, lo, [], m) κ := by
  have he0 : wr b = b := wr_id (by omega) (by omega)
  have he1 : wr (a + h) = (a + h) := wr_id (by omega) (by omega)
  have he2 : wr (i : Int) = (i : Int) := wr_id (by omega) (by omega)
  have he3 : (i : Int).toNat = i := by omega
  have key := @zb91_35r T hT D κ m h n a i b lo hlo
  simp only [he0, he1, he2, he3, Int.toNat_natCast] at key
  exact key
    k1
    (fun x0 => k2 x0 (zB_u hB trivial))
    k3
theorem zb91_52r (hT : zRules T) {D : Nat} {κ : Option zA → zM → Prop} {m : zM} {h : Int} {n : Nat} {a : Int} {i : Nat} {b : Int} {v : Nat} {lo : zL} (hlo : z_keep [0, 1, 2, 3, 4, 5] lo = [(0, zr 52), (1, zi h), (2, zi (n : Int)), (3, zi a), (4, zi (i : Int)), (5, zi b)]) 
    (o1 : ¬ wr (((n : Int) - (i : Int)) - 1) < wr (v : Int) → (0 ≤ wr (i : Int) ∧ wr (i : Int) < 26))
    (o2 : ¬ wr (((n : Int) - (i : Int)) - 1) < wr (v : Int) → T (D + 3) 92 (0, [(0, zr 52), (1, zi (b + 1))], [], (zu m 58 ((wr (i : Int)).toNat) b)) (fun r m1 => T (D + 4) 91 (84, [(0, zr 52), (1, zi h), (2, zi (n : Int)), (3, zi a), (4, zi (i : Int)), (5, zi b)], r.toList ++ [], m1) κ))
    (o3 : wr (((n : Int) - (i : Int)) - 1) < wr (v : Int) → T (D + 4) 91 (35, [(0, zr 52), (1, zi h), (2, zi (n : Int)), (3, zi a), (4, zi (i : Int)), (5, zi (b + 1))], [], m) κ) :
    T (D + 4) 91 (52, lo, [zi (v : Int)], m) κ :=
  zkeep hT hlo (hT.1 [(16, [0, 1, 2, 3, 4]), (35, [0, 1, 2, 3, 4, 5])] 6 (D + 4) 91 _ κ (And.intro (fun a1 => (hT.1 [(16, [0, 1, 2, 3, 4]), (35, [0, 1, 2, 3, 4, 5])] 6 (D + 4) 91 (67, [(0, zr 52), (1, zi h), (2, zi (n : Int)), (3, zi a), (4, zi (i : Int)), (5, zi b)], [], m) _ (And.intro (And.intro (o1 a1) trivial) (hT.1 [(16, [0, 1, 2, 3, 4]), (35, [0, 1, 2, 3, 4, 5])] 6 (D + 4) 91 (77, [(0, zr 52), (1, zi h), (2, zi (n : Int)), (3, zi a), (4, zi (i : Int)), (5, zi b)], [zr 52], (zu m 58 ((wr (i : Int)).toNat) b)) _ (o2 a1))))) (fun a2 => (hT.1 [(16, [0, 1, 2, 3, 4]), (35, [0, 1, 2, 3, 4, 5])] 6 (D + 4) 91 (61, [(0, zr 52), (1, zi h), (2, zi (n : Int)), (3, zi a), (4, zi (i : Int)), (5, zi b)], [], m) _ (o3 (Classical.byContradiction a2))))))
theorem zb91_52 (hT : zRules T) {D : Nat} {κ : Option zA → zM → Prop} {m : zM} {h : Int} {n : Nat} {a : Int} {i : Nat} {b : Int} {v : Nat} {lo : zL} (hlo : z_keep [0, 1, 2, 3, 4, 5] lo = [(0, zr 52), (1, zi h), (2, zi (n : Int)), (3, zi a), (4, zi (i : Int)), (5, zi b)])  (hB : zB m) (h_h : 0 ≤ h ∧ h ≤ 9) (h_n : n ≤ 60) (h_a : (-1) ≤ a ∧ a ≤ 99) (h_i : i ≤ 60) (h_b : (-1) ≤ b ∧ b ≤ 108) (h_v : v ≤ 60) 
    (k1 : ¬ (((n : Int) - (i : Int)) - 1) < (v : Int) → (0 ≤ (i : Int) ∧ (i : Int) < 26))
    (k2 : ¬ (((n : Int) - (i : Int)) - 1) < (v : Int) → zB (zu m 58 i b) → T (D + 3) 92 (0, [(0, zr 52), (1, zi (b + 1))], [], (zu m 58 i b)) (fun r m1 => T (D + 4) 91 (84, [(0, zr 52), (1, zi h), (2, zi (n : Int)), (3, zi a), (4, zi (i : Int)), (5, zi b)], r.toList ++ [], m1) κ))
    (k3 : (((n : Int) - (i : Int)) - 1) < (v : Int) → T (D + 4) 91 (35, [(0, zr 52), (1, zi h), (2, zi (n : Int)), (3, zi a), (4, zi (i : Int)), (5, zi (b + 1))], [], m) κ) :
    T (D + 4) 91 (52, lo, [zi (v : Int)], m) κ := by
  have he0 : wr (((n : Int) - (i : Int)) - 1) = (((n : Int) - (i : Int)) - 1) := wr_id (by omega) (by omega)
  have he1 : wr (v : Int) = (v : Int) := wr_id (by omega) (by omega)
  have he2 : wr (i : Int) = (i : Int) := wr_id (by omega) (by omega)
  have he3 : (i : Int).toNat = i := by omega
  have key := @zb91_52r T hT D κ m h n a i b v lo hlo
  simp only [he0, he1, he2, he3, Int.toNat_natCast] at key
  exact key
    k1
    (fun x0 => k2 x0 (zB_u hB trivial))
    k3
theorem zb91_84r (hT : zRules T) {D : Nat} {κ : Option zA → zM → Prop} {m : zM} {h : Int} {n : Nat} {i : Nat} {v : Int} {lo : zL} (hlo : z_keep [0, 1, 2, 4] lo = [(0, zr 52), (1, zi h), (2, zi (n : Int)), (4, zi (i : Int))]) 
    (o1 : T (D + 4) 91 (16, [(0, zr 52), (1, zi h), (2, zi (n : Int)), (3, zi v), (4, zi ((i : Int) + 1))], [], m) κ) :
    T (D + 4) 91 (84, lo, [zi v], m) κ :=
  zkeep hT hlo (hT.1 [(16, [0, 1, 2, 3, 4]), (35, [0, 1, 2, 3, 4, 5])] 6 (D + 4) 91 _ κ (o1))
theorem zb91_84 (hT : zRules T) {D : Nat} {κ : Option zA → zM → Prop} {m : zM} {h : Int} {n : Nat} {i : Nat} {v : Int} {lo : zL} (hlo : z_keep [0, 1, 2, 4] lo = [(0, zr 52), (1, zi h), (2, zi (n : Int)), (4, zi (i : Int))])  (hB : zB m) (h_h : 0 ≤ h ∧ h ≤ 9) (h_n : n ≤ 60) (h_i : i ≤ 60) (h_v : (-1) ≤ v ∧ v ≤ 99) 
    (k1 : T (D + 4) 91 (16, [(0, zr 52), (1, zi h), (2, zi (n : Int)), (3, zi v), (4, zi ((i : Int) + 1))], [], m) κ) :
    T (D + 4) 91 (84, lo, [zi v], m) κ := by
  exact zb91_84r hT hlo
    k1
end ZBlocks
end
-- 9d.pack.lean.txt
section
/-! The class's packing of a trunk: it ends (way(), trunk()). -/
section ZPack
variable {T : Nat → Nat → zG → (Option zA → zM → Prop) → Prop} {B : Int}
theorem z_nextLaw0 (hT : zRules T) {D : Nat} {κ : Option zA → zM → Prop} {m : zM} {v : Int} {N : Nat} (hB : zB m) (hN : m 52 1 = (N : Int)) (hv : -1 ≤ v ∧ v ≤ 200) (hk : ∀ f : Int, (-1 ≤ f ∧ f ≤ 99) → κ (some (zi f)) m) : T (D + 2) 92 (0, [(0, zr 52), (1, zi v)], [], m) κ := by
  have b52 : 0 ≤ m 52 1 ∧ m 52 1 ≤ 60 := hB 52 1
  have key : ∀ (j t : Nat) (f : Int), t + j = N → (-1 ≤ f ∧ f ≤ 99) → T (D + 2) 92 (4, [(0, zr 52), (1, zi v), (2, zi f), (3, zi (t : Int))], [], m) κ := by
    intro j
    induction j with
    | zero =>
      intro t f ht hf
      exact zb92_4 hT rfl hB hv hf (by omega) (fun _ => hk f hf) (fun q => by omega) (fun q => by omega) (fun q => by omega) (fun q => by omega)
    | succ j ih =>
      intro t f ht hf
      have b53 : 0 ≤ m 53 t ∧ m 53 t ≤ 99 := hB 53 t
      exact zb92_4 hT rfl hB hv hf (by omega) (fun q => by omega) (fun _ _ => ih (t + 1) f (by omega) hf) (fun _ _ _ => ih (t + 1) _ (by omega) (by omega)) (fun _ _ _ _ => ih (t + 1) f (by omega) hf) (fun _ _ _ _ => ih (t + 1) _ (by omega) (by omega))
  exact zb92_0 hT hB hv (key N 0 (-1) (by omega) (by omega))
theorem z_countFew0 (hT : zRules T) {D : Nat} {κ : Option zA → zM → Prop} {m : zM} {v h : Int} {N : Nat} (hB : zB m) (hN : m 52 1 = (N : Int)) (hv : -1 ≤ v ∧ v ≤ 200) (hh : 0 ≤ h ∧ h ≤ 9) (hk : ∀ c : Nat, c ≤ N → κ (some (zi (c : Int))) m) : T (D + 3) 93 (0, [(0, zr 52), (1, zi v), (2, zi h)], [], m) κ := by
  have b52 : 0 ≤ m 52 1 ∧ m 52 1 ≤ 60 := hB 52 1
  have key : ∀ (j t c : Nat) (w : Int), t + j = N → c ≤ t → (-1 ≤ w ∧ w ≤ 99) → T (D + 3) 93 (12, [(0, zr 52), (2, zi h), (3, zi (c : Int)), (4, zi w), (5, zi (t : Int))], [], m) κ := by
    intro j
    induction j with
    | zero =>
      intro t c w ht hc hw
      exact zb93_12 hT rfl hB hh (by omega) hw (by omega) (fun _ => hk c (by omega)) (fun q => by omega) (fun q => by omega)
    | succ j ih =>
      intro t c w ht hc hw
      refine zb93_12 hT rfl hB hh (by omega) hw (by omega) (fun q => by omega) (fun _ _ => hk c (by omega)) (fun _ _ => ?_)
      refine z_nextLaw0 hT hB hN (by omega) (fun f hf => ?_)
      exact zb93_40 (c := c + 1) hT rfl hB hh (by omega) hf (by omega) (ih (t + 1) (c + 1) f (by omega) (by omega) hf)
  refine zb93_0 hT hB hv hh ?_
  refine z_nextLaw0 (D := D) hT hB hN hv (fun f hf => ?_)
  exact zb93_7 (c := 0) hT rfl hB hh (by omega) hf (key N 0 0 f (by omega) (by omega) hf)
theorem z_packFew0 (hT : zRules T) {D : Nat} {κ : Option zA → zM → Prop} {m : zM} {h : Int} (hB : zB m) (hh : 0 ≤ h ∧ h ≤ 9) (hk : ∀ (c : Nat) M, (c : Int) ≤ m 52 1 → zB M → zFr (inL [(58, none)]) m M → κ (some (zi (c : Int))) M) : T (D + 4) 91 (0, [(0, zr 52), (1, zi h)], [], m) κ := by
  have b52 : 0 ≤ m 52 1 ∧ m 52 1 ≤ 60 := hB 52 1
  obtain ⟨N, hN⟩ : ∃ N : Nat, m 52 1 = (N : Int) := ⟨(m 52 1).toNat, by omega⟩
  refine zb91_0 hT hB hh ?_
  refine z_countFew0 hT hB hN (by omega) hh (fun n hn => ?_)
  refine zb91_6 hT rfl hB hh (by omega) ?_
  refine z_nextLaw0 (D := D + 1) hT hB hN (by omega) (fun a ha => ?_)
  refine zb91_12 hT rfl hB hh (by omega) ha ?_
  have outer : ∀ (j i : Nat) (a : Int) (M : zM), i + j = 60 → (-1 ≤ a ∧ a ≤ 99) → zB M → zFr (inL [(58, none)]) m M → T (D + 4) 91 (16, [(0, zr 52), (1, zi h), (2, zi (n : Int)), (3, zi a), (4, zi (i : Int))], [], M) κ := by
    intro j
    induction j with
    | zero =>
      intro i a M hi ha hBM hF
      exact zb91_16 hT rfl hBM hh (by omega) ha (by omega) (fun _ => hk n M (by omega) hBM hF) (fun _ _ => hk n M (by omega) hBM hF) (fun _ q => by omega)
    | succ j ih =>
      intro i a M hi ha hBM hF
      refine zb91_16 hT rfl hBM hh (by omega) ha (by omega) (fun _ => hk n M (by omega) hBM hF) (fun _ _ => hk n M (by omega) hBM hF) (fun _ i26 => ?_)
      have e52 : M 52 1 = (N : Int) := (hF 52 1 rfl).trans hN
      have out : ∀ b : Int, (-1 ≤ b ∧ b ≤ 108) → zB (zu M 58 i b) → T (D + 3) 92 (0, [(0, zr 52), (1, zi (b + 1))], [], (zu M 58 i b)) (fun r m1 => T (D + 4) 91 (84, [(0, zr 52), (1, zi h), (2, zi (n : Int)), (3, zi a), (4, zi (i : Int)), (5, zi b)], r.toList ++ [], m1) κ) := by
        intro b hb hz
        refine z_nextLaw0 (D := D + 1) (N := N) hT hz (by rw [zu_dn (by omega), e52]) (by omega) (fun f hf => ?_)
        exact zb91_84 hT rfl hz hh (by omega) (by omega) hf (ih (i + 1) f _ (by omega) hf hz (hF.set rfl))
      have inner : ∀ (q : Nat) (b : Int), b + q = a + h → (-1 ≤ b ∧ b ≤ 108) → T (D + 4) 91 (35, [(0, zr 52), (1, zi h), (2, zi (n : Int)), (3, zi a), (4, zi (i : Int)), (5, zi b)], [], M) κ := by
        intro q
        induction q with
        | zero =>
          intro b hbq hb
          exact zb91_35 hT rfl hBM hh (by omega) ha (by omega) hb (fun _ => by omega) (fun _ hz => out b hb hz) (fun x => by omega)
        | succ q ih2 =>
          intro b hbq hb
          refine zb91_35 hT rfl hBM hh (by omega) ha (by omega) hb (fun _ => by omega) (fun _ hz => out b hb hz) (fun _ => ?_)
          refine z_countFew0 (D := D) (N := N) hT hBM e52 (by omega) hh (fun v hv => ?_)
          exact zb91_52 hT rfl hBM hh (by omega) ha (by omega) hb (by omega) (fun _ => by omega) (fun _ hz => out b hb hz) (fun _ => ih2 (b + 1) (by omega) (by omega))
      exact inner h.toNat a (by omega) (by omega)
  exact outer 60 0 a m (by omega) ha hB zFr.refl
end ZPack
end
-- 9e.b20.lean.txt
section
section ZBlocks
variable {T : Nat → Nat → zG → (Option zA → zM → Prop) → Prop}
theorem zb140_0r (hT : zRules T) {D : Nat} {κ : Option zA → zM → Prop} {m : zM} {p : Int} {n : Int} 
    (o1 : wr p < 0 → κ (some (zi (-1))) m)
    (o2 : ¬ wr p < 0 → ¬ wr p < wr (m 17 0) → κ (some (zi (-1))) m)
    (o3 : ¬ wr p < 0 → wr p < wr (m 17 0) → wr n < 1 → κ (some (zi (-1))) m)
    (o4 : ¬ wr p < 0 → wr p < wr (m 17 0) → ¬ wr n < 1 → ¬ 20 < wr n → (0 ≤ wr p ∧ wr p < 6))
    (o5 : ¬ wr p < 0 → wr p < wr (m 17 0) → ¬ wr n < 1 → ¬ 20 < wr n → T (D + 6) 180 (0, [(0, zr 1), (1, zi p), (2, zi (m 19 ((wr p).toNat))), (3, zi n)], [], m) (fun r m1 => T (D + 7) 140 (39, [(0, zr 1), (1, zi p), (2, zi n)], r.toList ++ [], m1) κ))
    (o6 : ¬ wr p < 0 → wr p < wr (m 17 0) → ¬ wr n < 1 → 20 < wr n → κ (some (zi (-1))) m) :
    T (D + 7) 140 (0, [(0, zr 1), (1, zi p), (2, zi n)], [], m) κ :=
  hT.1 [] 6 (D + 7) 140 _ κ (hT.1 [] 6 (D + 6) 25 _ _ (And.intro (fun a1 => (And.intro (z_b01L rfl) (hT.1 [] 6 (D + 7) 140 _ _ (And.intro (fun _ => (o1 a1)) (fun a3 => (a3 (z_litT rfl)).elim))))) (fun a2 => (And.intro (fun a4 => (hT.1 [] 6 (D + 6) 25 (16, [(0, zr 17), (1, zi p)], [], m) _ (And.intro (z_b01L rfl) (hT.1 [] 6 (D + 7) 140 _ _ (And.intro (fun _ => (o2 a2 a4)) (fun a6 => (a6 (z_litT rfl)).elim)))))) (fun a5 => (hT.1 [] 6 (D + 6) 25 (12, [(0, zr 17), (1, zi p)], [], m) _ (And.intro (z_b01L rfl) (hT.1 [] 6 (D + 7) 140 _ _ (And.intro (fun a7 => (z_litF a7 rfl).elim) (fun _ => (And.intro (fun a8 => (o3 a2 (Classical.byContradiction a5) a8)) (fun a9 => (hT.1 [] 6 (D + 7) 140 (19, [(0, zr 1), (1, zi p), (2, zi n)], [zi 20, zi n], m) _ (And.intro (fun a10 => (hT.1 [] 6 (D + 7) 140 (33, [(0, zr 1), (1, zi p), (2, zi n)], [zr 19, zi p, zr 1], m) _ (And.intro (o4 a2 (Classical.byContradiction a5) a9 a10) (o5 a2 (Classical.byContradiction a5) a9 a10)))) (fun a11 => (o6 a2 (Classical.byContradiction a5) a9 (Classical.byContradiction a11)))))))))))))))))
theorem zb140_0 (hT : zRules T) {D : Nat} {κ : Option zA → zM → Prop} {m : zM} {p : Int} {n : Int}  (hB : zB m) (h_p : (-2147483648) ≤ p ∧ p ≤ 2147483647) (h_n : (-2147483648) ≤ n ∧ n ≤ 2147483647) 
    (k1 : p < 0 → κ (some (zi (-1))) m)
    (k2 : ¬ p < 0 → ¬ p < (m 17 0) → κ (some (zi (-1))) m)
    (k3 : ¬ p < 0 → p < (m 17 0) → n < 1 → κ (some (zi (-1))) m)
    (k4 : ¬ p < 0 → p < (m 17 0) → ¬ n < 1 → ¬ 20 < n → T (D + 6) 180 (0, [(0, zr 1), (1, zi p), (2, zi (m 19 (p.toNat))), (3, zi n)], [], m) (fun r m1 => T (D + 7) 140 (39, [(0, zr 1), (1, zi p), (2, zi n)], r.toList ++ [], m1) κ))
    (k5 : ¬ p < 0 → p < (m 17 0) → ¬ n < 1 → 20 < n → κ (some (zi (-1))) m) :
    T (D + 7) 140 (0, [(0, zr 1), (1, zi p), (2, zi n)], [], m) κ := by
  have hb2 : 0 ≤ (m 17 0) ∧ (m 17 0) ≤ 6 := hB 17 0
  have hb3 : (-1) ≤ (m 19 (p.toNat)) ∧ (m 19 (p.toNat)) ≤ 3 := hB 19 (p.toNat)
  have he0 : wr p = p := wr_id (by omega) (by omega)
  have he1 : wr (m 17 0) = (m 17 0) := wr_id (by omega) (by omega)
  have he2 : wr n = n := wr_id (by omega) (by omega)
  have key := @zb140_0r T hT D κ m p n
  simp only [he0, he1, he2, Int.toNat_natCast] at key
  exact key
    k1
    k2
    k3
    (fun x0 x1 x2 x3 => by refine ⟨?_, ?_⟩ <;> omega)
    k4
    k5
theorem zb140_39r (hT : zRules T) {D : Nat} {κ : Option zA → zM → Prop} {m : zM} {lo : zL} (hlo : z_keep [0] lo = [(0, zr 1)]) 
    (o1 : T (D + 6) 84 (0, [(0, zr 52), (1, zr 17)], [], m) (fun r m1 => T (D + 7) 140 (50, [(0, zr 1)], r.toList ++ [], m1) κ)) :
    T (D + 7) 140 (39, lo, [], m) κ :=
  zkeep hT hlo (hT.1 [] 6 (D + 7) 140 _ κ (o1))
theorem zb140_39 (hT : zRules T) {D : Nat} {κ : Option zA → zM → Prop} {m : zM} {lo : zL} (hlo : z_keep [0] lo = [(0, zr 1)])  (hB : zB m) 
    (k1 : T (D + 6) 84 (0, [(0, zr 52), (1, zr 17)], [], m) (fun r m1 => T (D + 7) 140 (50, [(0, zr 1)], r.toList ++ [], m1) κ)) :
    T (D + 7) 140 (39, lo, [], m) κ := by
  exact zb140_39r hT hlo
    k1
theorem zb140_50r (hT : zRules T) {D : Nat} {κ : Option zA → zM → Prop} {m : zM} {v : Int} {lo : zL} (hlo : z_keep [0] lo = [(0, zr 1)]) 
    (o1 : κ (some (zi (wr v))) (zu (zu (zu m 72 1 2) 73 0 (m 52 5)) 73 1 (m 52 6))) :
    T (D + 7) 140 (50, lo, [zi v], m) κ :=
  zkeep hT hlo (hT.1 [] 6 (D + 7) 140 _ κ (hT.1 [] 6 (D + 7) 140 (62, [(0, zr 1), (3, zi v)], [zi (m 52 5), zr 72], m) _ (hT.1 [] 6 (D + 6) 46 _ _ (And.intro trivial (hT.1 [] 6 (D + 6) 46 (10, [(0, zr 72), (1, zi (m 52 5)), (2, zi (m 52 6))], [zi 0, zr 73], (zu m 72 1 2)) _ (And.intro (And.intro (z_ixL rfl) trivial) (hT.1 [] 6 (D + 6) 46 (18, [(0, zr 72), (1, zi (m 52 5)), (2, zi (m 52 6))], [zi (m 52 6), zi 1, zr 73], (zu (zu m 72 1 2) 73 0 (m 52 5))) _ (And.intro (And.intro (z_ixL rfl) trivial) (hT.1 [] 6 (D + 7) 140 _ _ (o1))))))))))
theorem zb140_50 (hT : zRules T) {D : Nat} {κ : Option zA → zM → Prop} {m : zM} {v : Int} {lo : zL} (hlo : z_keep [0] lo = [(0, zr 1)])  (hB : zB m) (h_v : (-2147483648) ≤ v ∧ v ≤ 2147483647) 
    (k1 : zB (zu (zu (zu m 72 1 2) 73 0 (m 52 5)) 73 1 (m 52 6)) → κ (some (zi v)) (zu (zu (zu m 72 1 2) 73 0 (m 52 5)) 73 1 (m 52 6))) :
    T (D + 7) 140 (50, lo, [zi v], m) κ := by
  have hb1 : 0 ≤ (m 52 6) ∧ (m 52 6) ≤ 9 := hB 52 6
  have he0 : wr v = v := wr_id (by omega) (by omega)
  have key := @zb140_50r T hT D κ m v lo hlo
  simp only [he0, Int.toNat_natCast] at key
  exact key
    (k1  (zB_u (zB_u (zB_u hB (show 0 ≤ 2 ∧ 2 ≤ 26 from ⟨by omega, by omega⟩)) trivial) trivial))
theorem zb84_0r (hT : zRules T) {D : Nat} {κ : Option zA → zM → Prop} {m : zM} 
    (o1 : T (D + 6) 84 (7, [(0, zr 52), (1, zr 17), (2, zi (wr (m 24 0))), (3, zi 0)], [], m) κ) :
    T (D + 6) 84 (0, [(0, zr 52), (1, zr 17)], [], m) κ :=
  hT.1 [(7, [0, 1, 2, 3]), (32, [0, 1, 2, 3]), (39, [0, 1, 2, 3, 4]), (113, [0, 1, 2, 3, 4])] 6 (D + 6) 84 _ κ (hT.1 [] 6 (D + 5) 27 _ _ (And.intro (z_ixL rfl) (hT.1 [(7, [0, 1, 2, 3]), (32, [0, 1, 2, 3]), (39, [0, 1, 2, 3, 4]), (113, [0, 1, 2, 3, 4])] 6 (D + 6) 84 _ _ (o1))))
theorem zb84_0 (hT : zRules T) {D : Nat} {κ : Option zA → zM → Prop} {m : zM}  (hB : zB m) 
    (k1 : T (D + 6) 84 (7, [(0, zr 52), (1, zr 17), (2, zi (m 24 0)), (3, zi 0)], [], m) κ) :
    T (D + 6) 84 (0, [(0, zr 52), (1, zr 17)], [], m) κ := by
  have hb0 : 0 ≤ (m 24 0) ∧ (m 24 0) ≤ 9 := hB 24 0
  have he0 : wr (m 24 0) = (m 24 0) := wr_id (by omega) (by omega)
  have key := @zb84_0r T hT D κ m 
  simp only [he0, Int.toNat_natCast] at key
  exact key
    k1
theorem zb84_7r (hT : zRules T) {D : Nat} {κ : Option zA → zM → Prop} {m : zM} {h : Nat} {i : Nat} {lo : zL} (hlo : z_keep [0, 1, 2, 3] lo = [(0, zr 52), (1, zr 17), (2, zi (h : Int)), (3, zi (i : Int))]) 
    (o1 : wr (h : Int) < wr (i : Int) → T (D + 6) 84 (32, [(0, zr 52), (1, zr 17), (2, zi (h : Int)), (3, zi ((m 52 1) - 2))], [], m) κ)
    (o2 : ¬ wr (h : Int) < wr (i : Int) → (0 ≤ wr (i : Int) ∧ wr (i : Int) < 10))
    (o3 : ¬ wr (h : Int) < wr (i : Int) → T (D + 6) 84 (7, [(0, zr 52), (1, zr 17), (2, zi (h : Int)), (3, zi ((i : Int) + 1))], [], (zu m 55 ((wr (i : Int)).toNat) 0)) κ) :
    T (D + 6) 84 (7, lo, [], m) κ :=
  zkeep hT hlo (hT.1 [(7, [0, 1, 2, 3]), (32, [0, 1, 2, 3]), (39, [0, 1, 2, 3, 4]), (113, [0, 1, 2, 3, 4])] 6 (D + 6) 84 _ κ (And.intro (fun a1 => (hT.1 [(7, [0, 1, 2, 3]), (32, [0, 1, 2, 3]), (39, [0, 1, 2, 3, 4]), (113, [0, 1, 2, 3, 4])] 6 (D + 6) 84 (30, [(0, zr 52), (1, zr 17), (2, zi (h : Int)), (3, zi (i : Int))], [zi 2, zi (m 52 1)], m) _ (o1 a1))) (fun a2 => (hT.1 [(7, [0, 1, 2, 3]), (32, [0, 1, 2, 3]), (39, [0, 1, 2, 3, 4]), (113, [0, 1, 2, 3, 4])] 6 (D + 6) 84 (17, [(0, zr 52), (1, zr 17), (2, zi (h : Int)), (3, zi (i : Int))], [zi (i : Int), zr 55], m) _ (And.intro (And.intro (o2 a2) trivial) (o3 a2))))))
theorem zb84_7 (hT : zRules T) {D : Nat} {κ : Option zA → zM → Prop} {m : zM} {h : Nat} {i : Nat} {lo : zL} (hlo : z_keep [0, 1, 2, 3] lo = [(0, zr 52), (1, zr 17), (2, zi (h : Int)), (3, zi (i : Int))])  (hB : zB m) (h_h : h ≤ 9) (h_i : i ≤ 10) 
    (k1 : (h : Int) < (i : Int) → T (D + 6) 84 (32, [(0, zr 52), (1, zr 17), (2, zi (h : Int)), (3, zi ((m 52 1) - 2))], [], m) κ)
    (k2 : ¬ (h : Int) < (i : Int) → zB (zu m 55 i 0) → T (D + 6) 84 (7, [(0, zr 52), (1, zr 17), (2, zi (h : Int)), (3, zi ((i : Int) + 1))], [], (zu m 55 i 0)) κ) :
    T (D + 6) 84 (7, lo, [], m) κ := by
  have hb2 : 0 ≤ (m 52 1) ∧ (m 52 1) ≤ 60 := hB 52 1
  have he0 : wr (h : Int) = (h : Int) := wr_id (by omega) (by omega)
  have he1 : wr (i : Int) = (i : Int) := wr_id (by omega) (by omega)
  have he2 : (i : Int).toNat = i := by omega
  have key := @zb84_7r T hT D κ m h i lo hlo
  simp only [he0, he1, he2, Int.toNat_natCast] at key
  exact key
    k1
    (fun x0 => by refine ⟨?_, ?_⟩ <;> omega)
    (fun x0 => k2 x0 (zB_u hB trivial))
theorem zb84_32r (hT : zRules T) {D : Nat} {κ : Option zA → zM → Prop} {m : zM} {h : Nat} {i : Int} {lo : zL} (hlo : z_keep [0, 1, 2, 3] lo = [(0, zr 52), (1, zr 17), (2, zi (h : Int)), (3, zi i)]) 
    (o1 : wr i < 0 → T (D + 6) 84 (113, [(0, zr 52), (1, zr 17), (2, zi (h : Int)), (3, zi 0), (4, zi 0)], [], m) κ)
    (o2 : ¬ wr i < 0 → T (D + 6) 84 (39, [(0, zr 52), (1, zr 17), (2, zi (h : Int)), (3, zi i), (4, zi 0)], [], m) κ) :
    T (D + 6) 84 (32, lo, [], m) κ :=
  zkeep hT hlo (hT.1 [(7, [0, 1, 2, 3]), (32, [0, 1, 2, 3]), (39, [0, 1, 2, 3, 4]), (113, [0, 1, 2, 3, 4])] 6 (D + 6) 84 _ κ (And.intro (fun a1 => (o1 a1)) (fun a2 => (o2 a2))))
theorem zb84_32 (hT : zRules T) {D : Nat} {κ : Option zA → zM → Prop} {m : zM} {h : Nat} {i : Int} {lo : zL} (hlo : z_keep [0, 1, 2, 3] lo = [(0, zr 52), (1, zr 17), (2, zi (h : Int)), (3, zi i)])  (hB : zB m) (h_h : h ≤ 9) (h_i : (-2) ≤ i ∧ i ≤ 58) 
    (k1 : i < 0 → T (D + 6) 84 (113, [(0, zr 52), (1, zr 17), (2, zi (h : Int)), (3, zi 0), (4, zi 0)], [], m) κ)
    (k2 : ¬ i < 0 → T (D + 6) 84 (39, [(0, zr 52), (1, zr 17), (2, zi (h : Int)), (3, zi i), (4, zi 0)], [], m) κ) :
    T (D + 6) 84 (32, lo, [], m) κ := by
  have he0 : wr i = i := wr_id (by omega) (by omega)
  have key := @zb84_32r T hT D κ m h i lo hlo
  simp only [he0, Int.toNat_natCast] at key
  exact key
    k1
    k2
theorem zb84_39r (hT : zRules T) {D : Nat} {κ : Option zA → zM → Prop} {m : zM} {h : Nat} {i : Nat} {k : Nat} {lo : zL} (hlo : z_keep [0, 1, 2, 3, 4] lo = [(0, zr 52), (1, zr 17), (2, zi (h : Int)), (3, zi (i : Int)), (4, zi (k : Int))]) 
    (o1 : wr (h : Int) < wr (k : Int) → ((0 : Int) ≤ 0 ∧ (0 : Int) ≤ 0 ∧ (0 : Int) ≤ wr ((h : Int) + 1) ∧ 0 + wr ((h : Int) + 1) ≤ 10 ∧ 0 + wr ((h : Int) + 1) ≤ 10))
    (o2 : wr (h : Int) < wr (k : Int) → T (D + 6) 84 (32, [(0, zr 52), (1, zr 17), (2, zi (h : Int)), (3, zi ((i : Int) + (-1)))], [], (z_cp m 56 55 0 0 ((wr ((h : Int) + 1)).toNat))) κ)
    (o3 : ¬ wr (h : Int) < wr (k : Int) → (0 ≤ wr (i : Int) ∧ wr (i : Int) < 60))
    (o4 : ¬ wr (h : Int) < wr (k : Int) → (0 ≤ wr (i : Int) ∧ wr (i : Int) < 60))
    (o5 : ¬ wr (h : Int) < wr (k : Int) → (0 ≤ wr ((i : Int) + 1) ∧ wr ((i : Int) + 1) < 60))
    (o6 : ¬ wr (h : Int) < wr (k : Int) → T (D + 5) 86 (0, [(0, zr 52), (1, zr 17), (2, zi (m 53 ((wr (i : Int)).toNat))), (3, zi ((m 53 ((wr (i : Int)).toNat)) + (k : Int))), (4, zi (m 53 ((wr ((i : Int) + 1)).toNat)))], [], m) (fun r m1 => T (D + 6) 84 (79, [(0, zr 52), (1, zr 17), (2, zi (h : Int)), (3, zi (i : Int)), (4, zi (k : Int))], r.toList ++ [zi (k : Int), zr 56], m1) κ)) :
    T (D + 6) 84 (39, lo, [], m) κ :=
  zkeep hT hlo (hT.1 [(7, [0, 1, 2, 3]), (32, [0, 1, 2, 3]), (39, [0, 1, 2, 3, 4]), (113, [0, 1, 2, 3, 4])] 6 (D + 6) 84 _ κ (And.intro (fun a1 => (hT.1 [(7, [0, 1, 2, 3]), (32, [0, 1, 2, 3]), (39, [0, 1, 2, 3, 4]), (113, [0, 1, 2, 3, 4])] 6 (D + 6) 84 (91, [(0, zr 52), (1, zr 17), (2, zi (h : Int)), (3, zi (i : Int)), (4, zi (k : Int))], [zi 0, zr 56], m) _ (hT.1 [(7, [0, 1, 2, 3]), (32, [0, 1, 2, 3]), (39, [0, 1, 2, 3, 4]), (113, [0, 1, 2, 3, 4])] 6 (D + 6) 84 (99, [(0, zr 52), (1, zr 17), (2, zi (h : Int)), (3, zi (i : Int)), (4, zi (k : Int))], [zi ((h : Int) + 1), zi 0, zr 55, zi 0, zr 56], m) _ (And.intro (o1 a1) (o2 a1))))) (fun a2 => (hT.1 [(7, [0, 1, 2, 3]), (32, [0, 1, 2, 3]), (39, [0, 1, 2, 3, 4]), (113, [0, 1, 2, 3, 4])] 6 (D + 6) 84 (51, [(0, zr 52), (1, zr 17), (2, zi (h : Int)), (3, zi (i : Int)), (4, zi (k : Int))], [zi (k : Int), zr 56], m) _ (And.intro (o3 a2) (hT.1 [(7, [0, 1, 2, 3]), (32, [0, 1, 2, 3]), (39, [0, 1, 2, 3, 4]), (113, [0, 1, 2, 3, 4])] 6 (D + 6) 84 (59, [(0, zr 52), (1, zr 17), (2, zi (h : Int)), (3, zi (i : Int)), (4, zi (k : Int))], [zi (m 53 ((wr (i : Int)).toNat)), zr 17, zr 52, zi (k : Int), zr 56], m) _ (And.intro (o4 a2) (hT.1 [(7, [0, 1, 2, 3]), (32, [0, 1, 2, 3]), (39, [0, 1, 2, 3, 4]), (113, [0, 1, 2, 3, 4])] 6 (D + 6) 84 (68, [(0, zr 52), (1, zr 17), (2, zi (h : Int)), (3, zi (i : Int)), (4, zi (k : Int))], [zi ((m 53 ((wr (i : Int)).toNat)) + (k : Int)), zi (m 53 ((wr (i : Int)).toNat)), zr 17, zr 52, zi (k : Int), zr 56], m) _ (And.intro (o5 a2) (hT.1 [(7, [0, 1, 2, 3]), (32, [0, 1, 2, 3]), (39, [0, 1, 2, 3, 4]), (113, [0, 1, 2, 3, 4])] 6 (D + 6) 84 (76, [(0, zr 52), (1, zr 17), (2, zi (h : Int)), (3, zi (i : Int)), (4, zi (k : Int))], [zi (m 53 ((wr ((i : Int) + 1)).toNat)), zi ((m 53 ((wr (i : Int)).toNat)) + (k : Int)), zi (m 53 ((wr (i : Int)).toNat)), zr 17, zr 52, zi (k : Int), zr 56], m) _ (o6 a2)))))))))))
theorem zb84_39 (hT : zRules T) {D : Nat} {κ : Option zA → zM → Prop} {m : zM} {h : Nat} {i : Nat} {k : Nat} {lo : zL} (hlo : z_keep [0, 1, 2, 3, 4] lo = [(0, zr 52), (1, zr 17), (2, zi (h : Int)), (3, zi (i : Int)), (4, zi (k : Int))])  (hB : zB m) (h_h : h ≤ 9) (h_i : i ≤ 58) (h_k : k ≤ 10) 
    (k1 : (h : Int) < (k : Int) → zB (z_cp m 56 55 0 0 (h + 1)) → T (D + 6) 84 (32, [(0, zr 52), (1, zr 17), (2, zi (h : Int)), (3, zi ((i : Int) + (-1)))], [], (z_cp m 56 55 0 0 (h + 1))) κ)
    (k2 : ¬ (h : Int) < (k : Int) → T (D + 5) 86 (0, [(0, zr 52), (1, zr 17), (2, zi (m 53 i)), (3, zi ((m 53 i) + (k : Int))), (4, zi (m 53 (i + 1)))], [], m) (fun r m1 => T (D + 6) 84 (79, [(0, zr 52), (1, zr 17), (2, zi (h : Int)), (3, zi (i : Int)), (4, zi (k : Int))], r.toList ++ [zi (k : Int), zr 56], m1) κ)) :
    T (D + 6) 84 (39, lo, [], m) κ := by
  have hb3 : 0 ≤ (m 53 i) ∧ (m 53 i) ≤ 99 := hB 53 i
  have hb4 : 0 ≤ (m 53 (i + 1)) ∧ (m 53 (i + 1)) ≤ 99 := hB 53 (i + 1)
  have he0 : wr (h : Int) = (h : Int) := wr_id (by omega) (by omega)
  have he1 : wr (k : Int) = (k : Int) := wr_id (by omega) (by omega)
  have he2 : wr ((h : Int) + 1) = ((h : Int) + 1) := wr_id (by omega) (by omega)
  have he3 : ((h : Int) + 1).toNat = h + 1 := by omega
  have he4 : wr (i : Int) = (i : Int) := wr_id (by omega) (by omega)
  have he5 : (i : Int).toNat = i := by omega
  have he6 : wr ((i : Int) + 1) = ((i : Int) + 1) := wr_id (by omega) (by omega)
  have he7 : ((i : Int) + 1).toNat = i + 1 := by omega
  have key := @zb84_39r T hT D κ m h i k lo hlo
  simp only [he0, he1, he2, he3, he4, he5, he6, he7, Int.toNat_natCast] at key
  exact key
    (fun x0 => by refine ⟨?_, ?_, ?_, ?_, ?_⟩ <;> omega)
    (fun x0 => k1 x0 (zB_cp hB (fun _ _ _ => trivial)))
    (fun x0 => by refine ⟨?_, ?_⟩ <;> omega)
    (fun x0 => by refine ⟨?_, ?_⟩ <;> omega)
    (fun x0 => by refine ⟨?_, ?_⟩ <;> omega)
    k2
theorem zb84_79r (hT : zRules T) {D : Nat} {κ : Option zA → zM → Prop} {m : zM} {h : Nat} {i : Nat} {k : Nat} {v : Int} {lo : zL} (hlo : z_keep [0, 1, 2, 3, 4] lo = [(0, zr 52), (1, zr 17), (2, zi (h : Int)), (3, zi (i : Int)), (4, zi (k : Int))]) 
    (o1 : (0 ≤ wr (k : Int) ∧ wr (k : Int) < 10))
    (o2 : T (D + 6) 84 (39, [(0, zr 52), (1, zr 17), (2, zi (h : Int)), (3, zi (i : Int)), (4, zi ((k : Int) + 1))], [], (zu m 56 ((wr (k : Int)).toNat) v)) κ) :
    T (D + 6) 84 (79, lo, [zi v, zi (k : Int), zr 56], m) κ :=
  zkeep hT hlo (hT.1 [(7, [0, 1, 2, 3]), (32, [0, 1, 2, 3]), (39, [0, 1, 2, 3, 4]), (113, [0, 1, 2, 3, 4])] 6 (D + 6) 84 _ κ (And.intro (And.intro (o1) trivial) (o2)))
theorem zb84_79 (hT : zRules T) {D : Nat} {κ : Option zA → zM → Prop} {m : zM} {h : Nat} {i : Nat} {k : Nat} {v : Int} {lo : zL} (hlo : z_keep [0, 1, 2, 3, 4] lo = [(0, zr 52), (1, zr 17), (2, zi (h : Int)), (3, zi (i : Int)), (4, zi (k : Int))])  (hB : zB m) (h_h : h ≤ 9) (h_i : i ≤ 58) (h_k : k ≤ 9) (h_v : (-2147483648) ≤ v ∧ v ≤ 2147483647) 
    (k1 : zB (zu m 56 k v) → T (D + 6) 84 (39, [(0, zr 52), (1, zr 17), (2, zi (h : Int)), (3, zi (i : Int)), (4, zi ((k : Int) + 1))], [], (zu m 56 k v)) κ) :
    T (D + 6) 84 (79, lo, [zi v, zi (k : Int), zr 56], m) κ := by
  have he0 : wr (k : Int) = (k : Int) := wr_id (by omega) (by omega)
  have he1 : (k : Int).toNat = k := by omega
  have key := @zb84_79r T hT D κ m h i k v lo hlo
  simp only [he0, he1, Int.toNat_natCast] at key
  exact key
    (by refine ⟨?_, ?_⟩ <;> omega)
    (k1  (zB_u hB trivial))
theorem zb84_113r (hT : zRules T) {D : Nat} {κ : Option zA → zM → Prop} {m : zM} {h : Nat} {b : Int} {k : Nat} {lo : zL} (hlo : z_keep [0, 1, 2, 3, 4] lo = [(0, zr 52), (1, zr 17), (2, zi (h : Int)), (3, zi b), (4, zi (k : Int))]) 
    (o1 : wr (h : Int) < wr (k : Int) → κ (some (zi (wr (Int.tdiv (wr b) 4096)))) (zu m 52 5 (Int.tmod (wr b) 4096)))
    (o2 : ¬ wr (h : Int) < wr (k : Int) → (0 ≤ wr (k : Int) ∧ wr (k : Int) < 10))
    (o3 : ¬ wr (h : Int) < wr (k : Int) → wr (k : Int) = 0 → T (D + 6) 84 (113, [(0, zr 52), (1, zr 17), (2, zi (h : Int)), (3, zi ((m 55 ((wr (k : Int)).toNat)) + wr ((wr ((((m 53 0) + (k : Int)) * (m 24 1)) + (0 * (m 24 2))) * 4096) + ((m 53 0) + (k : Int))))), (4, zi ((k : Int) + 1))], [], (zu m 52 6 (k : Int))) κ)
    (o4 : ¬ wr (h : Int) < wr (k : Int) → ¬ wr (k : Int) = 0 → ¬ wr ((m 55 ((wr (k : Int)).toNat)) + wr ((wr ((((m 53 0) + (k : Int)) * (m 24 1)) + (0 * (m 24 2))) * 4096) + ((m 53 0) + (k : Int)))) < wr b → T (D + 6) 84 (113, [(0, zr 52), (1, zr 17), (2, zi (h : Int)), (3, zi b), (4, zi ((k : Int) + 1))], [], m) κ)
    (o5 : ¬ wr (h : Int) < wr (k : Int) → ¬ wr (k : Int) = 0 → wr ((m 55 ((wr (k : Int)).toNat)) + wr ((wr ((((m 53 0) + (k : Int)) * (m 24 1)) + (0 * (m 24 2))) * 4096) + ((m 53 0) + (k : Int)))) < wr b → T (D + 6) 84 (113, [(0, zr 52), (1, zr 17), (2, zi (h : Int)), (3, zi ((m 55 ((wr (k : Int)).toNat)) + wr ((wr ((((m 53 0) + (k : Int)) * (m 24 1)) + (0 * (m 24 2))) * 4096) + ((m 53 0) + (k : Int))))), (4, zi ((k : Int) + 1))], [], (zu m 52 6 (k : Int))) κ) :
    T (D + 6) 84 (113, lo, [], m) κ :=
  zkeep hT hlo (hT.1 [(7, [0, 1, 2, 3]), (32, [0, 1, 2, 3]), (39, [0, 1, 2, 3, 4]), (113, [0, 1, 2, 3, 4])] 6 (D + 6) 84 _ κ (And.intro (fun a1 => (hT.1 [(7, [0, 1, 2, 3]), (32, [0, 1, 2, 3]), (39, [0, 1, 2, 3, 4]), (113, [0, 1, 2, 3, 4])] 6 (D + 6) 84 (174, [(0, zr 52), (1, zr 17), (2, zi (h : Int)), (3, zi b), (4, zi (k : Int))], [zi 4096, zi b, zr 52], m) _ (And.intro (z_neL rfl) (And.intro trivial (And.intro (z_neL rfl) (o1 a1)))))) (fun a2 => (hT.1 [(7, [0, 1, 2, 3]), (32, [0, 1, 2, 3]), (39, [0, 1, 2, 3, 4]), (113, [0, 1, 2, 3, 4])] 6 (D + 6) 84 (125, [(0, zr 52), (1, zr 17), (2, zi (h : Int)), (3, zi b), (4, zi (k : Int))], [zi (k : Int), zr 55], m) _ (And.intro (o2 a2) (And.intro (z_ixL rfl) (hT.1 [(7, [0, 1, 2, 3]), (32, [0, 1, 2, 3]), (39, [0, 1, 2, 3, 4]), (113, [0, 1, 2, 3, 4])] 6 (D + 6) 84 (133, [(0, zr 52), (1, zr 17), (2, zi (h : Int)), (3, zi b), (4, zi (k : Int))], [zi (m 53 0), zr 17, zi (m 55 ((wr (k : Int)).toNat))], m) _ (hT.1 [] 6 (D + 5) 85 _ _ (hT.1 [] 6 (D + 4) 33 _ _ (And.intro (z_ixL rfl) (hT.1 [] 6 (D + 4) 33 (8, [(0, zr 17), (1, zi ((m 53 0) + (k : Int))), (2, zi 0)], [zi (((m 53 0) + (k : Int)) * (m 24 1))], m) _ (And.intro (z_ixL rfl) (hT.1 [] 6 (D + 4) 33 (16, [(0, zr 17), (1, zi ((m 53 0) + (k : Int))), (2, zi 0)], [zi (0 * (m 24 2)), zi (((m 53 0) + (k : Int)) * (m 24 1))], m) _ (hT.1 [] 6 (D + 5) 85 _ _ (hT.1 [(7, [0, 1, 2, 3]), (32, [0, 1, 2, 3]), (39, [0, 1, 2, 3, 4]), (113, [0, 1, 2, 3, 4])] 6 (D + 6) 84 _ _ (And.intro (fun a3 => (hT.1 [(7, [0, 1, 2, 3]), (32, [0, 1, 2, 3]), (39, [0, 1, 2, 3, 4]), (113, [0, 1, 2, 3, 4])] 6 (D + 6) 84 (157, [(0, zr 52), (1, zr 17), (2, zi (h : Int)), (3, zi ((m 55 ((wr (k : Int)).toNat)) + wr ((wr ((((m 53 0) + (k : Int)) * (m 24 1)) + (0 * (m 24 2))) * 4096) + ((m 53 0) + (k : Int))))), (4, zi (k : Int)), (5, zi ((m 55 ((wr (k : Int)).toNat)) + wr ((wr ((((m 53 0) + (k : Int)) * (m 24 1)) + (0 * (m 24 2))) * 4096) + ((m 53 0) + (k : Int)))))], [], m) _ (And.intro trivial (o3 a2 a3)))) (fun a4 => (hT.1 [(7, [0, 1, 2, 3]), (32, [0, 1, 2, 3]), (39, [0, 1, 2, 3, 4]), (113, [0, 1, 2, 3, 4])] 6 (D + 6) 84 (151, [(0, zr 52), (1, zr 17), (2, zi (h : Int)), (3, zi b), (4, zi (k : Int)), (5, zi ((m 55 ((wr (k : Int)).toNat)) + wr ((wr ((((m 53 0) + (k : Int)) * (m 24 1)) + (0 * (m 24 2))) * 4096) + ((m 53 0) + (k : Int)))))], [zi b, zi ((m 55 ((wr (k : Int)).toNat)) + wr ((wr ((((m 53 0) + (k : Int)) * (m 24 1)) + (0 * (m 24 2))) * 4096) + ((m 53 0) + (k : Int))))], m) _ (And.intro (fun a5 => (o4 a2 a4 a5)) (fun a6 => (And.intro trivial (hT.1 [(7, [0, 1, 2, 3]), (32, [0, 1, 2, 3]), (39, [0, 1, 2, 3, 4]), (113, [0, 1, 2, 3, 4])] 6 (D + 6) 84 (163, [(0, zr 52), (1, zr 17), (2, zi (h : Int)), (3, zi ((m 55 ((wr (k : Int)).toNat)) + wr ((wr ((((m 53 0) + (k : Int)) * (m 24 1)) + (0 * (m 24 2))) * 4096) + ((m 53 0) + (k : Int))))), (4, zi (k : Int)), (5, zi ((m 55 ((wr (k : Int)).toNat)) + wr ((wr ((((m 53 0) + (k : Int)) * (m 24 1)) + (0 * (m 24 2))) * 4096) + ((m 53 0) + (k : Int)))))], [], (zu m 52 6 (k : Int))) _ (o5 a2 a4 (Classical.byContradiction a6))))))))))))))))))))))))
theorem zb84_113 (hT : zRules T) {D : Nat} {κ : Option zA → zM → Prop} {m : zM} {h : Nat} {b : Int} {k : Nat} {lo : zL} (hlo : z_keep [0, 1, 2, 3, 4] lo = [(0, zr 52), (1, zr 17), (2, zi (h : Int)), (3, zi b), (4, zi (k : Int))])  (hB : zB m) (h_h : h ≤ 9) (h_b : (-2147483648) ≤ b ∧ b ≤ 2147483647) (h_k : k ≤ 10) 
    (k1 : (h : Int) < (k : Int) → zB (zu m 52 5 (Int.tmod b 4096)) → κ (some (zi (wr (Int.tdiv b 4096)))) (zu m 52 5 (Int.tmod b 4096)))
    (k2 : ¬ (h : Int) < (k : Int) → (k : Int) = 0 → zB (zu m 52 6 (k : Int)) → T (D + 6) 84 (113, [(0, zr 52), (1, zr 17), (2, zi (h : Int)), (3, zi ((m 55 k) + ((((((m 53 0) + (k : Int)) * (m 24 1)) + (0 * (m 24 2))) * 4096) + ((m 53 0) + (k : Int))))), (4, zi ((k : Int) + 1))], [], (zu m 52 6 (k : Int))) κ)
    (k3 : ¬ (h : Int) < (k : Int) → ¬ (k : Int) = 0 → ¬ wr ((m 55 k) + ((((((m 53 0) + (k : Int)) * (m 24 1)) + (0 * (m 24 2))) * 4096) + ((m 53 0) + (k : Int)))) < b → T (D + 6) 84 (113, [(0, zr 52), (1, zr 17), (2, zi (h : Int)), (3, zi b), (4, zi ((k : Int) + 1))], [], m) κ)
    (k4 : ¬ (h : Int) < (k : Int) → ¬ (k : Int) = 0 → wr ((m 55 k) + ((((((m 53 0) + (k : Int)) * (m 24 1)) + (0 * (m 24 2))) * 4096) + ((m 53 0) + (k : Int)))) < b → zB (zu m 52 6 (k : Int)) → T (D + 6) 84 (113, [(0, zr 52), (1, zr 17), (2, zi (h : Int)), (3, zi ((m 55 k) + ((((((m 53 0) + (k : Int)) * (m 24 1)) + (0 * (m 24 2))) * 4096) + ((m 53 0) + (k : Int))))), (4, zi ((k : Int) + 1))], [], (zu m 52 6 (k : Int))) κ) :
    T (D + 6) 84 (113, lo, [], m) κ := by
  have hb3 : (-2147483648) ≤ wr (Int.tdiv b 4096) ∧ wr (Int.tdiv b 4096) ≤ 2147483647 := wrB (Int.tdiv b 4096)
  have hb4 : 0 ≤ (m 53 0) ∧ (m 53 0) ≤ 99 := hB 53 0
  have hb5 : 0 ≤ (m 24 1) ∧ (m 24 1) ≤ 9 := hB 24 1
  have hb6 : 0 ≤ (((m 53 0) + (k : Int)) * (m 24 1)) ∧ (((m 53 0) + (k : Int)) * (m 24 1)) ≤ 981 := z_mulB ((m 53 0) + (k : Int)) (m 24 1) 109 9 981 (by omega) (by omega) (by omega) (by omega) rfl
  have hb7 : 0 ≤ (m 24 2) ∧ (m 24 2) ≤ 9 := hB 24 2
  have hb8 : (-2147483648) ≤ wr ((m 55 k) + ((((((m 53 0) + (k : Int)) * (m 24 1)) + (0 * (m 24 2))) * 4096) + ((m 53 0) + (k : Int)))) ∧ wr ((m 55 k) + ((((((m 53 0) + (k : Int)) * (m 24 1)) + (0 * (m 24 2))) * 4096) + ((m 53 0) + (k : Int)))) ≤ 2147483647 := wrB ((m 55 k) + ((((((m 53 0) + (k : Int)) * (m 24 1)) + (0 * (m 24 2))) * 4096) + ((m 53 0) + (k : Int))))
  have he0 : wr (h : Int) = (h : Int) := wr_id (by omega) (by omega)
  have he1 : wr (k : Int) = (k : Int) := wr_id (by omega) (by omega)
  have he2 : wr b = b := wr_id (by omega) (by omega)
  have he3 : (k : Int).toNat = k := by omega
  have he4 : wr ((((m 53 0) + (k : Int)) * (m 24 1)) + (0 * (m 24 2))) = ((((m 53 0) + (k : Int)) * (m 24 1)) + (0 * (m 24 2))) := wr_id (by omega) (by omega)
  have he5 : wr ((((((m 53 0) + (k : Int)) * (m 24 1)) + (0 * (m 24 2))) * 4096) + ((m 53 0) + (k : Int))) = ((((((m 53 0) + (k : Int)) * (m 24 1)) + (0 * (m 24 2))) * 4096) + ((m 53 0) + (k : Int))) := wr_id (by omega) (by omega)
  have key := @zb84_113r T hT D κ m h b k lo hlo
  simp only [he0, he1, he2, he3, he4, he5, Int.toNat_natCast] at key
  exact key
    (fun x0 => k1 x0 (zB_u hB trivial))
    (fun x0 => by refine ⟨?_, ?_⟩ <;> omega)
    (fun x0 x1 => k2 x0 x1 (zB_u hB (show 0 ≤ (k : Int) ∧ (k : Int) ≤ 9 from ⟨by omega, by omega⟩)))
    k3
    (fun x0 x1 x2 => k4 x0 x1 x2 (zB_u hB (show 0 ≤ (k : Int) ∧ (k : Int) ≤ 9 from ⟨by omega, by omega⟩)))
theorem zb86_0r (hT : zRules T) {D : Nat} {κ : Option zA → zM → Prop} {m : zM} {a : Int} {l : Int} {x : Int} 
    (o1 : ¬ wr a = wr x → ¬ wr l < wr x → wr (x + wr (m 24 0)) < wr l → T (D + 5) 86 (56, [(0, zr 52), (1, zr 17), (3, zi l), (4, zi x), (5, zi 2), (7, zi 0), (8, zi 0)], [], m) κ)
    (o2 : ¬ wr a = wr x → ¬ wr l < wr x → ¬ wr (x + wr (m 24 0)) < wr l → wr (l - x) < 0 → False)
    (o3 : ¬ wr a = wr x → ¬ wr l < wr x → ¬ wr (x + wr (m 24 0)) < wr l → ¬ wr (l - x) < 0 → 9 < wr (l - x) → False)
    (o4 : ¬ wr a = wr x → ¬ wr l < wr x → ¬ wr (x + wr (m 24 0)) < wr l → ¬ wr (l - x) < 0 → ¬ 9 < wr (l - x) → (0 ≤ wr (l - x) ∧ wr (l - x) < 10))
    (o5 : ¬ wr a = wr x → ¬ wr l < wr x → ¬ wr (x + wr (m 24 0)) < wr l → ¬ wr (l - x) < 0 → ¬ 9 < wr (l - x) → κ (some (zi (wr ((m 55 ((wr (l - x)).toNat)) + wr ((wr ((0 * (m 24 1)) + (1 * (m 24 2))) * 4096) + 0))))) m)
    (o6 : ¬ wr a = wr x → wr l < wr x → T (D + 5) 86 (56, [(0, zr 52), (1, zr 17), (3, zi l), (4, zi x), (5, zi 3), (7, zi 0), (8, zi 0)], [], m) κ)
    (o7 : wr a = wr x → wr (l - x) < 0 → T (D + 5) 86 (56, [(0, zr 52), (1, zr 17), (3, zi l), (4, zi x), (5, zi 0), (7, zi 0), (8, zi 0)], [], m) κ)
    (o8 : wr a = wr x → ¬ wr (l - x) < 0 → 9 < wr (l - x) → T (D + 5) 86 (56, [(0, zr 52), (1, zr 17), (3, zi l), (4, zi x), (5, zi 0), (7, zi 0), (8, zi 0)], [], m) κ)
    (o9 : wr a = wr x → ¬ wr (l - x) < 0 → ¬ 9 < wr (l - x) → (0 ≤ wr (l - x) ∧ wr (l - x) < 10))
    (o10 : wr a = wr x → ¬ wr (l - x) < 0 → ¬ 9 < wr (l - x) → κ (some (zi (wr ((m 55 ((wr (l - x)).toNat)) + wr ((wr ((0 * (m 24 1)) + (0 * (m 24 2))) * 4096) + 0))))) m) :
    T (D + 5) 86 (0, [(0, zr 52), (1, zr 17), (2, zi a), (3, zi l), (4, zi x)], [], m) κ :=
  hT.1 [(56, [0, 1, 3, 4, 5, 7, 8])] 6 (D + 5) 86 _ κ (hT.1 [] 6 (D + 4) 32 _ _ (And.intro (fun a1 => (And.intro (fun a3 => (hT.1 [] 6 (D + 4) 32 (14, [(0, zr 17), (1, zi a), (2, zi l), (3, zi x)], [], m) _ (hT.1 [] 6 (D + 3) 27 _ _ (And.intro (z_ixL rfl) (hT.1 [] 6 (D + 4) 32 _ _ (And.intro (fun a5 => (hT.1 [(56, [0, 1, 3, 4, 5, 7, 8])] 6 (D + 5) 86 _ _ (hT.1 [(56, [0, 1, 3, 4, 5, 7, 8])] 6 (D + 5) 86 (18, [(0, zr 52), (1, zr 17), (2, zi a), (3, zi l), (4, zi x), (5, zi 2), (6, zi (l - x))], [zi 2], m) _ (And.intro (fun _ => (o1 a1 a3 a5)) (fun a7 => (a7 (z_litT rfl)).elim))))) (fun a6 => (hT.1 [(56, [0, 1, 3, 4, 5, 7, 8])] 6 (D + 5) 86 _ _ (hT.1 [(56, [0, 1, 3, 4, 5, 7, 8])] 6 (D + 5) 86 (18, [(0, zr 52), (1, zr 17), (2, zi a), (3, zi l), (4, zi x), (5, zi 1), (6, zi (l - x))], [zi 1], m) _ (And.intro (fun a8 => (z_litF a8 rfl).elim) (fun _ => (And.intro (fun a9 => (o2 a1 a3 a6 a9).elim) (fun a10 => (hT.1 [(56, [0, 1, 3, 4, 5, 7, 8])] 6 (D + 5) 86 (31, [(0, zr 52), (1, zr 17), (2, zi a), (3, zi l), (4, zi x), (5, zi 1), (6, zi (l - x))], [zi 9, zi (l - x)], m) _ (And.intro (fun a11 => (o3 a1 a3 a6 a10 a11).elim) (fun a12 => (And.intro (o4 a1 a3 a6 a10 a12) (hT.1 [(56, [0, 1, 3, 4, 5, 7, 8])] 6 (D + 5) 86 (42, [(0, zr 52), (1, zr 17), (2, zi a), (3, zi l), (4, zi x), (5, zi 1), (6, zi (l - x))], [zr 17, zi (m 55 ((wr (l - x)).toNat))], m) _ (hT.1 [] 6 (D + 4) 85 _ _ (hT.1 [] 6 (D + 3) 33 _ _ (And.intro (z_ixL rfl) (hT.1 [] 6 (D + 3) 33 (8, [(0, zr 17), (1, zi 0), (2, zi 1)], [zi (0 * (m 24 1))], m) _ (And.intro (z_ixL rfl) (hT.1 [] 6 (D + 3) 33 (16, [(0, zr 17), (1, zi 0), (2, zi 1)], [zi (1 * (m 24 2)), zi (0 * (m 24 1))], m) _ (hT.1 [] 6 (D + 4) 85 _ _ (hT.1 [(56, [0, 1, 3, 4, 5, 7, 8])] 6 (D + 5) 86 _ _ (o5 a1 a3 a6 a10 a12))))))))))))))))))))))))))) (fun a4 => (hT.1 [] 6 (D + 4) 32 (12, [(0, zr 17), (1, zi a), (2, zi l), (3, zi x)], [], m) _ (hT.1 [(56, [0, 1, 3, 4, 5, 7, 8])] 6 (D + 5) 86 _ _ (hT.1 [(56, [0, 1, 3, 4, 5, 7, 8])] 6 (D + 5) 86 (18, [(0, zr 52), (1, zr 17), (2, zi a), (3, zi l), (4, zi x), (5, zi 3), (6, zi (l - x))], [zi 3], m) _ (And.intro (fun _ => (o6 a1 (Classical.byContradiction a4))) (fun a13 => (a13 (z_litT rfl)).elim)))))))) (fun a2 => (hT.1 [(56, [0, 1, 3, 4, 5, 7, 8])] 6 (D + 5) 86 _ _ (hT.1 [(56, [0, 1, 3, 4, 5, 7, 8])] 6 (D + 5) 86 (18, [(0, zr 52), (1, zr 17), (2, zi a), (3, zi l), (4, zi x), (5, zi 0), (6, zi (l - x))], [zi 0], m) _ (And.intro (fun a14 => (z_litF a14 rfl).elim) (fun _ => (And.intro (fun a15 => (hT.1 [(56, [0, 1, 3, 4, 5, 7, 8])] 6 (D + 5) 86 (53, [(0, zr 52), (1, zr 17), (2, zi a), (3, zi l), (4, zi x), (5, zi 0), (6, zi (l - x)), (7, zi 0)], [], m) _ (o7 (Classical.byContradiction a2) a15))) (fun a16 => (hT.1 [(56, [0, 1, 3, 4, 5, 7, 8])] 6 (D + 5) 86 (31, [(0, zr 52), (1, zr 17), (2, zi a), (3, zi l), (4, zi x), (5, zi 0), (6, zi (l - x))], [zi 9, zi (l - x)], m) _ (And.intro (fun a17 => (o8 (Classical.byContradiction a2) a16 a17)) (fun a18 => (And.intro (o9 (Classical.byContradiction a2) a16 a18) (hT.1 [(56, [0, 1, 3, 4, 5, 7, 8])] 6 (D + 5) 86 (42, [(0, zr 52), (1, zr 17), (2, zi a), (3, zi l), (4, zi x), (5, zi 0), (6, zi (l - x))], [zr 17, zi (m 55 ((wr (l - x)).toNat))], m) _ (hT.1 [] 6 (D + 4) 85 _ _ (hT.1 [] 6 (D + 3) 33 _ _ (And.intro (z_ixL rfl) (hT.1 [] 6 (D + 3) 33 (8, [(0, zr 17), (1, zi 0), (2, zi 0)], [zi (0 * (m 24 1))], m) _ (And.intro (z_ixL rfl) (hT.1 [] 6 (D + 3) 33 (16, [(0, zr 17), (1, zi 0), (2, zi 0)], [zi (0 * (m 24 2)), zi (0 * (m 24 1))], m) _ (hT.1 [] 6 (D + 4) 85 _ _ (hT.1 [(56, [0, 1, 3, 4, 5, 7, 8])] 6 (D + 5) 86 _ _ (o10 (Classical.byContradiction a2) a16 a18)))))))))))))))))))))))
theorem zb86_0 (hT : zRules T) {D : Nat} {κ : Option zA → zM → Prop} {m : zM} {a : Int} {l : Int} {x : Int}  (hB : zB m) (h_a : 0 ≤ a ∧ a ≤ 99) (h_l : 0 ≤ l ∧ l ≤ 108) (h_x : 0 ≤ x ∧ x ≤ 99) 
    (k1 : ¬ a = x → ¬ l < x → (x + (m 24 0)) < l → T (D + 5) 86 (56, [(0, zr 52), (1, zr 17), (3, zi l), (4, zi x), (5, zi 2), (7, zi 0), (8, zi 0)], [], m) κ)
    (k2 : ¬ a = x → ¬ l < x → ¬ (x + (m 24 0)) < l → κ (some (zi (wr ((m 55 ((l - x).toNat)) + ((((0 * (m 24 1)) + (1 * (m 24 2))) * 4096) + 0))))) m)
    (k3 : ¬ a = x → l < x → T (D + 5) 86 (56, [(0, zr 52), (1, zr 17), (3, zi l), (4, zi x), (5, zi 3), (7, zi 0), (8, zi 0)], [], m) κ)
    (k4 : a = x → (l - x) < 0 → T (D + 5) 86 (56, [(0, zr 52), (1, zr 17), (3, zi l), (4, zi x), (5, zi 0), (7, zi 0), (8, zi 0)], [], m) κ)
    (k5 : a = x → ¬ (l - x) < 0 → 9 < (l - x) → T (D + 5) 86 (56, [(0, zr 52), (1, zr 17), (3, zi l), (4, zi x), (5, zi 0), (7, zi 0), (8, zi 0)], [], m) κ)
    (k6 : a = x → ¬ (l - x) < 0 → ¬ 9 < (l - x) → κ (some (zi (wr ((m 55 ((l - x).toNat)) + ((((0 * (m 24 1)) + (0 * (m 24 2))) * 4096) + 0))))) m) :
    T (D + 5) 86 (0, [(0, zr 52), (1, zr 17), (2, zi a), (3, zi l), (4, zi x)], [], m) κ := by
  have hb3 : 0 ≤ (m 24 1) ∧ (m 24 1) ≤ 9 := hB 24 1
  have hb4 : 0 ≤ (m 24 2) ∧ (m 24 2) ≤ 9 := hB 24 2
  have hb5 : (-2147483648) ≤ wr ((m 55 ((l - x).toNat)) + ((((0 * (m 24 1)) + (0 * (m 24 2))) * 4096) + 0)) ∧ wr ((m 55 ((l - x).toNat)) + ((((0 * (m 24 1)) + (0 * (m 24 2))) * 4096) + 0)) ≤ 2147483647 := wrB ((m 55 ((l - x).toNat)) + ((((0 * (m 24 1)) + (0 * (m 24 2))) * 4096) + 0))
  have hb6 : 0 ≤ (m 24 0) ∧ (m 24 0) ≤ 9 := hB 24 0
  have hb7 : (-2147483648) ≤ wr ((m 55 ((l - x).toNat)) + ((((0 * (m 24 1)) + (1 * (m 24 2))) * 4096) + 0)) ∧ wr ((m 55 ((l - x).toNat)) + ((((0 * (m 24 1)) + (1 * (m 24 2))) * 4096) + 0)) ≤ 2147483647 := wrB ((m 55 ((l - x).toNat)) + ((((0 * (m 24 1)) + (1 * (m 24 2))) * 4096) + 0))
  have he0 : wr a = a := wr_id (by omega) (by omega)
  have he1 : wr x = x := wr_id (by omega) (by omega)
  have he2 : wr (l - x) = (l - x) := wr_id (by omega) (by omega)
  have he3 : wr ((0 * (m 24 1)) + (0 * (m 24 2))) = ((0 * (m 24 1)) + (0 * (m 24 2))) := wr_id (by omega) (by omega)
  have he4 : wr ((((0 * (m 24 1)) + (0 * (m 24 2))) * 4096) + 0) = ((((0 * (m 24 1)) + (0 * (m 24 2))) * 4096) + 0) := wr_id (by omega) (by omega)
  have he5 : wr l = l := wr_id (by omega) (by omega)
  have he6 : wr (m 24 0) = (m 24 0) := wr_id (by omega) (by omega)
  have he7 : wr (x + (m 24 0)) = (x + (m 24 0)) := wr_id (by omega) (by omega)
  have he8 : wr ((0 * (m 24 1)) + (1 * (m 24 2))) = ((0 * (m 24 1)) + (1 * (m 24 2))) := wr_id (by omega) (by omega)
  have he9 : wr ((((0 * (m 24 1)) + (1 * (m 24 2))) * 4096) + 0) = ((((0 * (m 24 1)) + (1 * (m 24 2))) * 4096) + 0) := wr_id (by omega) (by omega)
  have key := @zb86_0r T hT D κ m a l x
  simp only [he0, he1, he2, he3, he4, he5, he6, he7, he8, he9, Int.toNat_natCast] at key
  exact key
    k1
    (fun x0 x1 x2 x3 => by omega)
    (fun x0 x1 x2 x3 x4 => by omega)
    (fun x0 x1 x2 x3 x4 => by refine ⟨?_, ?_⟩ <;> omega)
    (fun x0 x1 x2 x3 x4 => k2 x0 x1 x2)
    k3
    k4
    k5
    (fun x0 x1 x2 => by refine ⟨?_, ?_⟩ <;> omega)
    k6
theorem zb86_56r (hT : zRules T) {D : Nat} {κ : Option zA → zM → Prop} {m : zM} {l : Int} {x : Int} {w : Int} {b : Int} {k : Nat} {lo : zL} (hlo : z_keep [0, 1, 3, 4, 5, 7, 8] lo = [(0, zr 52), (1, zr 17), (3, zi l), (4, zi x), (5, zi w), (7, zi b), (8, zi (k : Int))]) 
    (o1 : wr (wr (m 24 0)) < wr (k : Int) → κ (some (zi (wr b))) m)
    (o2 : ¬ wr (wr (m 24 0)) < wr (k : Int) → ¬ wr w = 3 → (0 ≤ wr (k : Int) ∧ wr (k : Int) < 10))
    (o3 : ¬ wr (wr (m 24 0)) < wr (k : Int) → ¬ wr w = 3 → wr (k : Int) = 0 → T (D + 5) 86 (56, [(0, zr 52), (1, zr 17), (3, zi l), (4, zi x), (5, zi w), (7, zi ((m 55 ((wr (k : Int)).toNat)) + wr ((wr ((0 * (m 24 1)) + (w * (m 24 2))) * 4096) + 0))), (8, zi ((k : Int) + 1))], [], m) κ)
    (o4 : ¬ wr (wr (m 24 0)) < wr (k : Int) → ¬ wr w = 3 → ¬ wr (k : Int) = 0 → ¬ wr ((m 55 ((wr (k : Int)).toNat)) + wr ((wr ((0 * (m 24 1)) + (w * (m 24 2))) * 4096) + 0)) < wr b → T (D + 5) 86 (56, [(0, zr 52), (1, zr 17), (3, zi l), (4, zi x), (5, zi w), (7, zi b), (8, zi ((k : Int) + 1))], [], m) κ)
    (o5 : ¬ wr (wr (m 24 0)) < wr (k : Int) → ¬ wr w = 3 → ¬ wr (k : Int) = 0 → wr ((m 55 ((wr (k : Int)).toNat)) + wr ((wr ((0 * (m 24 1)) + (w * (m 24 2))) * 4096) + 0)) < wr b → T (D + 5) 86 (56, [(0, zr 52), (1, zr 17), (3, zi l), (4, zi x), (5, zi w), (7, zi ((m 55 ((wr (k : Int)).toNat)) + wr ((wr ((0 * (m 24 1)) + (w * (m 24 2))) * 4096) + 0))), (8, zi ((k : Int) + 1))], [], m) κ)
    (o6 : ¬ wr (wr (m 24 0)) < wr (k : Int) → wr w = 3 → (0 ≤ wr (k : Int) ∧ wr (k : Int) < 10))
    (o7 : ¬ wr (wr (m 24 0)) < wr (k : Int) → wr w = 3 → wr (k : Int) = 0 → T (D + 5) 86 (56, [(0, zr 52), (1, zr 17), (3, zi l), (4, zi x), (5, zi w), (7, zi ((m 55 ((wr (k : Int)).toNat)) + wr ((wr ((((x - l) + (k : Int)) * (m 24 1)) + (w * (m 24 2))) * 4096) + ((x - l) + (k : Int))))), (8, zi ((k : Int) + 1))], [], m) κ)
    (o8 : ¬ wr (wr (m 24 0)) < wr (k : Int) → wr w = 3 → ¬ wr (k : Int) = 0 → ¬ wr ((m 55 ((wr (k : Int)).toNat)) + wr ((wr ((((x - l) + (k : Int)) * (m 24 1)) + (w * (m 24 2))) * 4096) + ((x - l) + (k : Int)))) < wr b → T (D + 5) 86 (56, [(0, zr 52), (1, zr 17), (3, zi l), (4, zi x), (5, zi w), (7, zi b), (8, zi ((k : Int) + 1))], [], m) κ)
    (o9 : ¬ wr (wr (m 24 0)) < wr (k : Int) → wr w = 3 → ¬ wr (k : Int) = 0 → wr ((m 55 ((wr (k : Int)).toNat)) + wr ((wr ((((x - l) + (k : Int)) * (m 24 1)) + (w * (m 24 2))) * 4096) + ((x - l) + (k : Int)))) < wr b → T (D + 5) 86 (56, [(0, zr 52), (1, zr 17), (3, zi l), (4, zi x), (5, zi w), (7, zi ((m 55 ((wr (k : Int)).toNat)) + wr ((wr ((((x - l) + (k : Int)) * (m 24 1)) + (w * (m 24 2))) * 4096) + ((x - l) + (k : Int))))), (8, zi ((k : Int) + 1))], [], m) κ) :
    T (D + 5) 86 (56, lo, [], m) κ :=
  zkeep hT hlo (hT.1 [(56, [0, 1, 3, 4, 5, 7, 8])] 6 (D + 5) 86 _ κ (hT.1 [] 6 (D + 4) 27 _ _ (And.intro (z_ixL rfl) (hT.1 [(56, [0, 1, 3, 4, 5, 7, 8])] 6 (D + 5) 86 _ _ (And.intro (fun a1 => (o1 a1)) (fun a2 => (And.intro (fun a3 => (hT.1 [(56, [0, 1, 3, 4, 5, 7, 8])] 6 (D + 5) 86 (84, [(0, zr 52), (1, zr 17), (3, zi l), (4, zi x), (5, zi w), (7, zi b), (8, zi (k : Int)), (9, zi 0)], [], m) _ (And.intro (o2 a2 a3) (hT.1 [(56, [0, 1, 3, 4, 5, 7, 8])] 6 (D + 5) 86 (94, [(0, zr 52), (1, zr 17), (3, zi l), (4, zi x), (5, zi w), (7, zi b), (8, zi (k : Int)), (9, zi 0)], [zi 0, zr 17, zi (m 55 ((wr (k : Int)).toNat))], m) _ (hT.1 [] 6 (D + 4) 85 _ _ (hT.1 [] 6 (D + 3) 33 _ _ (And.intro (z_ixL rfl) (hT.1 [] 6 (D + 3) 33 (8, [(0, zr 17), (1, zi 0), (2, zi w)], [zi (0 * (m 24 1))], m) _ (And.intro (z_ixL rfl) (hT.1 [] 6 (D + 3) 33 (16, [(0, zr 17), (1, zi 0), (2, zi w)], [zi (w * (m 24 2)), zi (0 * (m 24 1))], m) _ (hT.1 [] 6 (D + 4) 85 _ _ (hT.1 [(56, [0, 1, 3, 4, 5, 7, 8])] 6 (D + 5) 86 _ _ (And.intro (fun a5 => (hT.1 [(56, [0, 1, 3, 4, 5, 7, 8])] 6 (D + 5) 86 (118, [(0, zr 52), (1, zr 17), (3, zi l), (4, zi x), (5, zi w), (7, zi ((m 55 ((wr (k : Int)).toNat)) + wr ((wr ((0 * (m 24 1)) + (w * (m 24 2))) * 4096) + 0))), (8, zi (k : Int)), (9, zi 0), (10, zi ((m 55 ((wr (k : Int)).toNat)) + wr ((wr ((0 * (m 24 1)) + (w * (m 24 2))) * 4096) + 0)))], [], m) _ (o3 a2 a3 a5))) (fun a6 => (hT.1 [(56, [0, 1, 3, 4, 5, 7, 8])] 6 (D + 5) 86 (111, [(0, zr 52), (1, zr 17), (3, zi l), (4, zi x), (5, zi w), (7, zi b), (8, zi (k : Int)), (9, zi 0), (10, zi ((m 55 ((wr (k : Int)).toNat)) + wr ((wr ((0 * (m 24 1)) + (w * (m 24 2))) * 4096) + 0)))], [zi b, zi ((m 55 ((wr (k : Int)).toNat)) + wr ((wr ((0 * (m 24 1)) + (w * (m 24 2))) * 4096) + 0))], m) _ (And.intro (fun a7 => (o4 a2 a3 a6 a7)) (fun a8 => (o5 a2 a3 a6 (Classical.byContradiction a8))))))))))))))))))) (fun a4 => (hT.1 [(56, [0, 1, 3, 4, 5, 7, 8])] 6 (D + 5) 86 (74, [(0, zr 52), (1, zr 17), (3, zi l), (4, zi x), (5, zi w), (7, zi b), (8, zi (k : Int))], [zi l, zi x], m) _ (hT.1 [(56, [0, 1, 3, 4, 5, 7, 8])] 6 (D + 5) 86 (85, [(0, zr 52), (1, zr 17), (3, zi l), (4, zi x), (5, zi w), (7, zi b), (8, zi (k : Int)), (9, zi ((x - l) + (k : Int)))], [zr 52], m) _ (And.intro (o6 a2 (Classical.byContradiction a4)) (hT.1 [(56, [0, 1, 3, 4, 5, 7, 8])] 6 (D + 5) 86 (96, [(0, zr 52), (1, zr 17), (3, zi l), (4, zi x), (5, zi w), (7, zi b), (8, zi (k : Int)), (9, zi ((x - l) + (k : Int)))], [zi w, zi ((x - l) + (k : Int)), zr 17, zi (m 55 ((wr (k : Int)).toNat))], m) _ (hT.1 [] 6 (D + 4) 85 _ _ (hT.1 [] 6 (D + 3) 33 _ _ (And.intro (z_ixL rfl) (hT.1 [] 6 (D + 3) 33 (8, [(0, zr 17), (1, zi ((x - l) + (k : Int))), (2, zi w)], [zi (((x - l) + (k : Int)) * (m 24 1))], m) _ (And.intro (z_ixL rfl) (hT.1 [] 6 (D + 3) 33 (16, [(0, zr 17), (1, zi ((x - l) + (k : Int))), (2, zi w)], [zi (w * (m 24 2)), zi (((x - l) + (k : Int)) * (m 24 1))], m) _ (hT.1 [] 6 (D + 4) 85 _ _ (hT.1 [(56, [0, 1, 3, 4, 5, 7, 8])] 6 (D + 5) 86 _ _ (And.intro (fun a9 => (hT.1 [(56, [0, 1, 3, 4, 5, 7, 8])] 6 (D + 5) 86 (118, [(0, zr 52), (1, zr 17), (3, zi l), (4, zi x), (5, zi w), (7, zi ((m 55 ((wr (k : Int)).toNat)) + wr ((wr ((((x - l) + (k : Int)) * (m 24 1)) + (w * (m 24 2))) * 4096) + ((x - l) + (k : Int))))), (8, zi (k : Int)), (9, zi ((x - l) + (k : Int))), (10, zi ((m 55 ((wr (k : Int)).toNat)) + wr ((wr ((((x - l) + (k : Int)) * (m 24 1)) + (w * (m 24 2))) * 4096) + ((x - l) + (k : Int)))))], [], m) _ (o7 a2 (Classical.byContradiction a4) a9))) (fun a10 => (hT.1 [(56, [0, 1, 3, 4, 5, 7, 8])] 6 (D + 5) 86 (111, [(0, zr 52), (1, zr 17), (3, zi l), (4, zi x), (5, zi w), (7, zi b), (8, zi (k : Int)), (9, zi ((x - l) + (k : Int))), (10, zi ((m 55 ((wr (k : Int)).toNat)) + wr ((wr ((((x - l) + (k : Int)) * (m 24 1)) + (w * (m 24 2))) * 4096) + ((x - l) + (k : Int)))))], [zi b, zi ((m 55 ((wr (k : Int)).toNat)) + wr ((wr ((((x - l) + (k : Int)) * (m 24 1)) + (w * (m 24 2))) * 4096) + ((x - l) + (k : Int))))], m) _ (And.intro (fun a11 => (o8 a2 (Classical.byContradiction a4) a10 a11)) (fun a12 => (o9 a2 (Classical.byContradiction a4) a10 (Classical.byContradiction a12)))))))))))))))))))))))))))
theorem zb86_56 (hT : zRules T) {D : Nat} {κ : Option zA → zM → Prop} {m : zM} {l : Int} {x : Int} {w : Int} {b : Int} {k : Nat} {lo : zL} (hlo : z_keep [0, 1, 3, 4, 5, 7, 8] lo = [(0, zr 52), (1, zr 17), (3, zi l), (4, zi x), (5, zi w), (7, zi b), (8, zi (k : Int))])  (hB : zB m) (h_l : 0 ≤ l ∧ l ≤ 108) (h_x : 0 ≤ x ∧ x ≤ 99) (h_w : 0 ≤ w ∧ w ≤ 3) (h_b : (-2147483648) ≤ b ∧ b ≤ 2147483647) (h_k : k ≤ 10) 
    (k1 : (m 24 0) < (k : Int) → κ (some (zi b)) m)
    (k2 : ¬ (m 24 0) < (k : Int) → ¬ w = 3 → (k : Int) = 0 → T (D + 5) 86 (56, [(0, zr 52), (1, zr 17), (3, zi l), (4, zi x), (5, zi w), (7, zi ((m 55 k) + ((((0 * (m 24 1)) + (w * (m 24 2))) * 4096) + 0))), (8, zi ((k : Int) + 1))], [], m) κ)
    (k3 : ¬ (m 24 0) < (k : Int) → ¬ w = 3 → ¬ (k : Int) = 0 → ¬ wr ((m 55 k) + ((((0 * (m 24 1)) + (w * (m 24 2))) * 4096) + 0)) < b → T (D + 5) 86 (56, [(0, zr 52), (1, zr 17), (3, zi l), (4, zi x), (5, zi w), (7, zi b), (8, zi ((k : Int) + 1))], [], m) κ)
    (k4 : ¬ (m 24 0) < (k : Int) → ¬ w = 3 → ¬ (k : Int) = 0 → wr ((m 55 k) + ((((0 * (m 24 1)) + (w * (m 24 2))) * 4096) + 0)) < b → T (D + 5) 86 (56, [(0, zr 52), (1, zr 17), (3, zi l), (4, zi x), (5, zi w), (7, zi ((m 55 k) + ((((0 * (m 24 1)) + (w * (m 24 2))) * 4096) + 0))), (8, zi ((k : Int) + 1))], [], m) κ)
    (k5 : ¬ (m 24 0) < (k : Int) → w = 3 → (k : Int) = 0 → T (D + 5) 86 (56, [(0, zr 52), (1, zr 17), (3, zi l), (4, zi x), (5, zi w), (7, zi ((m 55 k) + wr ((wr ((((x - l) + (k : Int)) * (m 24 1)) + (w * (m 24 2))) * 4096) + ((x - l) + (k : Int))))), (8, zi ((k : Int) + 1))], [], m) κ)
    (k6 : ¬ (m 24 0) < (k : Int) → w = 3 → ¬ (k : Int) = 0 → ¬ wr ((m 55 k) + wr ((wr ((((x - l) + (k : Int)) * (m 24 1)) + (w * (m 24 2))) * 4096) + ((x - l) + (k : Int)))) < b → T (D + 5) 86 (56, [(0, zr 52), (1, zr 17), (3, zi l), (4, zi x), (5, zi w), (7, zi b), (8, zi ((k : Int) + 1))], [], m) κ)
    (k7 : ¬ (m 24 0) < (k : Int) → w = 3 → ¬ (k : Int) = 0 → wr ((m 55 k) + wr ((wr ((((x - l) + (k : Int)) * (m 24 1)) + (w * (m 24 2))) * 4096) + ((x - l) + (k : Int)))) < b → T (D + 5) 86 (56, [(0, zr 52), (1, zr 17), (3, zi l), (4, zi x), (5, zi w), (7, zi ((m 55 k) + wr ((wr ((((x - l) + (k : Int)) * (m 24 1)) + (w * (m 24 2))) * 4096) + ((x - l) + (k : Int))))), (8, zi ((k : Int) + 1))], [], m) κ) :
    T (D + 5) 86 (56, lo, [], m) κ := by
  have hb5 : 0 ≤ (m 24 0) ∧ (m 24 0) ≤ 9 := hB 24 0
  have hb6 : 0 ≤ (m 24 1) ∧ (m 24 1) ≤ 9 := hB 24 1
  have hb7 : 0 ≤ (m 24 2) ∧ (m 24 2) ≤ 9 := hB 24 2
  have hb8 : 0 ≤ (w * (m 24 2)) ∧ (w * (m 24 2)) ≤ 27 := z_mulB w (m 24 2) 3 9 27 (by omega) (by omega) (by omega) (by omega) rfl
  have hb9 : (-2147483648) ≤ wr ((((x - l) + (k : Int)) * (m 24 1)) + (w * (m 24 2))) ∧ wr ((((x - l) + (k : Int)) * (m 24 1)) + (w * (m 24 2))) ≤ 2147483647 := wrB ((((x - l) + (k : Int)) * (m 24 1)) + (w * (m 24 2)))
  have hb10 : (-2147483648) ≤ wr ((wr ((((x - l) + (k : Int)) * (m 24 1)) + (w * (m 24 2))) * 4096) + ((x - l) + (k : Int))) ∧ wr ((wr ((((x - l) + (k : Int)) * (m 24 1)) + (w * (m 24 2))) * 4096) + ((x - l) + (k : Int))) ≤ 2147483647 := wrB ((wr ((((x - l) + (k : Int)) * (m 24 1)) + (w * (m 24 2))) * 4096) + ((x - l) + (k : Int)))
  have hb11 : (-2147483648) ≤ wr ((m 55 k) + wr ((wr ((((x - l) + (k : Int)) * (m 24 1)) + (w * (m 24 2))) * 4096) + ((x - l) + (k : Int)))) ∧ wr ((m 55 k) + wr ((wr ((((x - l) + (k : Int)) * (m 24 1)) + (w * (m 24 2))) * 4096) + ((x - l) + (k : Int)))) ≤ 2147483647 := wrB ((m 55 k) + wr ((wr ((((x - l) + (k : Int)) * (m 24 1)) + (w * (m 24 2))) * 4096) + ((x - l) + (k : Int))))
  have hb12 : (-2147483648) ≤ wr ((m 55 k) + ((((0 * (m 24 1)) + (w * (m 24 2))) * 4096) + 0)) ∧ wr ((m 55 k) + ((((0 * (m 24 1)) + (w * (m 24 2))) * 4096) + 0)) ≤ 2147483647 := wrB ((m 55 k) + ((((0 * (m 24 1)) + (w * (m 24 2))) * 4096) + 0))
  have he0 : wr (m 24 0) = (m 24 0) := wr_id (by omega) (by omega)
  have he1 : wr (k : Int) = (k : Int) := wr_id (by omega) (by omega)
  have he2 : wr b = b := wr_id (by omega) (by omega)
  have he3 : wr w = w := wr_id (by omega) (by omega)
  have he4 : (k : Int).toNat = k := by omega
  have he5 : wr ((0 * (m 24 1)) + (w * (m 24 2))) = ((0 * (m 24 1)) + (w * (m 24 2))) := wr_id (by omega) (by omega)
  have he6 : wr ((((0 * (m 24 1)) + (w * (m 24 2))) * 4096) + 0) = ((((0 * (m 24 1)) + (w * (m 24 2))) * 4096) + 0) := wr_id (by omega) (by omega)
  have key := @zb86_56r T hT D κ m l x w b k lo hlo
  simp only [he0, he1, he2, he3, he4, he5, he6, Int.toNat_natCast] at key
  exact key
    k1
    (fun x0 x1 => by refine ⟨?_, ?_⟩ <;> omega)
    k2
    k3
    k4
    (fun x0 x1 => by refine ⟨?_, ?_⟩ <;> omega)
    k5
    k6
    k7
theorem zb258_0r (hT : zRules T) {D : Nat} {κ : Option zA → zM → Prop} {m : zM} {p : Int} {n : Int} 
    (o1 : wr p < 0 → κ (some (zi (-1))) (zu m 74 12 0))
    (o2 : ¬ wr p < 0 → wr ((m 74 4) - 1) < wr p → κ (some (zi (-1))) (zu m 74 12 0))
    (o3 : ¬ wr p < 0 → ¬ wr ((m 74 4) - 1) < wr p → wr n < 1 → κ (some (zi (-1))) (zu m 74 12 0))
    (o4 : ¬ wr p < 0 → ¬ wr ((m 74 4) - 1) < wr p → ¬ wr n < 1 → 20 < wr n → κ (some (zi (-1))) (zu m 74 12 0))
    (o5 : ¬ wr p < 0 → ¬ wr ((m 74 4) - 1) < wr p → ¬ wr n < 1 → ¬ 20 < wr n → T (D + 5) 258 (27, [(0, zr 74), (1, zi p), (2, zi n), (3, zi 0)], [], (zu m 74 12 0)) κ) :
    T (D + 5) 258 (0, [(0, zr 74), (1, zi p), (2, zi n)], [], m) κ :=
  hT.1 [(27, [0, 1, 2, 3]), (57, [0, 1, 3]), (64, [0, 1, 3, 4]), (125, [0, 1, 3, 5, 6])] 6 (D + 5) 258 _ κ (And.intro trivial (hT.1 [] 6 (D + 4) 190 _ _ (hT.1 [] 6 (D + 4) 190 (8, [(0, zr 74), (1, zi p)], [zi ((m 74 4) - 1), zi 0, zi p], (zu m 74 12 0)) _ (hT.1 [] 6 (D + 3) 186 _ _ (And.intro (fun a1 => (And.intro (z_b01L rfl) (hT.1 [] 6 (D + 4) 190 _ _ (And.intro (z_b01L rfl) (hT.1 [(27, [0, 1, 2, 3]), (57, [0, 1, 3]), (64, [0, 1, 3, 4]), (125, [0, 1, 3, 5, 6])] 6 (D + 5) 258 _ _ (And.intro (fun _ => (o1 a1)) (fun a3 => (a3 (z_litT rfl)).elim))))))) (fun a2 => (And.intro (fun a4 => (hT.1 [] 6 (D + 3) 186 (14, [(0, zi p), (1, zi 0), (2, zi ((m 74 4) - 1))], [], (zu m 74 12 0)) _ (And.intro (z_b01L rfl) (hT.1 [] 6 (D + 4) 190 _ _ (And.intro (z_b01L rfl) (hT.1 [(27, [0, 1, 2, 3]), (57, [0, 1, 3]), (64, [0, 1, 3, 4]), (125, [0, 1, 3, 5, 6])] 6 (D + 5) 258 _ _ (And.intro (fun _ => (o2 a2 a4)) (fun a6 => (a6 (z_litT rfl)).elim)))))))) (fun a5 => (hT.1 [] 6 (D + 3) 186 (10, [(0, zi p), (1, zi 0), (2, zi ((m 74 4) - 1))], [], (zu m 74 12 0)) _ (And.intro (z_b01L rfl) (hT.1 [] 6 (D + 4) 190 _ _ (And.intro (z_b01L rfl) (hT.1 [(27, [0, 1, 2, 3]), (57, [0, 1, 3]), (64, [0, 1, 3, 4]), (125, [0, 1, 3, 5, 6])] 6 (D + 5) 258 _ _ (And.intro (fun a7 => (z_litF a7 rfl).elim) (fun _ => (hT.1 [] 6 (D + 4) 186 _ _ (And.intro (fun a8 => (And.intro (z_b01L rfl) (hT.1 [(27, [0, 1, 2, 3]), (57, [0, 1, 3]), (64, [0, 1, 3, 4]), (125, [0, 1, 3, 5, 6])] 6 (D + 5) 258 _ _ (And.intro (fun a10 => (z_litF a10 rfl).elim) (fun _ => (o3 a2 a5 a8)))))) (fun a9 => (And.intro (fun a11 => (hT.1 [] 6 (D + 4) 186 (14, [(0, zi n), (1, zi 1), (2, zi 20)], [], (zu m 74 12 0)) _ (And.intro (z_b01L rfl) (hT.1 [(27, [0, 1, 2, 3]), (57, [0, 1, 3]), (64, [0, 1, 3, 4]), (125, [0, 1, 3, 5, 6])] 6 (D + 5) 258 _ _ (And.intro (fun a13 => (z_litF a13 rfl).elim) (fun _ => (o4 a2 a5 a9 a11))))))) (fun a12 => (hT.1 [] 6 (D + 4) 186 (10, [(0, zi n), (1, zi 1), (2, zi 20)], [], (zu m 74 12 0)) _ (And.intro (z_b01L rfl) (hT.1 [(27, [0, 1, 2, 3]), (57, [0, 1, 3]), (64, [0, 1, 3, 4]), (125, [0, 1, 3, 5, 6])] 6 (D + 5) 258 _ _ (And.intro (fun _ => (o5 a2 a5 a9 a12)) (fun a14 => (a14 (z_litT rfl)).elim)))))))))))))))))))))))))
theorem zb258_0 (hT : zRules T) {D : Nat} {κ : Option zA → zM → Prop} {m : zM} {p : Int} {n : Int}  (hB : zB m) (h_p : (-2147483648) ≤ p ∧ p ≤ 2147483647) (h_n : (-2147483648) ≤ n ∧ n ≤ 2147483647) 
    (k1 : p < 0 → zB (zu m 74 12 0) → κ (some (zi (-1))) (zu m 74 12 0))
    (k2 : ¬ p < 0 → ((m 74 4) - 1) < p → zB (zu m 74 12 0) → κ (some (zi (-1))) (zu m 74 12 0))
    (k3 : ¬ p < 0 → ¬ ((m 74 4) - 1) < p → n < 1 → zB (zu m 74 12 0) → κ (some (zi (-1))) (zu m 74 12 0))
    (k4 : ¬ p < 0 → ¬ ((m 74 4) - 1) < p → ¬ n < 1 → 20 < n → zB (zu m 74 12 0) → κ (some (zi (-1))) (zu m 74 12 0))
    (k5 : ¬ p < 0 → ¬ ((m 74 4) - 1) < p → ¬ n < 1 → ¬ 20 < n → zB (zu m 74 12 0) → T (D + 5) 258 (27, [(0, zr 74), (1, zi p), (2, zi n), (3, zi 0)], [], (zu m 74 12 0)) κ) :
    T (D + 5) 258 (0, [(0, zr 74), (1, zi p), (2, zi n)], [], m) κ := by
  have hb2 : 0 ≤ (m 74 4) ∧ (m 74 4) ≤ 6 := hB 74 4
  have he0 : wr p = p := wr_id (by omega) (by omega)
  have he1 : wr ((m 74 4) - 1) = ((m 74 4) - 1) := wr_id (by omega) (by omega)
  have he2 : wr n = n := wr_id (by omega) (by omega)
  have key := @zb258_0r T hT D κ m p n
  simp only [he0, he1, he2, Int.toNat_natCast] at key
  exact key
    (fun x0 => k1 x0 (zB_u hB trivial))
    (fun x0 x1 => k2 x0 x1 (zB_u hB trivial))
    (fun x0 x1 x2 => k3 x0 x1 x2 (zB_u hB trivial))
    (fun x0 x1 x2 x3 => k4 x0 x1 x2 x3 (zB_u hB trivial))
    (fun x0 x1 x2 x3 => k5 x0 x1 x2 x3 (zB_u hB trivial))
theorem zb258_27r (hT : zRules T) {D : Nat} {κ : Option zA → zM → Prop} {m : zM} {p : Nat} {n : Nat} {i : Nat} {lo : zL} (hlo : z_keep [0, 1, 2, 3] lo = [(0, zr 74), (1, zi (p : Int)), (2, zi (n : Int)), (3, zi (i : Int))]) 
    (o1 : ¬ wr (i : Int) < 10 → T (D + 5) 258 (57, [(0, zr 74), (1, zi (p : Int)), (3, zi ((n : Int) - 2))], [], m) κ)
    (o2 : wr (i : Int) < 10 → (0 ≤ wr ((10 * ((n : Int) - 1)) + (i : Int)) ∧ wr ((10 * ((n : Int) - 1)) + (i : Int)) < 210))
    (o3 : wr (i : Int) < 10 → T (D + 5) 258 (27, [(0, zr 74), (1, zi (p : Int)), (2, zi (n : Int)), (3, zi ((i : Int) + 1))], [], (zu m 93 ((wr ((10 * ((n : Int) - 1)) + (i : Int))).toNat) 0)) κ) :
    T (D + 5) 258 (27, lo, [], m) κ :=
  zkeep hT hlo (hT.1 [(27, [0, 1, 2, 3]), (57, [0, 1, 3]), (64, [0, 1, 3, 4]), (125, [0, 1, 3, 5, 6])] 6 (D + 5) 258 _ κ (And.intro (fun a1 => (hT.1 [(27, [0, 1, 2, 3]), (57, [0, 1, 3]), (64, [0, 1, 3, 4]), (125, [0, 1, 3, 5, 6])] 6 (D + 5) 258 (56, [(0, zr 74), (1, zi (p : Int)), (2, zi (n : Int)), (3, zi (i : Int))], [zi ((n : Int) - 2)], m) _ (o1 a1))) (fun a2 => (hT.1 [(27, [0, 1, 2, 3]), (57, [0, 1, 3]), (64, [0, 1, 3, 4]), (125, [0, 1, 3, 5, 6])] 6 (D + 5) 258 (39, [(0, zr 74), (1, zi (p : Int)), (2, zi (n : Int)), (3, zi (i : Int))], [zi 10, zr 93], m) _ (hT.1 [(27, [0, 1, 2, 3]), (57, [0, 1, 3]), (64, [0, 1, 3, 4]), (125, [0, 1, 3, 5, 6])] 6 (D + 5) 258 (45, [(0, zr 74), (1, zi (p : Int)), (2, zi (n : Int)), (3, zi (i : Int))], [zi ((10 * ((n : Int) - 1)) + (i : Int)), zr 93], m) _ (And.intro (o2 (Classical.byContradiction a2)) (o3 (Classical.byContradiction a2))))))))
theorem zb258_27 (hT : zRules T) {D : Nat} {κ : Option zA → zM → Prop} {m : zM} {p : Nat} {n : Nat} {i : Nat} {lo : zL} (hlo : z_keep [0, 1, 2, 3] lo = [(0, zr 74), (1, zi (p : Int)), (2, zi (n : Int)), (3, zi (i : Int))])  (hB : zB m) (h_p : p ≤ 5) (h_n : n ≤ 20) (h_i : i ≤ 10) 
    (k1 : ¬ (i : Int) < 10 → T (D + 5) 258 (57, [(0, zr 74), (1, zi (p : Int)), (3, zi ((n : Int) - 2))], [], m) κ)
    (k2 : (i : Int) < 10 → (0 ≤ ((10 * ((n : Int) - 1)) + (i : Int)) ∧ ((10 * ((n : Int) - 1)) + (i : Int)) < 210))
    (k3 : (i : Int) < 10 → zB (zu m 93 (((10 * ((n : Int) - 1)) + (i : Int)).toNat) 0) → T (D + 5) 258 (27, [(0, zr 74), (1, zi (p : Int)), (2, zi (n : Int)), (3, zi ((i : Int) + 1))], [], (zu m 93 (((10 * ((n : Int) - 1)) + (i : Int)).toNat) 0)) κ) :
    T (D + 5) 258 (27, lo, [], m) κ := by
  have he0 : wr (i : Int) = (i : Int) := wr_id (by omega) (by omega)
  have he1 : wr ((10 * ((n : Int) - 1)) + (i : Int)) = ((10 * ((n : Int) - 1)) + (i : Int)) := wr_id (by omega) (by omega)
  have key := @zb258_27r T hT D κ m p n i lo hlo
  simp only [he0, he1, Int.toNat_natCast] at key
  exact key
    k1
    k2
    (fun x0 => k3 x0 (zB_u hB trivial))
theorem zb258_57r (hT : zRules T) {D : Nat} {κ : Option zA → zM → Prop} {m : zM} {p : Nat} {i : Int} {lo : zL} (hlo : z_keep [0, 1, 3] lo = [(0, zr 74), (1, zi (p : Int)), (3, zi i)]) 
    (o1 : wr i < 0 → T (D + 5) 258 (125, [(0, zr 74), (1, zi (p : Int)), (3, zl 9223372036854775807), (5, zi 0), (6, zi 0)], [], m) κ)
    (o2 : ¬ wr i < 0 → T (D + 5) 258 (64, [(0, zr 74), (1, zi (p : Int)), (3, zi i), (4, zi 0)], [], m) κ) :
    T (D + 5) 258 (57, lo, [], m) κ :=
  zkeep hT hlo (hT.1 [(27, [0, 1, 2, 3]), (57, [0, 1, 3]), (64, [0, 1, 3, 4]), (125, [0, 1, 3, 5, 6])] 6 (D + 5) 258 _ κ (And.intro (fun a1 => (hT.1 [(27, [0, 1, 2, 3]), (57, [0, 1, 3]), (64, [0, 1, 3, 4]), (125, [0, 1, 3, 5, 6])] 6 (D + 5) 258 (122, [(0, zr 74), (1, zi (p : Int)), (3, zl 9223372036854775807), (5, zi 0)], [], m) _ (o1 a1))) (fun a2 => (o2 a2))))
theorem zb258_57 (hT : zRules T) {D : Nat} {κ : Option zA → zM → Prop} {m : zM} {p : Nat} {i : Int} {lo : zL} (hlo : z_keep [0, 1, 3] lo = [(0, zr 74), (1, zi (p : Int)), (3, zi i)])  (hB : zB m) (h_p : p ≤ 5) (h_i : (-1) ≤ i ∧ i ≤ 18) 
    (k1 : i < 0 → T (D + 5) 258 (125, [(0, zr 74), (1, zi (p : Int)), (3, zl 9223372036854775807), (5, zi 0), (6, zi 0)], [], m) κ)
    (k2 : ¬ i < 0 → T (D + 5) 258 (64, [(0, zr 74), (1, zi (p : Int)), (3, zi i), (4, zi 0)], [], m) κ) :
    T (D + 5) 258 (57, lo, [], m) κ := by
  have he0 : wr i = i := wr_id (by omega) (by omega)
  have key := @zb258_57r T hT D κ m p i lo hlo
  simp only [he0, Int.toNat_natCast] at key
  exact key
    k1
    k2
theorem zb258_64r (hT : zRules T) {D : Nat} {κ : Option zA → zM → Prop} {m : zM} {p : Nat} {i : Nat} {k : Nat} {lo : zL} (hlo : z_keep [0, 1, 3, 4] lo = [(0, zr 74), (1, zi (p : Int)), (3, zi (i : Int)), (4, zi (k : Int))]) 
    (o1 : wr (m 79 0) < wr (k : Int) → T (D + 5) 258 (57, [(0, zr 74), (1, zi (p : Int)), (3, zi ((i : Int) + (-1)))], [], m) κ)
    (o2 : ¬ wr (m 79 0) < wr (k : Int) → T (D + 4) 216 (0, [(0, zr 74), (1, zi (p : Int)), (2, zi (i : Int))], [], m) (fun r m1 => T (D + 5) 258 (97, [(0, zr 74), (1, zi (p : Int)), (3, zi (i : Int)), (4, zi (k : Int))], r.toList ++ [zi ((i : Int) + 1), zi (p : Int), zr 74, zi ((10 * (i : Int)) + (k : Int)), zr 93], m1) κ)) :
    T (D + 5) 258 (64, lo, [], m) κ :=
  zkeep hT hlo (hT.1 [(27, [0, 1, 2, 3]), (57, [0, 1, 3]), (64, [0, 1, 3, 4]), (125, [0, 1, 3, 5, 6])] 6 (D + 5) 258 _ κ (And.intro (z_ixL rfl) (And.intro (fun a1 => (hT.1 [(27, [0, 1, 2, 3]), (57, [0, 1, 3]), (64, [0, 1, 3, 4]), (125, [0, 1, 3, 5, 6])] 6 (D + 5) 258 (109, [(0, zr 74), (1, zi (p : Int)), (3, zi (i : Int)), (4, zi (k : Int))], [], m) _ (o1 a1))) (fun a2 => (hT.1 [(27, [0, 1, 2, 3]), (57, [0, 1, 3]), (64, [0, 1, 3, 4]), (125, [0, 1, 3, 5, 6])] 6 (D + 5) 258 (75, [(0, zr 74), (1, zi (p : Int)), (3, zi (i : Int)), (4, zi (k : Int))], [], m) _ (hT.1 [(27, [0, 1, 2, 3]), (57, [0, 1, 3]), (64, [0, 1, 3, 4]), (125, [0, 1, 3, 5, 6])] 6 (D + 5) 258 (85, [(0, zr 74), (1, zi (p : Int)), (3, zi (i : Int)), (4, zi (k : Int))], [zi (k : Int), zi (10 * (i : Int)), zr 93], m) _ (hT.1 [(27, [0, 1, 2, 3]), (57, [0, 1, 3]), (64, [0, 1, 3, 4]), (125, [0, 1, 3, 5, 6])] 6 (D + 5) 258 (91, [(0, zr 74), (1, zi (p : Int)), (3, zi (i : Int)), (4, zi (k : Int))], [zi ((i : Int) + 1), zi (p : Int), zr 74, zi ((10 * (i : Int)) + (k : Int)), zr 93], m) _ (o2 a2))))))))
theorem zb258_64 (hT : zRules T) {D : Nat} {κ : Option zA → zM → Prop} {m : zM} {p : Nat} {i : Nat} {k : Nat} {lo : zL} (hlo : z_keep [0, 1, 3, 4] lo = [(0, zr 74), (1, zi (p : Int)), (3, zi (i : Int)), (4, zi (k : Int))])  (hB : zB m) (h_p : p ≤ 5) (h_i : i ≤ 18) (h_k : k ≤ 10) 
    (k1 : (m 79 0) < (k : Int) → T (D + 5) 258 (57, [(0, zr 74), (1, zi (p : Int)), (3, zi ((i : Int) + (-1)))], [], m) κ)
    (k2 : ¬ (m 79 0) < (k : Int) → T (D + 4) 216 (0, [(0, zr 74), (1, zi (p : Int)), (2, zi (i : Int))], [], m) (fun r m1 => T (D + 5) 258 (97, [(0, zr 74), (1, zi (p : Int)), (3, zi (i : Int)), (4, zi (k : Int))], r.toList ++ [zi ((i : Int) + 1), zi (p : Int), zr 74, zi ((10 * (i : Int)) + (k : Int)), zr 93], m1) κ)) :
    T (D + 5) 258 (64, lo, [], m) κ := by
  have hb3 : 0 ≤ (m 79 0) ∧ (m 79 0) ≤ 9 := hB 79 0
  have he0 : wr (m 79 0) = (m 79 0) := wr_id (by omega) (by omega)
  have he1 : wr (k : Int) = (k : Int) := wr_id (by omega) (by omega)
  have key := @zb258_64r T hT D κ m p i k lo hlo
  simp only [he0, he1, Int.toNat_natCast] at key
  exact key
    k1
    k2
theorem zb258_97r (hT : zRules T) {D : Nat} {κ : Option zA → zM → Prop} {m : zM} {p : Nat} {i : Nat} {k : Nat} {v : Int} {e : Nat} {d : Nat} {lo : zL} (hlo : z_keep [0, 1, 3, 4] lo = [(0, zr 74), (1, zi (p : Int)), (3, zi (i : Int)), (4, zi (k : Int))]) 
    (o1 : T (D + 4) 257 (0, [(0, zr 74), (1, zi (p : Int)), (2, zi (e : Int)), (3, zi v), (4, zi (k : Int))], [], m) (fun r m1 => T (D + 5) 258 (102, [(0, zr 74), (1, zi (p : Int)), (3, zi (i : Int)), (4, zi (k : Int))], r.toList ++ [zi (d : Int), zr 93], m1) κ)) :
    T (D + 5) 258 (97, lo, [zi v, zi (e : Int), zi (p : Int), zr 74, zi (d : Int), zr 93], m) κ :=
  zkeep hT hlo (hT.1 [(27, [0, 1, 2, 3]), (57, [0, 1, 3]), (64, [0, 1, 3, 4]), (125, [0, 1, 3, 5, 6])] 6 (D + 5) 258 _ κ (o1))
theorem zb258_97 (hT : zRules T) {D : Nat} {κ : Option zA → zM → Prop} {m : zM} {p : Nat} {i : Nat} {k : Nat} {v : Int} {e : Nat} {d : Nat} {lo : zL} (hlo : z_keep [0, 1, 3, 4] lo = [(0, zr 74), (1, zi (p : Int)), (3, zi (i : Int)), (4, zi (k : Int))])  (hB : zB m) (h_p : p ≤ 5) (h_i : i ≤ 18) (h_k : k ≤ 9) (h_v : 0 ≤ v ∧ v ≤ 99) (h_e : e ≤ 19) (h_d : d ≤ 198) 
    (k1 : T (D + 4) 257 (0, [(0, zr 74), (1, zi (p : Int)), (2, zi (e : Int)), (3, zi v), (4, zi (k : Int))], [], m) (fun r m1 => T (D + 5) 258 (102, [(0, zr 74), (1, zi (p : Int)), (3, zi (i : Int)), (4, zi (k : Int))], r.toList ++ [zi (d : Int), zr 93], m1) κ)) :
    T (D + 5) 258 (97, lo, [zi v, zi (e : Int), zi (p : Int), zr 74, zi (d : Int), zr 93], m) κ := by
  exact zb258_97r hT hlo
    k1
theorem zb258_102r (hT : zRules T) {D : Nat} {κ : Option zA → zM → Prop} {m : zM} {p : Nat} {i : Nat} {k : Nat} {v : Int} {d : Nat} {lo : zL} (hlo : z_keep [0, 1, 3, 4] lo = [(0, zr 74), (1, zi (p : Int)), (3, zi (i : Int)), (4, zi (k : Int))]) 
    (o1 : (0 ≤ wr (d : Int) ∧ wr (d : Int) < 210))
    (o2 : T (D + 5) 258 (64, [(0, zr 74), (1, zi (p : Int)), (3, zi (i : Int)), (4, zi ((k : Int) + 1))], [], (zu m 93 ((wr (d : Int)).toNat) v)) κ) :
    T (D + 5) 258 (102, lo, [zl v, zi (d : Int), zr 93], m) κ :=
  zkeep hT hlo (hT.1 [(27, [0, 1, 2, 3]), (57, [0, 1, 3]), (64, [0, 1, 3, 4]), (125, [0, 1, 3, 5, 6])] 6 (D + 5) 258 _ κ (And.intro (o1) (o2)))
theorem zb258_102 (hT : zRules T) {D : Nat} {κ : Option zA → zM → Prop} {m : zM} {p : Nat} {i : Nat} {k : Nat} {v : Int} {d : Nat} {lo : zL} (hlo : z_keep [0, 1, 3, 4] lo = [(0, zr 74), (1, zi (p : Int)), (3, zi (i : Int)), (4, zi (k : Int))])  (hB : zB m) (h_p : p ≤ 5) (h_i : i ≤ 18) (h_k : k ≤ 9) (h_v : (-9223372036854775808) ≤ v ∧ v ≤ 9223372036854775807) (h_d : d ≤ 198) 
    (k1 : zB (zu m 93 d v) → T (D + 5) 258 (64, [(0, zr 74), (1, zi (p : Int)), (3, zi (i : Int)), (4, zi ((k : Int) + 1))], [], (zu m 93 d v)) κ) :
    T (D + 5) 258 (102, lo, [zl v, zi (d : Int), zr 93], m) κ := by
  have he0 : wr (d : Int) = (d : Int) := wr_id (by omega) (by omega)
  have he1 : (d : Int).toNat = d := by omega
  have key := @zb258_102r T hT D κ m p i k v d lo hlo
  simp only [he0, he1, Int.toNat_natCast] at key
  exact key
    (by refine ⟨?_, ?_⟩ <;> omega)
    (k1  (zB_u hB trivial))
theorem zb258_125r (hT : zRules T) {D : Nat} {κ : Option zA → zM → Prop} {m : zM} {p : Nat} {b : Int} {f : Nat} {k : Nat} {lo : zL} (hlo : z_keep [0, 1, 3, 5, 6] lo = [(0, zr 74), (1, zi (p : Int)), (3, zl b), (5, zi (f : Int)), (6, zi (k : Int))]) 
    (o1 : wr (m 79 0) < wr (k : Int) → κ (some (zi (wr (wl (Int.tdiv (wl b) 1000000))))) (zu (zu (zu (zu (zu m 74 11 0) 81 0 (wl (Int.tmod (wl b) 1000000))) 74 11 1) 81 1 (f : Int)) 74 11 2))
    (o2 : ¬ wr (m 79 0) < wr (k : Int) → T (D + 4) 216 (0, [(0, zr 74), (1, zi (p : Int)), (2, zi 0)], [], m) (fun r m1 => T (D + 5) 258 (143, [(0, zr 74), (1, zi (p : Int)), (3, zl b), (5, zi (f : Int)), (6, zi (k : Int))], r.toList ++ [zr 74], m1) κ)) :
    T (D + 5) 258 (125, lo, [], m) κ :=
  zkeep hT hlo (hT.1 [(27, [0, 1, 2, 3]), (57, [0, 1, 3]), (64, [0, 1, 3, 4]), (125, [0, 1, 3, 5, 6])] 6 (D + 5) 258 _ κ (And.intro (z_ixL rfl) (And.intro (fun a1 => (hT.1 [(27, [0, 1, 2, 3]), (57, [0, 1, 3]), (64, [0, 1, 3, 4]), (125, [0, 1, 3, 5, 6])] 6 (D + 5) 258 (183, [(0, zr 74), (1, zi (p : Int)), (3, zl b), (5, zi (f : Int)), (6, zi (k : Int))], [], m) _ (And.intro trivial (hT.1 [(27, [0, 1, 2, 3]), (57, [0, 1, 3]), (64, [0, 1, 3, 4]), (125, [0, 1, 3, 5, 6])] 6 (D + 5) 258 (193, [(0, zr 74), (1, zi (p : Int)), (3, zl b), (5, zi (f : Int)), (6, zi (k : Int))], [zl 1000000, zl b, zr 74], (zu m 74 11 0)) _ (And.intro (z_lneL rfl) (hT.1 [] 6 (D + 4) 189 _ _ (And.intro (And.intro (z_ixL rfl) trivial) (hT.1 [] 6 (D + 4) 189 (10, [(0, zr 74), (1, zi (wl (Int.tmod (wl b) 1000000)))], [], (zu (zu m 74 11 0) 81 0 (wl (Int.tmod (wl b) 1000000)))) _ (And.intro trivial (hT.1 [] 6 (D + 4) 189 (20, [(0, zr 74), (1, zi (wl (Int.tmod (wl b) 1000000)))], [], (zu (zu (zu m 74 11 0) 81 0 (wl (Int.tmod (wl b) 1000000))) 74 11 1)) _ (hT.1 [(27, [0, 1, 2, 3]), (57, [0, 1, 3]), (64, [0, 1, 3, 4]), (125, [0, 1, 3, 5, 6])] 6 (D + 5) 258 _ _ (hT.1 [] 6 (D + 4) 189 _ _ (And.intro (And.intro (z_ixL rfl) trivial) (hT.1 [] 6 (D + 4) 189 (10, [(0, zr 74), (1, zi (f : Int))], [], (zu (zu (zu (zu m 74 11 0) 81 0 (wl (Int.tmod (wl b) 1000000))) 74 11 1) 81 1 (f : Int))) _ (And.intro trivial (hT.1 [] 6 (D + 4) 189 (20, [(0, zr 74), (1, zi (f : Int))], [], (zu (zu (zu (zu (zu m 74 11 0) 81 0 (wl (Int.tmod (wl b) 1000000))) 74 11 1) 81 1 (f : Int)) 74 11 2)) _ (hT.1 [(27, [0, 1, 2, 3]), (57, [0, 1, 3]), (64, [0, 1, 3, 4]), (125, [0, 1, 3, 5, 6])] 6 (D + 5) 258 _ _ (And.intro (z_lneL rfl) (o1 a1))))))))))))))))))) (fun a2 => (hT.1 [(27, [0, 1, 2, 3]), (57, [0, 1, 3]), (64, [0, 1, 3, 4]), (125, [0, 1, 3, 5, 6])] 6 (D + 5) 258 (136, [(0, zr 74), (1, zi (p : Int)), (3, zl b), (5, zi (f : Int)), (6, zi (k : Int))], [], m) _ (o2 a2))))))
theorem zb258_125 (hT : zRules T) {D : Nat} {κ : Option zA → zM → Prop} {m : zM} {p : Nat} {b : Int} {f : Nat} {k : Nat} {lo : zL} (hlo : z_keep [0, 1, 3, 5, 6] lo = [(0, zr 74), (1, zi (p : Int)), (3, zl b), (5, zi (f : Int)), (6, zi (k : Int))])  (hB : zB m) (h_p : p ≤ 5) (h_b : (-9223372036854775808) ≤ b ∧ b ≤ 9223372036854775807) (h_f : f ≤ 9) (h_k : k ≤ 10) 
    (k1 : (m 79 0) < (k : Int) → zB (zu (zu (zu (zu (zu m 74 11 0) 81 0 (wl (Int.tmod b 1000000))) 74 11 1) 81 1 (f : Int)) 74 11 2) → κ (some (zi (wr (wl (Int.tdiv b 1000000))))) (zu (zu (zu (zu (zu m 74 11 0) 81 0 (wl (Int.tmod b 1000000))) 74 11 1) 81 1 (f : Int)) 74 11 2))
    (k2 : ¬ (m 79 0) < (k : Int) → T (D + 4) 216 (0, [(0, zr 74), (1, zi (p : Int)), (2, zi 0)], [], m) (fun r m1 => T (D + 5) 258 (143, [(0, zr 74), (1, zi (p : Int)), (3, zl b), (5, zi (f : Int)), (6, zi (k : Int))], r.toList ++ [zr 74], m1) κ)) :
    T (D + 5) 258 (125, lo, [], m) κ := by
  have hb4 : 0 ≤ (m 79 0) ∧ (m 79 0) ≤ 9 := hB 79 0
  have hb5 : (-2147483648) ≤ wr (wl (Int.tdiv b 1000000)) ∧ wr (wl (Int.tdiv b 1000000)) ≤ 2147483647 := wrB (wl (Int.tdiv b 1000000))
  have he0 : wr (m 79 0) = (m 79 0) := wr_id (by omega) (by omega)
  have he1 : wr (k : Int) = (k : Int) := wr_id (by omega) (by omega)
  have he2 : wl b = b := wl_id (by omega) (by omega)
  have key := @zb258_125r T hT D κ m p b f k lo hlo
  simp only [he0, he1, he2, Int.toNat_natCast] at key
  exact key
    (fun x0 => k1 x0 (zB_u (zB_u (zB_u (zB_u (zB_u hB (show 0 ≤ 0 ∧ 0 ≤ 32 from ⟨by omega, by omega⟩)) trivial) (show 0 ≤ 1 ∧ 1 ≤ 32 from ⟨by omega, by omega⟩)) trivial) (show 0 ≤ 2 ∧ 2 ≤ 32 from ⟨by omega, by omega⟩)))
    k2
theorem zb258_143r (hT : zRules T) {D : Nat} {κ : Option zA → zM → Prop} {m : zM} {p : Nat} {b : Int} {f : Nat} {k : Nat} {v : Int} {lo : zL} (hlo : z_keep [0, 1, 3, 5, 6] lo = [(0, zr 74), (1, zi (p : Int)), (3, zl b), (5, zi (f : Int)), (6, zi (k : Int))]) 
    (o1 : (0 ≤ wr (k : Int) ∧ wr (k : Int) < 210))
    (o2 : wr (z_lc (((1000000 * (wr (((m 79 1) * (v + (k : Int))) + ((m 79 2) * 0)))) + (wr (v + (k : Int)))) + (m 93 ((wr (k : Int)).toNat))) b) < 0 → T (D + 5) 258 (125, [(0, zr 74), (1, zi (p : Int)), (3, zl (((1000000 * (wr (((m 79 1) * (v + (k : Int))) + ((m 79 2) * 0)))) + (wr (v + (k : Int)))) + (m 93 ((wr (k : Int)).toNat)))), (5, zi (k : Int)), (6, zi ((k : Int) + 1))], [], m) κ)
    (o3 : ¬ wr (z_lc (((1000000 * (wr (((m 79 1) * (v + (k : Int))) + ((m 79 2) * 0)))) + (wr (v + (k : Int)))) + (m 93 ((wr (k : Int)).toNat))) b) < 0 → T (D + 5) 258 (125, [(0, zr 74), (1, zi (p : Int)), (3, zl b), (5, zi (f : Int)), (6, zi ((k : Int) + 1))], [], m) κ) :
    T (D + 5) 258 (143, lo, [zi v, zr 74], m) κ :=
  zkeep hT hlo (hT.1 [(27, [0, 1, 2, 3]), (57, [0, 1, 3]), (64, [0, 1, 3, 4]), (125, [0, 1, 3, 5, 6])] 6 (D + 5) 258 _ κ (hT.1 [] 6 (D + 4) 256 _ _ (And.intro (z_ixL rfl) (hT.1 [] 6 (D + 4) 256 (10, [(0, zr 74), (1, zi (v + (k : Int))), (2, zi 0)], [zi (v + (k : Int)), zi (m 79 1), zl 1000000], m) _ (And.intro (z_ixL rfl) (hT.1 [] 6 (D + 4) 256 (18, [(0, zr 74), (1, zi (v + (k : Int))), (2, zi 0)], [zi 0, zi (m 79 2), zi ((m 79 1) * (v + (k : Int))), zl 1000000], m) _ (hT.1 [] 6 (D + 4) 256 (24, [(0, zr 74), (1, zi (v + (k : Int))), (2, zi 0)], [zl (wr (v + (k : Int))), zl (1000000 * (wr (((m 79 1) * (v + (k : Int))) + ((m 79 2) * 0))))], m) _ (hT.1 [(27, [0, 1, 2, 3]), (57, [0, 1, 3]), (64, [0, 1, 3, 4]), (125, [0, 1, 3, 5, 6])] 6 (D + 5) 258 _ _ (And.intro (o1) (hT.1 [(27, [0, 1, 2, 3]), (57, [0, 1, 3]), (64, [0, 1, 3, 4]), (125, [0, 1, 3, 5, 6])] 6 (D + 5) 258 (160, [(0, zr 74), (1, zi (p : Int)), (3, zl b), (5, zi (f : Int)), (6, zi (k : Int)), (7, zl (((1000000 * (wr (((m 79 1) * (v + (k : Int))) + ((m 79 2) * 0)))) + (wr (v + (k : Int)))) + (m 93 ((wr (k : Int)).toNat))))], [], m) _ (And.intro (fun a1 => (hT.1 [(27, [0, 1, 2, 3]), (57, [0, 1, 3]), (64, [0, 1, 3, 4]), (125, [0, 1, 3, 5, 6])] 6 (D + 5) 258 (173, [(0, zr 74), (1, zi (p : Int)), (3, zl (((1000000 * (wr (((m 79 1) * (v + (k : Int))) + ((m 79 2) * 0)))) + (wr (v + (k : Int)))) + (m 93 ((wr (k : Int)).toNat)))), (5, zi (f : Int)), (6, zi (k : Int)), (7, zl (((1000000 * (wr (((m 79 1) * (v + (k : Int))) + ((m 79 2) * 0)))) + (wr (v + (k : Int)))) + (m 93 ((wr (k : Int)).toNat))))], [], m) _ (o2 a1))) (fun a2 => (hT.1 [(27, [0, 1, 2, 3]), (57, [0, 1, 3]), (64, [0, 1, 3, 4]), (125, [0, 1, 3, 5, 6])] 6 (D + 5) 258 (180, [(0, zr 74), (1, zi (p : Int)), (3, zl b), (5, zi (f : Int)), (6, zi ((k : Int) + 1)), (7, zl (((1000000 * (wr (((m 79 1) * (v + (k : Int))) + ((m 79 2) * 0)))) + (wr (v + (k : Int)))) + (m 93 ((wr (k : Int)).toNat))))], [], m) _ (o3 a2))))))))))))))
theorem zb258_143 (hT : zRules T) {D : Nat} {κ : Option zA → zM → Prop} {m : zM} {p : Nat} {b : Int} {f : Nat} {k : Nat} {v : Int} {lo : zL} (hlo : z_keep [0, 1, 3, 5, 6] lo = [(0, zr 74), (1, zi (p : Int)), (3, zl b), (5, zi (f : Int)), (6, zi (k : Int))])  (hB : zB m) (h_p : p ≤ 5) (h_b : (-9223372036854775808) ≤ b ∧ b ≤ 9223372036854775807) (h_f : f ≤ 9) (h_k : k ≤ 9) (h_v : 0 ≤ v ∧ v ≤ 99) 
    (k1 : (z_lc (((1000000 * ((((m 79 1) * (v + (k : Int))) + ((m 79 2) * 0)))) + ((v + (k : Int)))) + (m 93 k)) b) < 0 → T (D + 5) 258 (125, [(0, zr 74), (1, zi (p : Int)), (3, zl (((1000000 * ((((m 79 1) * (v + (k : Int))) + ((m 79 2) * 0)))) + ((v + (k : Int)))) + (m 93 k))), (5, zi (k : Int)), (6, zi ((k : Int) + 1))], [], m) κ)
    (k2 : ¬ (z_lc (((1000000 * ((((m 79 1) * (v + (k : Int))) + ((m 79 2) * 0)))) + ((v + (k : Int)))) + (m 93 k)) b) < 0 → T (D + 5) 258 (125, [(0, zr 74), (1, zi (p : Int)), (3, zl b), (5, zi (f : Int)), (6, zi ((k : Int) + 1))], [], m) κ) :
    T (D + 5) 258 (143, lo, [zi v, zr 74], m) κ := by
  have hb5 : 0 ≤ (m 79 1) ∧ (m 79 1) ≤ 9 := hB 79 1
  have hb6 : 0 ≤ ((m 79 1) * (v + (k : Int))) ∧ ((m 79 1) * (v + (k : Int))) ≤ 972 := z_mulB (m 79 1) (v + (k : Int)) 9 108 972 (by omega) (by omega) (by omega) (by omega) rfl
  have hb7 : 0 ≤ (m 79 2) ∧ (m 79 2) ≤ 9 := hB 79 2
  have hb8 : (-1) ≤ (z_lc (((1000000 * ((((m 79 1) * (v + (k : Int))) + ((m 79 2) * 0)))) + ((v + (k : Int)))) + (m 93 k)) b) ∧ (z_lc (((1000000 * ((((m 79 1) * (v + (k : Int))) + ((m 79 2) * 0)))) + ((v + (k : Int)))) + (m 93 k)) b) ≤ 1 := z_lcB (((1000000 * ((((m 79 1) * (v + (k : Int))) + ((m 79 2) * 0)))) + ((v + (k : Int)))) + (m 93 k)) b
  have he0 : wr (((m 79 1) * (v + (k : Int))) + ((m 79 2) * 0)) = (((m 79 1) * (v + (k : Int))) + ((m 79 2) * 0)) := wr_id (by omega) (by omega)
  have he1 : wr (v + (k : Int)) = (v + (k : Int)) := wr_id (by omega) (by omega)
  have he2 : wr (k : Int) = (k : Int) := wr_id (by omega) (by omega)
  have he3 : (k : Int).toNat = k := by omega
  have he4 : wr (z_lc (((1000000 * ((((m 79 1) * (v + (k : Int))) + ((m 79 2) * 0)))) + ((v + (k : Int)))) + (m 93 k)) b) = (z_lc (((1000000 * ((((m 79 1) * (v + (k : Int))) + ((m 79 2) * 0)))) + ((v + (k : Int)))) + (m 93 k)) b) := wr_id (by omega) (by omega)
  have key := @zb258_143r T hT D κ m p b f k v lo hlo
  simp only [he0, he1, he2, he3, he4, Int.toNat_natCast] at key
  exact key
    (by refine ⟨?_, ?_⟩ <;> omega)
    k1
    k2
theorem zb257_0r (hT : zRules T) {D : Nat} {κ : Option zA → zM → Prop} {m : zM} {p : Nat} {i : Nat} {a : Int} {k : Nat} 
    (o1 : T (D + 3) 216 (0, [(0, zr 74), (1, zi (p : Int)), (2, zi (i : Int))], [], m) (fun r m1 => T (D + 4) 257 (6, [(0, zr 74), (1, zi (p : Int)), (2, zi (i : Int)), (3, zi a), (4, zi (k : Int))], r.toList ++ [], m1) κ)) :
    T (D + 4) 257 (0, [(0, zr 74), (1, zi (p : Int)), (2, zi (i : Int)), (3, zi a), (4, zi (k : Int))], [], m) κ :=
  hT.1 [(85, [0, 2, 5, 6, 7, 9])] 6 (D + 4) 257 _ κ (o1)
theorem zb257_0 (hT : zRules T) {D : Nat} {κ : Option zA → zM → Prop} {m : zM} {p : Nat} {i : Nat} {a : Int} {k : Nat}  (hB : zB m) (h_p : p ≤ 5) (h_i : i ≤ 19) (h_a : 0 ≤ a ∧ a ≤ 99) (h_k : k ≤ 9) 
    (k1 : T (D + 3) 216 (0, [(0, zr 74), (1, zi (p : Int)), (2, zi (i : Int))], [], m) (fun r m1 => T (D + 4) 257 (6, [(0, zr 74), (1, zi (p : Int)), (2, zi (i : Int)), (3, zi a), (4, zi (k : Int))], r.toList ++ [], m1) κ)) :
    T (D + 4) 257 (0, [(0, zr 74), (1, zi (p : Int)), (2, zi (i : Int)), (3, zi a), (4, zi (k : Int))], [], m) κ := by
  exact zb257_0r hT
    k1
theorem zb257_6r (hT : zRules T) {D : Nat} {κ : Option zA → zM → Prop} {m : zM} {i : Nat} {a : Int} {k : Nat} {v : Int} {lo : zL} (hlo : z_keep [0, 2, 3, 4] lo = [(0, zr 74), (2, zi (i : Int)), (3, zi a), (4, zi (k : Int))]) 
    (o1 : ¬ wr v = wr a → wr (a + (k : Int)) < wr v → T (D + 4) 257 (85, [(0, zr 74), (2, zi (i : Int)), (5, zi v), (6, zi (a + (k : Int))), (7, zl 9223372036854775807), (9, zi 0)], [], m) κ)
    (o2 : ¬ wr v = wr a → ¬ wr (a + (k : Int)) < wr v → wr (v + (m 79 0)) < wr (a + (k : Int)) → T (D + 4) 257 (85, [(0, zr 74), (2, zi (i : Int)), (5, zi v), (6, zi (a + (k : Int))), (7, zl 9223372036854775807), (9, zi 0)], [], m) κ)
    (o3 : ¬ wr v = wr a → ¬ wr (a + (k : Int)) < wr v → ¬ wr (v + (m 79 0)) < wr (a + (k : Int)) → (0 ≤ wr (((10 * (i : Int)) + (a + (k : Int))) - v) ∧ wr (((10 * (i : Int)) + (a + (k : Int))) - v) < 210))
    (o4 : ¬ wr v = wr a → ¬ wr (a + (k : Int)) < wr v → ¬ wr (v + (m 79 0)) < wr (a + (k : Int)) → κ (some (zl (((1000000 * (wr (((m 79 1) * 0) + ((m 79 2) * 1)))) + 0) + (m 93 ((wr (((10 * (i : Int)) + (a + (k : Int))) - v)).toNat))))) m)
    (o5 : wr v = wr a → (0 ≤ wr ((10 * (i : Int)) + (k : Int)) ∧ wr ((10 * (i : Int)) + (k : Int)) < 210))
    (o6 : wr v = wr a → κ (some (zl (m 93 ((wr ((10 * (i : Int)) + (k : Int))).toNat)))) m) :
    T (D + 4) 257 (6, lo, [zi v], m) κ :=
  zkeep hT hlo (hT.1 [(85, [0, 2, 5, 6, 7, 9])] 6 (D + 4) 257 _ κ (hT.1 [(85, [0, 2, 5, 6, 7, 9])] 6 (D + 4) 257 (16, [(0, zr 74), (2, zi (i : Int)), (3, zi a), (4, zi (k : Int)), (5, zi v), (6, zi (a + (k : Int)))], [zi v], m) _ (And.intro (fun a1 => (And.intro (fun a3 => (hT.1 [(85, [0, 2, 5, 6, 7, 9])] 6 (D + 4) 257 (80, [(0, zr 74), (2, zi (i : Int)), (3, zi a), (4, zi (k : Int)), (5, zi v), (6, zi (a + (k : Int)))], [zl 9223372036854775807], m) _ (o1 a1 a3))) (fun a4 => (hT.1 [(85, [0, 2, 5, 6, 7, 9])] 6 (D + 4) 257 (42, [(0, zr 74), (2, zi (i : Int)), (3, zi a), (4, zi (k : Int)), (5, zi v), (6, zi (a + (k : Int)))], [zi (a + (k : Int))], m) _ (And.intro (z_ixL rfl) (hT.1 [(85, [0, 2, 5, 6, 7, 9])] 6 (D + 4) 257 (51, [(0, zr 74), (2, zi (i : Int)), (3, zi a), (4, zi (k : Int)), (5, zi v), (6, zi (a + (k : Int)))], [zi (v + (m 79 0)), zi (a + (k : Int))], m) _ (And.intro (fun a5 => (o2 a1 a4 a5)) (fun a6 => (hT.1 [] 6 (D + 3) 256 _ _ (And.intro (z_ixL rfl) (hT.1 [] 6 (D + 3) 256 (10, [(0, zr 74), (1, zi 0), (2, zi 1)], [zi 0, zi (m 79 1), zl 1000000], m) _ (And.intro (z_ixL rfl) (hT.1 [] 6 (D + 3) 256 (18, [(0, zr 74), (1, zi 0), (2, zi 1)], [zi 1, zi (m 79 2), zi ((m 79 1) * 0), zl 1000000], m) _ (hT.1 [] 6 (D + 3) 256 (24, [(0, zr 74), (1, zi 0), (2, zi 1)], [zl 0, zl (1000000 * (wr (((m 79 1) * 0) + ((m 79 2) * 1))))], m) _ (hT.1 [(85, [0, 2, 5, 6, 7, 9])] 6 (D + 4) 257 _ _ (hT.1 [(85, [0, 2, 5, 6, 7, 9])] 6 (D + 4) 257 (70, [(0, zr 74), (2, zi (i : Int)), (3, zi a), (4, zi (k : Int)), (5, zi v), (6, zi (a + (k : Int)))], [zi (a + (k : Int)), zi (10 * (i : Int)), zr 93, zl ((1000000 * (wr (((m 79 1) * 0) + ((m 79 2) * 1)))) + 0)], m) _ (And.intro (o3 a1 a4 a6) (o4 a1 a4 a6)))))))))))))))))) (fun a2 => (hT.1 [(85, [0, 2, 5, 6, 7, 9])] 6 (D + 4) 257 (27, [(0, zr 74), (2, zi (i : Int)), (3, zi a), (4, zi (k : Int)), (5, zi v), (6, zi (a + (k : Int)))], [zi (i : Int), zi 10, zr 93], m) _ (And.intro (o5 (Classical.byContradiction a2)) (o6 (Classical.byContradiction a2))))))))
theorem zb257_6 (hT : zRules T) {D : Nat} {κ : Option zA → zM → Prop} {m : zM} {i : Nat} {a : Int} {k : Nat} {v : Int} {lo : zL} (hlo : z_keep [0, 2, 3, 4] lo = [(0, zr 74), (2, zi (i : Int)), (3, zi a), (4, zi (k : Int))])  (hB : zB m) (h_i : i ≤ 19) (h_a : 0 ≤ a ∧ a ≤ 99) (h_k : k ≤ 9) (h_v : 0 ≤ v ∧ v ≤ 99) 
    (k1 : ¬ v = a → (a + (k : Int)) < v → T (D + 4) 257 (85, [(0, zr 74), (2, zi (i : Int)), (5, zi v), (6, zi (a + (k : Int))), (7, zl 9223372036854775807), (9, zi 0)], [], m) κ)
    (k2 : ¬ v = a → ¬ (a + (k : Int)) < v → (v + (m 79 0)) < (a + (k : Int)) → T (D + 4) 257 (85, [(0, zr 74), (2, zi (i : Int)), (5, zi v), (6, zi (a + (k : Int))), (7, zl 9223372036854775807), (9, zi 0)], [], m) κ)
    (k3 : ¬ v = a → ¬ (a + (k : Int)) < v → ¬ (v + (m 79 0)) < (a + (k : Int)) → κ (some (zl (((1000000 * ((((m 79 1) * 0) + ((m 79 2) * 1)))) + 0) + (m 93 ((((10 * (i : Int)) + (a + (k : Int))) - v).toNat))))) m)
    (k4 : v = a → κ (some (zl (m 93 (10 * i + k)))) m) :
    T (D + 4) 257 (6, lo, [zi v], m) κ := by
  have hb4 : 0 ≤ (m 79 0) ∧ (m 79 0) ≤ 9 := hB 79 0
  have hb5 : 0 ≤ (m 79 1) ∧ (m 79 1) ≤ 9 := hB 79 1
  have hb6 : 0 ≤ (m 79 2) ∧ (m 79 2) ≤ 9 := hB 79 2
  have he0 : wr v = v := wr_id (by omega) (by omega)
  have he1 : wr a = a := wr_id (by omega) (by omega)
  have he2 : wr ((10 * (i : Int)) + (k : Int)) = ((10 * (i : Int)) + (k : Int)) := wr_id (by omega) (by omega)
  have he3 : ((10 * (i : Int)) + (k : Int)).toNat = 10 * i + k := by omega
  have he4 : wr (a + (k : Int)) = (a + (k : Int)) := wr_id (by omega) (by omega)
  have he5 : wr (v + (m 79 0)) = (v + (m 79 0)) := wr_id (by omega) (by omega)
  have he6 : wr (((m 79 1) * 0) + ((m 79 2) * 1)) = (((m 79 1) * 0) + ((m 79 2) * 1)) := wr_id (by omega) (by omega)
  have he7 : wr (((10 * (i : Int)) + (a + (k : Int))) - v) = (((10 * (i : Int)) + (a + (k : Int))) - v) := wr_id (by omega) (by omega)
  have key := @zb257_6r T hT D κ m i a k v lo hlo
  simp only [he0, he1, he2, he3, he4, he5, he6, he7, Int.toNat_natCast] at key
  exact key
    k1
    k2
    (fun x0 x1 x2 => by refine ⟨?_, ?_⟩ <;> omega)
    k3
    (fun x0 => by refine ⟨?_, ?_⟩ <;> omega)
    k4
theorem zb257_85r (hT : zRules T) {D : Nat} {κ : Option zA → zM → Prop} {m : zM} {i : Nat} {x : Int} {y : Int} {b : Int} {q : Nat} {lo : zL} (hlo : z_keep [0, 2, 5, 6, 7, 9] lo = [(0, zr 74), (2, zi (i : Int)), (5, zi x), (6, zi y), (7, zl b), (9, zi (q : Int))]) 
    (o1 : wr (m 79 0) < wr (q : Int) → κ (some (zl b)) m)
    (o2 : ¬ wr (m 79 0) < wr (q : Int) → ¬ wr x < wr y → (0 ≤ wr ((10 * (i : Int)) + (q : Int)) ∧ wr ((10 * (i : Int)) + (q : Int)) < 210))
    (o3 : ¬ wr (m 79 0) < wr (q : Int) → ¬ wr x < wr y → T (D + 3) 296 (0, [(0, zl b), (2, zl (((1000000 * (wr (((m 79 1) * ((x - y) + (q : Int))) + ((m 79 2) * 3)))) + (wr ((x - y) + (q : Int)))) + (m 93 ((wr ((10 * (i : Int)) + (q : Int))).toNat))))], [], m) (fun r m1 => T (D + 4) 257 (143, [(0, zr 74), (2, zi (i : Int)), (5, zi x), (6, zi y), (7, zl b), (9, zi (q : Int))], r.toList ++ [], m1) κ))
    (o4 : ¬ wr (m 79 0) < wr (q : Int) → wr x < wr y → (0 ≤ wr ((10 * (i : Int)) + (q : Int)) ∧ wr ((10 * (i : Int)) + (q : Int)) < 210))
    (o5 : ¬ wr (m 79 0) < wr (q : Int) → wr x < wr y → T (D + 3) 296 (0, [(0, zl b), (2, zl (((1000000 * (wr (((m 79 1) * 0) + ((m 79 2) * 2)))) + 0) + (m 93 ((wr ((10 * (i : Int)) + (q : Int))).toNat))))], [], m) (fun r m1 => T (D + 4) 257 (143, [(0, zr 74), (2, zi (i : Int)), (5, zi x), (6, zi y), (7, zl b), (9, zi (q : Int))], r.toList ++ [], m1) κ)) :
    T (D + 4) 257 (85, lo, [], m) κ :=
  zkeep hT hlo (hT.1 [(85, [0, 2, 5, 6, 7, 9])] 6 (D + 4) 257 _ κ (And.intro (z_ixL rfl) (And.intro (fun a1 => (hT.1 [(85, [0, 2, 5, 6, 7, 9])] 6 (D + 4) 257 (151, [(0, zr 74), (2, zi (i : Int)), (5, zi x), (6, zi y), (7, zl b), (9, zi (q : Int))], [], m) _ (o1 a1))) (fun a2 => (hT.1 [(85, [0, 2, 5, 6, 7, 9])] 6 (D + 4) 257 (96, [(0, zr 74), (2, zi (i : Int)), (5, zi x), (6, zi y), (7, zl b), (9, zi (q : Int))], [], m) _ (And.intro (fun a3 => (hT.1 [(85, [0, 2, 5, 6, 7, 9])] 6 (D + 4) 257 (117, [(0, zr 74), (2, zi (i : Int)), (5, zi x), (6, zi y), (7, zl b), (9, zi (q : Int))], [zi x, zr 74, zl b], m) _ (hT.1 [] 6 (D + 3) 256 _ _ (And.intro (z_ixL rfl) (hT.1 [] 6 (D + 3) 256 (10, [(0, zr 74), (1, zi ((x - y) + (q : Int))), (2, zi 3)], [zi ((x - y) + (q : Int)), zi (m 79 1), zl 1000000], m) _ (And.intro (z_ixL rfl) (hT.1 [] 6 (D + 3) 256 (18, [(0, zr 74), (1, zi ((x - y) + (q : Int))), (2, zi 3)], [zi 3, zi (m 79 2), zi ((m 79 1) * ((x - y) + (q : Int))), zl 1000000], m) _ (hT.1 [] 6 (D + 3) 256 (24, [(0, zr 74), (1, zi ((x - y) + (q : Int))), (2, zi 3)], [zl (wr ((x - y) + (q : Int))), zl (1000000 * (wr (((m 79 1) * ((x - y) + (q : Int))) + ((m 79 2) * 3))))], m) _ (hT.1 [(85, [0, 2, 5, 6, 7, 9])] 6 (D + 4) 257 _ _ (hT.1 [(85, [0, 2, 5, 6, 7, 9])] 6 (D + 4) 257 (137, [(0, zr 74), (2, zi (i : Int)), (5, zi x), (6, zi y), (7, zl b), (9, zi (q : Int))], [zi (q : Int), zi (10 * (i : Int)), zr 93, zl ((1000000 * (wr (((m 79 1) * ((x - y) + (q : Int))) + ((m 79 2) * 3)))) + (wr ((x - y) + (q : Int)))), zl b], m) _ (And.intro (o2 a2 a3) (o3 a2 a3)))))))))))) (fun a4 => (hT.1 [(85, [0, 2, 5, 6, 7, 9])] 6 (D + 4) 257 (107, [(0, zr 74), (2, zi (i : Int)), (5, zi x), (6, zi y), (7, zl b), (9, zi (q : Int))], [zi 0, zr 74, zl b], m) _ (hT.1 [] 6 (D + 3) 256 _ _ (And.intro (z_ixL rfl) (hT.1 [] 6 (D + 3) 256 (10, [(0, zr 74), (1, zi 0), (2, zi 2)], [zi 0, zi (m 79 1), zl 1000000], m) _ (And.intro (z_ixL rfl) (hT.1 [] 6 (D + 3) 256 (18, [(0, zr 74), (1, zi 0), (2, zi 2)], [zi 2, zi (m 79 2), zi ((m 79 1) * 0), zl 1000000], m) _ (hT.1 [] 6 (D + 3) 256 (24, [(0, zr 74), (1, zi 0), (2, zi 2)], [zl 0, zl (1000000 * (wr (((m 79 1) * 0) + ((m 79 2) * 2))))], m) _ (hT.1 [(85, [0, 2, 5, 6, 7, 9])] 6 (D + 4) 257 _ _ (hT.1 [(85, [0, 2, 5, 6, 7, 9])] 6 (D + 4) 257 (135, [(0, zr 74), (2, zi (i : Int)), (5, zi x), (6, zi y), (7, zl b), (9, zi (q : Int))], [zi (10 * (i : Int)), zr 93, zl ((1000000 * (wr (((m 79 1) * 0) + ((m 79 2) * 2)))) + 0), zl b], m) _ (And.intro (o4 a2 (Classical.byContradiction a4)) (o5 a2 (Classical.byContradiction a4)))))))))))))))))))
theorem zb257_85 (hT : zRules T) {D : Nat} {κ : Option zA → zM → Prop} {m : zM} {i : Nat} {x : Int} {y : Int} {b : Int} {q : Nat} {lo : zL} (hlo : z_keep [0, 2, 5, 6, 7, 9] lo = [(0, zr 74), (2, zi (i : Int)), (5, zi x), (6, zi y), (7, zl b), (9, zi (q : Int))])  (hB : zB m) (h_i : i ≤ 19) (h_x : 0 ≤ x ∧ x ≤ 99) (h_y : 0 ≤ y ∧ y ≤ 108) (h_b : (-9223372036854775808) ≤ b ∧ b ≤ 9223372036854775807) (h_q : q ≤ 10) 
    (k1 : (m 79 0) < (q : Int) → κ (some (zl b)) m)
    (k2 : ¬ (m 79 0) < (q : Int) → ¬ x < y → T (D + 3) 296 (0, [(0, zl b), (2, zl (((1000000 * (wr (((m 79 1) * ((x - y) + (q : Int))) + ((m 79 2) * 3)))) + (((x - y) + (q : Int)))) + (m 93 (10 * i + q))))], [], m) (fun r m1 => T (D + 4) 257 (143, [(0, zr 74), (2, zi (i : Int)), (5, zi x), (6, zi y), (7, zl b), (9, zi (q : Int))], r.toList ++ [], m1) κ))
    (k3 : ¬ (m 79 0) < (q : Int) → x < y → T (D + 3) 296 (0, [(0, zl b), (2, zl (((1000000 * ((((m 79 1) * 0) + ((m 79 2) * 2)))) + 0) + (m 93 (10 * i + q))))], [], m) (fun r m1 => T (D + 4) 257 (143, [(0, zr 74), (2, zi (i : Int)), (5, zi x), (6, zi y), (7, zl b), (9, zi (q : Int))], r.toList ++ [], m1) κ)) :
    T (D + 4) 257 (85, lo, [], m) κ := by
  have hb5 : 0 ≤ (m 79 0) ∧ (m 79 0) ≤ 9 := hB 79 0
  have hb6 : 0 ≤ (m 79 1) ∧ (m 79 1) ≤ 9 := hB 79 1
  have hb7 : 0 ≤ (m 79 2) ∧ (m 79 2) ≤ 9 := hB 79 2
  have hb8 : (-2147483648) ≤ wr (((m 79 1) * ((x - y) + (q : Int))) + ((m 79 2) * 3)) ∧ wr (((m 79 1) * ((x - y) + (q : Int))) + ((m 79 2) * 3)) ≤ 2147483647 := wrB (((m 79 1) * ((x - y) + (q : Int))) + ((m 79 2) * 3))
  have he0 : wr (m 79 0) = (m 79 0) := wr_id (by omega) (by omega)
  have he1 : wr (q : Int) = (q : Int) := wr_id (by omega) (by omega)
  have he2 : wr x = x := wr_id (by omega) (by omega)
  have he3 : wr y = y := wr_id (by omega) (by omega)
  have he4 : wr (((m 79 1) * 0) + ((m 79 2) * 2)) = (((m 79 1) * 0) + ((m 79 2) * 2)) := wr_id (by omega) (by omega)
  have he5 : wr ((10 * (i : Int)) + (q : Int)) = ((10 * (i : Int)) + (q : Int)) := wr_id (by omega) (by omega)
  have he6 : ((10 * (i : Int)) + (q : Int)).toNat = 10 * i + q := by omega
  have he7 : wr ((x - y) + (q : Int)) = ((x - y) + (q : Int)) := wr_id (by omega) (by omega)
  have key := @zb257_85r T hT D κ m i x y b q lo hlo
  simp only [he0, he1, he2, he3, he4, he5, he6, he7, Int.toNat_natCast] at key
  exact key
    k1
    (fun x0 x1 => by refine ⟨?_, ?_⟩ <;> omega)
    k2
    (fun x0 x1 => by refine ⟨?_, ?_⟩ <;> omega)
    k3
theorem zb257_143r (hT : zRules T) {D : Nat} {κ : Option zA → zM → Prop} {m : zM} {i : Nat} {x : Int} {y : Int} {v : Int} {q : Nat} {lo : zL} (hlo : z_keep [0, 2, 5, 6, 9] lo = [(0, zr 74), (2, zi (i : Int)), (5, zi x), (6, zi y), (9, zi (q : Int))]) 
    (o1 : T (D + 4) 257 (85, [(0, zr 74), (2, zi (i : Int)), (5, zi x), (6, zi y), (7, zl v), (9, zi ((q : Int) + 1))], [], m) κ) :
    T (D + 4) 257 (143, lo, [zl v], m) κ :=
  zkeep hT hlo (hT.1 [(85, [0, 2, 5, 6, 7, 9])] 6 (D + 4) 257 _ κ (o1))
theorem zb257_143 (hT : zRules T) {D : Nat} {κ : Option zA → zM → Prop} {m : zM} {i : Nat} {x : Int} {y : Int} {v : Int} {q : Nat} {lo : zL} (hlo : z_keep [0, 2, 5, 6, 9] lo = [(0, zr 74), (2, zi (i : Int)), (5, zi x), (6, zi y), (9, zi (q : Int))])  (hB : zB m) (h_i : i ≤ 19) (h_x : 0 ≤ x ∧ x ≤ 99) (h_y : 0 ≤ y ∧ y ≤ 108) (h_v : (-9223372036854775808) ≤ v ∧ v ≤ 9223372036854775807) (h_q : q ≤ 9) 
    (k1 : T (D + 4) 257 (85, [(0, zr 74), (2, zi (i : Int)), (5, zi x), (6, zi y), (7, zl v), (9, zi ((q : Int) + 1))], [], m) κ) :
    T (D + 4) 257 (143, lo, [zl v], m) κ := by
  exact zb257_143r hT hlo
    k1
theorem zb296_0r (hT : zRules T) {D : Nat} {κ : Option zA → zM → Prop} {m : zM} {a : Int} {b : Int} 
    (o1 : 0 < wr (z_lc a b) → κ (some (zl b)) m)
    (o2 : ¬ 0 < wr (z_lc a b) → κ (some (zl a)) m) :
    T (D + 3) 296 (0, [(0, zl a), (2, zl b)], [], m) κ :=
  hT.1 [] 6 (D + 3) 296 _ κ (And.intro (fun a1 => (o1 a1)) (fun a2 => (hT.1 [] 6 (D + 3) 296 (11, [(0, zl a), (2, zl b)], [zl a], m) _ (o2 a2))))
theorem zb296_0 (hT : zRules T) {D : Nat} {κ : Option zA → zM → Prop} {m : zM} {a : Int} {b : Int}  (h_a : (-9223372036854775808) ≤ a ∧ a ≤ 9223372036854775807) (h_b : (-9223372036854775808) ≤ b ∧ b ≤ 9223372036854775807) 
    (k1 : 0 < (z_lc a b) → κ (some (zl b)) m)
    (k2 : ¬ 0 < (z_lc a b) → κ (some (zl a)) m) :
    T (D + 3) 296 (0, [(0, zl a), (2, zl b)], [], m) κ := by
  have hb2 : (-1) ≤ (z_lc a b) ∧ (z_lc a b) ≤ 1 := z_lcB a b
  have he0 : wr (z_lc a b) = (z_lc a b) := wr_id (by omega) (by omega)
  have key := @zb296_0r T hT D κ m a b
  simp only [he0, Int.toNat_natCast] at key
  exact key
    k1
    k2
end ZBlocks
end
-- 9f.planc.lean.txt
section
/-! The class's plan(): it ends. -/
theorem cost_rng2 {s w p q : Int} (hs : 0 ≤ s ∧ s ≤ 120) (hw : 0 ≤ w ∧ w ≤ 3) (hp : 0 ≤ p ∧ p ≤ 9) (hq : 0 ≤ q ∧ q ≤ 9) : 0 ≤ s * p + w * q ∧ s * p + w * q ≤ 1107 := by
  have h1 := Int.mul_nonneg hs.1 hp.1
  have h2 := Int.mul_nonneg hw.1 hq.1
  have h3 : s * p ≤ 120 * 9 := Int.mul_le_mul hs.2 hp.2 hp.1 (by omega)
  have h4 : w * q ≤ 3 * 9 := Int.mul_le_mul hw.2 hq.2 hq.1 (by omega)
  omega
section ZPlanC
variable {T : Nat → Nat → zG → (Option zA → zM → Prop) → Prop} {B : Int}
theorem z_cheapStep0 (hT : zRules T) {D : Nat} {κ : Option zA → zM → Prop} {m : zM} {a l x S : Int} (hB : zB m) (ha : 0 ≤ a ∧ a ≤ 99) (hl : a ≤ l ∧ l ≤ a + m 24 0) (hx : 0 ≤ x ∧ x ≤ 99) (hS : 0 ≤ S ∧ S ≤ 100000000) (h55 : ∀ j : Nat, (j : Int) ≤ m 24 0 → 0 ≤ m 55 j ∧ m 55 j ≤ S)
    (hk : ∀ v : Int, (0 ≤ v ∧ v ≤ S + 5000000) → κ (some (zi v)) m) : T (D + 5) 86 (0, [(0, zr 52), (1, zr 17), (2, zi a), (3, zi l), (4, zi x)], [], m) κ := by
  have b24 : 0 ≤ m 24 0 ∧ m 24 0 ≤ 9 := hB 24 0
  have p1 : 0 ≤ m 24 1 ∧ m 24 1 ≤ 9 := hB 24 1
  have p2 : 0 ≤ m 24 2 ∧ m 24 2 ≤ 9 := hB 24 2
  have loop : ∀ (j k : Nat) (w b : Int), k + j = 10 → (0 ≤ w ∧ w ≤ 3) → (w = 3 → l < x) → (0 ≤ b ∧ b ≤ S + 5000000) → T (D + 5) 86 (56, [(0, zr 52), (1, zr 17), (3, zi l), (4, zi x), (5, zi w), (7, zi b), (8, zi (k : Int))], [], m) κ := by
    intro j
    induction j with
    | zero =>
      intro k w b hj hw hwl hb
      exact zb86_56 hT rfl hB (by omega) hx hw (by omega) (by omega) (fun _ => hk b hb) (fun q => by omega) (fun q => by omega) (fun q => by omega) (fun q => by omega) (fun q => by omega) (fun q => by omega)
    | succ j ih =>
      intro k w b hj hw hwl hb
      have r1 : ¬ m 24 0 < (k : Int) → 0 ≤ m 55 k + (((0 * m 24 1 + w * m 24 2) * 4096) + 0) ∧ m 55 k + (((0 * m 24 1 + w * m 24 2) * 4096) + 0) ≤ S + 5000000 := fun q => by
        have h1 := cost_rng2 (s := 0) (w := w) (by omega) hw p1 p2
        have h2 := h55 k (by omega)
        generalize 0 * m 24 1 + w * m 24 2 = e at h1
        omega
      have r2 : ¬ m 24 0 < (k : Int) → w = 3 → 0 ≤ m 55 k + wr ((wr ((((x - l) + (k : Int)) * (m 24 1)) + (w * (m 24 2))) * 4096) + ((x - l) + (k : Int))) ∧ m 55 k + wr ((wr ((((x - l) + (k : Int)) * (m 24 1)) + (w * (m 24 2))) * 4096) + ((x - l) + (k : Int))) ≤ S + 5000000 := fun q q3 => by
        have hlx := hwl q3
        have h1 := cost_rng2 (s := (x - l) + (k : Int)) (w := w) (by omega) hw p1 p2
        have h2 := h55 k (by omega)
        generalize ((x - l) + (k : Int)) * m 24 1 + w * m 24 2 = e at h1
        rw [wr_id (a := e) (by omega) (by omega), wr_id (by omega) (by omega)]
        omega
      have nx : ∀ y : Int, (0 ≤ y ∧ y ≤ S + 5000000) → T (D + 5) 86 (56, [(0, zr 52), (1, zr 17), (3, zi l), (4, zi x), (5, zi w), (7, zi y), (8, zi ((k : Int) + 1))], [], m) κ := fun y hy => ih (k + 1) w y (by omega) hw hwl hy
      exact zb86_56 hT rfl hB (by omega) hx hw (by omega) (by omega) (fun _ => hk b hb) (fun q _ _ => nx _ (r1 q)) (fun _ _ _ _ => nx b hb) (fun q _ _ _ => nx _ (r1 q)) (fun q q3 _ => nx _ (r2 q q3)) (fun _ _ _ _ => nx b hb) (fun q q3 _ _ => nx _ (r2 q q3))
  have st : ∀ w : Int, (0 ≤ w ∧ w ≤ 3) → (w = 3 → l < x) → T (D + 5) 86 (56, [(0, zr 52), (1, zr 17), (3, zi l), (4, zi x), (5, zi w), (7, zi 0), (8, zi 0)], [], m) κ := fun w hw hwl => loop 10 0 w 0 (by omega) hw hwl (by omega)
  have one : ∀ (d : Int) (w : Int), (0 ≤ d ∧ d ≤ m 24 0) → (0 ≤ w ∧ w ≤ 1) → κ (some (zi (wr ((m 55 (d.toNat)) + ((((0 * (m 24 1)) + (w * (m 24 2))) * 4096) + 0))))) m := fun d w hd hw => by
    have h1 := cost_rng2 (s := 0) (w := w) (by omega) (by omega) p1 p2
    have h2 := h55 d.toNat (by omega)
    generalize 0 * m 24 1 + w * m 24 2 = e at h1 ⊢
    rw [wr_id (by omega) (by omega)]
    exact hk _ (by omega)
  exact zb86_0 hT hB ha (by omega) hx (fun _ _ _ => st 2 (by omega) (fun q => by omega)) (fun _ q1 q2 => one (l - x) 1 (by omega) (by omega)) (fun _ q => st 3 (by omega) (fun _ => q)) (fun _ _ => st 0 (by omega) (fun q => by omega)) (fun _ _ _ => st 0 (by omega) (fun q => by omega)) (fun q0 q1 q2 => one (l - x) 0 (by omega) (by omega))
theorem z_planCh0 (hT : zRules T) {D : Nat} {κ : Option zA → zM → Prop} {m : zM} {N : Nat} (hB : zB m) (hN : m 52 1 = (N : Int)) (hN1 : 1 ≤ N ∧ N ≤ 20)
    (hk : ∀ v M, isI v → zB M → zFr (inL [(52, some 5), (52, some 6), (55, none), (56, none)]) m M → κ (some (zi v)) M) : T (D + 6) 84 (0, [(0, zr 52), (1, zr 17)], [], m) κ := by
  have b24 : 0 ≤ m 24 0 ∧ m 24 0 ≤ 9 := hB 24 0
  have p1 : 0 ≤ m 24 1 ∧ m 24 1 ≤ 9 := hB 24 1
  have p2 : 0 ≤ m 24 2 ∧ m 24 2 ≤ 9 := hB 24 2
  obtain ⟨h, hh⟩ : ∃ h : Nat, m 24 0 = (h : Int) := ⟨(m 24 0).toNat, by omega⟩
  have last : ∀ (j k : Nat) (b : Int) (M : zM), k + j = 10 → isI b → zB M → zFr (inL [(52, some 5), (52, some 6), (55, none), (56, none)]) m M → (∀ q : Nat, q ≤ h → 0 ≤ M 55 q ∧ M 55 q ≤ 100000000) → T (D + 6) 84 (113, [(0, zr 52), (1, zr 17), (2, zi (h : Int)), (3, zi b), (4, zi (k : Int))], [], M) κ := by
    intro j
    induction j with
    | zero =>
      intro k b M hj hb hBM hF h55
      exact zb84_113 hT rfl hBM (by omega) hb (by omega) (fun _ hz => hk _ _ (wrB _) hz (hF.set rfl)) (fun q => by omega) (fun q => by omega) (fun q => by omega)
    | succ j ih =>
      intro k b M hj hb hBM hF h55
      have b53 : 0 ≤ M 53 0 ∧ M 53 0 ≤ 99 := hBM 53 0
      have e1 : M 24 1 = m 24 1 := hF 24 1 rfl
      have e2 : M 24 2 = m 24 2 := hF 24 2 rfl
      have r : ¬ (h : Int) < (k : Int) → isI ((M 55 k) + ((((((M 53 0) + (k : Int)) * (M 24 1)) + (0 * (M 24 2))) * 4096) + ((M 53 0) + (k : Int)))) := fun q => by
        have h1 := cost_rng2 (s := M 53 0 + (k : Int)) (w := 0) (p := M 24 1) (q := M 24 2) (by omega) (by omega) (by omega) (by omega)
        have h2 := h55 k (by omega)
        generalize (M 53 0 + (k : Int)) * M 24 1 + 0 * M 24 2 = e at h1 ⊢
        unfold isI
        omega
      refine zb84_113 hT rfl hBM (by omega) hb (by omega) (fun _ hz => hk _ _ (wrB _) hz (hF.set rfl)) (fun q _ hz => ?_) (fun _ _ _ => ih (k + 1) b M (by omega) hb hBM hF h55) (fun q _ _ hz => ?_)
      · exact ih (k + 1) _ _ (by omega) (r q) hz (hF.set rfl) (fun y hy => by rw [zu_dn (by omega)]; exact h55 y hy)
      · exact ih (k + 1) _ _ (by omega) (r q) hz (hF.set rfl) (fun y hy => by rw [zu_dn (by omega)]; exact h55 y hy)
  have steps : ∀ (j : Nat) (M : zM), j + 1 ≤ N → zB M → zFr (inL [(52, some 5), (52, some 6), (55, none), (56, none)]) m M → (∀ q : Nat, q ≤ h → 0 ≤ M 55 q ∧ M 55 q ≤ 5000000 * ((N - 1 - j : Nat) : Int)) → T (D + 6) 84 (32, [(0, zr 52), (1, zr 17), (2, zi (h : Int)), (3, zi ((j : Int) - 1))], [], M) κ := by
    intro j
    induction j with
    | zero =>
      intro M hj hBM hF h55
      exact zb84_32 hT rfl hBM (by omega) (by omega) (fun _ => last 10 0 0 M (by omega) (by unfold isI; omega) hBM hF (fun q hq => by have := h55 q hq; omega)) (fun q => by omega)
    | succ j ih =>
      intro M hj hBM hF h55
      rw [show ((j + 1 : Nat) : Int) - 1 = (j : Int) by omega]
      refine zb84_32 hT rfl hBM (by omega) (by omega) (fun q => by omega) (fun _ => ?_)
      have row : ∀ (i k : Nat) (M2 : zM), k + i = h + 1 → zB M2 → zFr (inL [(56, none)]) M M2 → (∀ q : Nat, q < k → 0 ≤ M2 56 q ∧ M2 56 q ≤ 5000000 * ((N - 1 - j : Nat) : Int)) → T (D + 6) 84 (39, [(0, zr 52), (1, zr 17), (2, zi (h : Int)), (3, zi (j : Int)), (4, zi (k : Int))], [], M2) κ := by
        intro i
        induction i with
        | zero =>
          intro k M2 hki hB2 hF2 h56
          refine zb84_39 hT rfl hB2 (by omega) (by omega) (by omega) (fun _ hz => ?_) (fun q => by omega)
          rw [show (j : Int) + (-1) = (j : Int) - 1 by omega]
          refine ih _ (by omega) hz ((hF.trans (hF2.sub (inL_sub (by decide)))).cp (fun _ => rfl)) (fun q hq => ?_)
          rw [z_cp_in (by omega), show 0 + (q - 0) = q by omega]
          exact h56 q (by omega)
        | succ i ih2 =>
          intro k M2 hki hB2 hF2 h56
          have c53 : 0 ≤ M2 53 j ∧ M2 53 j ≤ 99 := hB2 53 j
          have d53 : 0 ≤ M2 53 (j + 1) ∧ M2 53 (j + 1) ≤ 99 := hB2 53 (j + 1)
          have e24 : M2 24 0 = (h : Int) := by rw [hF2 24 0 rfl, hF 24 0 rfl, hh]
          refine zb84_39 hT rfl hB2 (by omega) (by omega) (by omega) (fun q => by omega) (fun _ => ?_)
          refine z_cheapStep0 (S := 5000000 * ((N - 1 - (j + 1) : Nat) : Int)) hT hB2 c53 (by omega) d53 (by omega) (fun q hq => by rw [hF2 55 q rfl]; exact h55 q (by omega)) (fun v hv => ?_)
          refine zb84_79 hT rfl hB2 (by omega) (by omega) (by omega) (by omega) (fun hz => ?_)
          refine ih2 (k + 1) _ (by omega) hz (hF2.set rfl) (fun q hq => ?_)
          by_cases e : q = k
          · rw [e, zu_sm rfl]
            omega
          · rw [zu_off (by omega)]
            exact h56 q (by omega)
      exact row (h + 1) 0 M (by omega) hBM zFr.refl (fun q hq => by omega)
  refine zb84_0 hT hB ?_
  rw [hh]
  have zero : ∀ (j k : Nat) (M : zM), k + j = h + 1 → zB M → zFr (inL [(55, none)]) m M → (∀ q : Nat, q < k → M 55 q = 0) → T (D + 6) 84 (7, [(0, zr 52), (1, zr 17), (2, zi (h : Int)), (3, zi (k : Int))], [], M) κ := by
    intro j
    induction j with
    | zero =>
      intro k M hj hBM hF h0
      refine zb84_7 hT rfl hBM (by omega) (by omega) (fun _ => ?_) (fun q => by omega)
      rw [hF 52 1 rfl, hN, show (N : Int) - 2 = ((N - 1 : Nat) : Int) - 1 by omega]
      exact steps (N - 1) M (by omega) hBM (hF.sub (inL_sub (by decide))) (fun q hq => by rw [h0 q (by omega)]; omega)
    | succ j ih =>
      intro k M hj hBM hF h0
      refine zb84_7 hT rfl hBM (by omega) (by omega) (fun q => by omega) (fun _ hz => ?_)
      refine ih (k + 1) _ (by omega) hz (hF.set rfl) (fun q hq => ?_)
      by_cases e : q = k
      · rw [e, zu_sm rfl]
      · rw [zu_off (by omega)]
        exact h0 q (by omega)
  exact zero (h + 1) 0 m (by omega) hB zFr.refl (fun q hq => by omega)
end ZPlanC
end
-- 9g.plan.lean.txt
section
/-! plan(): it ends, and leaves what matters. -/
theorem cost_rng3 {s w p q : Int} (hs : 0 ≤ s ∧ s ≤ 120) (hw : 0 ≤ w ∧ w ≤ 3) (hp : 0 ≤ p ∧ p ≤ 9) (hq : 0 ≤ q ∧ q ≤ 9) : 0 ≤ p * s + q * w ∧ p * s + q * w ≤ 1107 := by
  have h := cost_rng2 hs hw hp hq
  rw [Int.mul_comm p s, Int.mul_comm q w]
  exact h
theorem lc_pos {a b : Int} (ha : -9223372036854775808 ≤ a ∧ a ≤ 9223372036854775807) (hb : -9223372036854775808 ≤ b ∧ b ≤ 9223372036854775807) (h : b < a) : z_lc a b = 1 := by
  unfold z_lc
  rw [wl_id ha.1 ha.2, wl_id hb.1 hb.2, if_pos h]
section ZPlan
variable {T : Nat → Nat → zG → (Option zA → zM → Prop) → Prop} {B : Int}
theorem z_lmin (hT : zRules T) {D : Nat} {κ : Option zA → zM → Prop} {m : zM} {b t U : Int} (hb : b = 9223372036854775807 ∨ (0 ≤ b ∧ b ≤ U)) (ht : 0 ≤ t ∧ t ≤ U) (hU : U ≤ 1000000000000) (hk : ∀ v, (0 ≤ v ∧ v ≤ U) → κ (some (zl v)) m) : T (D + 3) 296 (0, [(0, zl b), (2, zl t)], [], m) κ := by
  have rb : -9223372036854775808 ≤ b ∧ b ≤ 9223372036854775807 := by omega
  refine zb296_0 hT rb (by omega) (fun _ => hk t ht) (fun q => ?_)
  rcases hb with e | e
  · rw [lc_pos rb (by omega) (by omega)] at q
    exact absurd q (by decide)
  · exact hk b e
theorem z_leftFrom0 (hT : zRules T) {D : Nat} {κ : Option zA → zM → Prop} {m M : zM} {sc : zSc} {n k p pl e q : Nat} {a S : Int} (hI : Inv B sc n k m) (hBM : zB M) (hA : Agree coreK m M) (hp : p < n) (hpl : m 75 p = (pl : Int)) (he : e ≤ 19) (ha : 0 ≤ a ∧ a ≤ 99) (hq : (q : Int) ≤ M 79 0) (hS : 0 ≤ S ∧ S ≤ 100000000000)
    (h93 : ∀ j : Nat, (j : Int) ≤ M 79 0 → 0 ≤ M 93 (10 * e + j) ∧ M 93 (10 * e + j) ≤ S)
    (hk : ∀ v M1, (0 ≤ v ∧ v ≤ S + 2000000000) → zB M1 → zFr (inL lbL) M M1 → κ (some (zl v)) M1) : T (D + 172) 257 (0, [(0, zr 74), (1, zi (p : Int)), (2, zi (e : Int)), (3, zi a), (4, zi (q : Int))], [], M) κ := by
  have i1 := hI.1
  have b17 : 0 ≤ m 17 0 ∧ m 17 0 ≤ 6 := i1 17 0
  have n1 := hI.2.2.2.1.1.1
  have b79 : 0 ≤ M 79 0 ∧ M 79 0 ≤ 9 := hBM 79 0
  have p1 : 0 ≤ M 79 1 ∧ M 79 1 ≤ 9 := hBM 79 1
  have p2 : 0 ≤ M 79 2 ∧ M 79 2 ≤ 9 := hBM 79 2
  refine zb257_0 (D := D + 168) hT hBM (by omega) he ha (by omega) ?_
  refine z_lawInF (d := e) (pl := pl) hT hI hBM (hA.sub (fun q hq => List.mem_append.mpr (Or.inr (List.mem_append.mpr (Or.inl hq))))) (funext fun j => hA 78 j rfl) (hA 75 57 rfl) hp ((hA 75 p rfl).trans hpl) (by omega) (fun M1 hB1 hF1 => ?_)
  have hx := laFB (m := m) (p := p) (pl := pl) (k := e)
  generalize laF m p pl e = x at hx ⊢
  have f79 : ∀ j, M1 79 j = M 79 j := fun j => hF1 79 j rfl
  have f93 : ∀ j, M1 93 j = M 93 j := fun j => hF1 93 j rfl
  have loop : ∀ (i t : Nat) (y b : Int), t + i = 10 → (0 ≤ y ∧ y ≤ 108) → ((t = 0 ∧ b = 9223372036854775807) ∨ (0 ≤ b ∧ b ≤ S + 2000000000)) → T (D + 172) 257 (85, [(0, zr 74), (2, zi (e : Int)), (5, zi x), (6, zi y), (7, zl b), (9, zi (t : Int))], [], M1) κ := by
    intro i
    induction i with
    | zero =>
      intro t y b hti hy hb
      refine zb257_85 (D := D + 168) hT rfl hB1 he hx hy (by omega) (by omega) (fun _ => hk b M1 (by omega) hB1 hF1) (fun q => by rw [f79] at q; omega) (fun q => by rw [f79] at q; omega)
    | succ i ih =>
      intro t y b hti hy hb
      have hb2 : b = 9223372036854775807 ∨ (0 ≤ b ∧ b ≤ S + 2000000000) := by omega
      have nx : ∀ v : Int, (0 ≤ v ∧ v ≤ S + 2000000000) → ¬ M1 79 0 < (t : Int) → T (D + 172) 257 (143, [(0, zr 74), (2, zi (e : Int)), (5, zi x), (6, zi y), (7, zl b), (9, zi (t : Int))], [zl v], M1) κ := fun v hv q => by
        rw [f79] at q
        exact zb257_143 (D := D + 168) hT rfl hB1 he hx hy (by omega) (by omega) (ih (t + 1) y v (by omega) hy (Or.inr hv))
      refine zb257_85 (D := D + 168) hT rfl hB1 he hx hy (by omega) (by omega) (fun q => hk b M1 (by rw [f79] at q; omega) hB1 hF1) (fun q q2 => ?_) (fun q q2 => ?_)
      · have q' := q
        rw [f79] at q'
        have h1 := cost_rng3 (s := (x - y) + (t : Int)) (w := 3) (p := M1 79 1) (q := M1 79 2) (by omega) (by omega) (by rw [f79]; exact p1) (by rw [f79]; exact p2)
        have h2 := h93 t (by omega)
        rw [f93]
        generalize M1 79 1 * ((x - y) + (t : Int)) + M1 79 2 * 3 = c at h1 ⊢
        rw [wr_id (by omega) (by omega)]
        exact z_lmin (D := D + 168) (U := S + 2000000000) hT hb2 (by omega) (by omega) (fun v hv => nx v hv q)
      · have q' := q
        rw [f79] at q'
        have h1 := cost_rng3 (s := 0) (w := 2) (p := M1 79 1) (q := M1 79 2) (by omega) (by omega) (by rw [f79]; exact p1) (by rw [f79]; exact p2)
        have h2 := h93 t (by omega)
        rw [f93]
        generalize M1 79 1 * 0 + M1 79 2 * 2 = c at h1 ⊢
        exact z_lmin (D := D + 168) (U := S + 2000000000) hT hb2 (by omega) (by omega) (fun v hv => nx v hv q)
  refine zb257_6 (D := D + 168) hT rfl hB1 he ha (by omega) hx (fun _ _ => loop 10 0 _ _ (by omega) (by omega) (Or.inl ⟨rfl, rfl⟩)) (fun _ _ _ => loop 10 0 _ _ (by omega) (by omega) (Or.inl ⟨rfl, rfl⟩)) (fun _ q1 q2 => ?_) (fun _ => ?_)
  · rw [f79] at q2
    have h1 := cost_rng3 (s := 0) (w := 1) (p := M1 79 1) (q := M1 79 2) (by omega) (by omega) (by rw [f79]; exact p1) (by rw [f79]; exact p2)
    have h2 := h93 ((a + (q : Int)) - x).toNat (by omega)
    rw [show (((10 * (e : Int)) + (a + (q : Int))) - x).toNat = 10 * e + ((a + (q : Int)) - x).toNat by omega, f93]
    generalize M1 79 1 * 0 + M1 79 2 * 1 = c at h1 ⊢
    exact hk _ M1 (by omega) hB1 hF1
  · rw [f93]
    have h2 := h93 q hq
    exact hk _ M1 (by omega) hB1 hF1
theorem w_plan0 (hT : zRules T) {p nn : Int} (hp : isI p) (hn : isI nn) : Way T 140 258 [(0, zr 1), (1, zi p), (2, zi nn)] [(0, zr 74), (1, zi p), (2, zi nn)] 7 173 B B False := by
  rintro D m sc ⟨n, k, hI⟩ κ hκ
  have hI0 := hI
  obtain ⟨i1, i2, i3, i4, i5, i6, i7, i8, i9, i10, i11⟩ := hI
  obtain ⟨⟨n1, n2⟩, ⟨k1, k2⟩, hh, hRel, hok⟩ := i4
  have b17 : 0 ≤ m 17 0 ∧ m 17 0 ≤ 6 := i1 17 0
  have ref : ∀ (r : Option zA) (M0 : zM), zB M0 → Agree coreK m M0 → κ r M0 := by
    intro r M0 hB0 hA0
    refine hκ _ _ (fun D2 κ2 h2 => ?_)
    have t12 : Agree coreK m (zu M0 74 12 0) := hA0.trans (.of (L := [(74, some 12)]) (zFr.refl.set rfl) rfl)
    have fin : ∀ r2 M1, zB M1 → Agree coreK m M1 → κ2 r2 M1 := fun r2 M1 hB1 hA1 => h2 _ _ (fun x => x.elim) ⟨n, k, Inv_fr hA1 hB1 hI0⟩
    have e4 : M0 74 4 = (n : Int) := (hA0 74 4 rfl).trans n2
    refine zb258_0 (D := D2 + 168) hT hB0 hp hn (fun _ hz => fin _ _ hz t12) (fun _ _ hz => fin _ _ hz t12) (fun _ _ _ hz => fin _ _ hz t12) (fun _ _ _ _ hz => fin _ _ hz t12) (fun q1 q2 q3 q4 hz => ?_)
    obtain ⟨a, rfl⟩ : ∃ a : Nat, p = (a : Int) := ⟨p.toNat, by omega⟩
    obtain ⟨N, rfl⟩ : ∃ N : Nat, nn = (N : Int) := ⟨nn.toNat, by omega⟩
    have bpl := (hok.1 a (by omega)).1
    obtain ⟨pl, hpl⟩ : ∃ pl : Nat, m 75 a = (pl : Int) := ⟨(m 75 a).toNat, by omega⟩
    have law : ∀ (d : Nat) (D3 : Nat) (κ3 : Option zA → zM → Prop) (M : zM), zB M → Agree coreK m M → d ≤ 20 → (∀ v M1, (0 ≤ v ∧ v ≤ 99) → zB M1 → zFr (inL lbL) M M1 → κ3 (some (zi v)) M1) → T (D3 + 171) 216 (0, [(0, zr 74), (1, zi (a : Int)), (2, zi (d : Int))], [], M) κ3 := fun d D3 κ3 M hBM hA hd h3 =>
      z_lawInF (d := d) (pl := pl) hT hI0 hBM (hA.sub (fun q hq => List.mem_append.mpr (Or.inr (List.mem_append.mpr (Or.inl hq))))) (funext fun j => hA 78 j rfl) (hA 75 57 rfl) (by omega) ((hA 75 a rfl).trans hpl) (by omega) (fun M1 hB1 hF1 => h3 _ M1 laFB hB1 hF1)
    -- the end: the best hem to begin with
    have h125 : ∀ (i t f : Nat) (b : Int) (M : zM), t + i = 10 → f ≤ 9 → (b = 9223372036854775807 ∨ (0 ≤ b ∧ b ≤ 100000000000)) → zB M → Agree coreK m M → (∀ j : Nat, (j : Int) ≤ M 79 0 → 0 ≤ M 93 j ∧ M 93 j ≤ 50000000000) → T (D2 + 173) 258 (125, [(0, zr 74), (1, zi (a : Int)), (3, zl b), (5, zi (f : Int)), (6, zi (t : Int))], [], M) κ2 := by
      intro i
      induction i with
      | zero =>
        intro t f b M ht hf hb hBM hA h93
        have b79 : 0 ≤ M 79 0 ∧ M 79 0 ≤ 9 := hBM 79 0
        exact zb258_125 (D := D2 + 168) hT rfl hBM (by omega) (by omega) hf (by omega) (fun _ hz2 => fin _ _ hz2 (hA.trans (.of (L := [(74, some 11), (81, none)]) (((((zFr.refl.set rfl).set rfl).set rfl).set rfl).set rfl) rfl))) (fun q => by omega)
      | succ i ih =>
        intro t f b M ht hf hb hBM hA h93
        have b79 : 0 ≤ M 79 0 ∧ M 79 0 ≤ 9 := hBM 79 0
        refine zb258_125 (D := D2 + 168) hT rfl hBM (by omega) (by omega) hf (by omega) (fun _ hz2 => fin _ _ hz2 (hA.trans (.of (L := [(74, some 11), (81, none)]) (((((zFr.refl.set rfl).set rfl).set rfl).set rfl).set rfl) rfl))) (fun q => ?_)
        refine law 0 (D2 + 1) _ M hBM hA (by omega) (fun v M1 hv hB1 hF1 => ?_)
        have hA1 : Agree coreK m M1 := hA.trans (.of hF1 rfl)
        have f79 : M1 79 0 = M 79 0 := hF1 79 0 rfl
        have p1 : 0 ≤ M1 79 1 ∧ M1 79 1 ≤ 9 := hB1 79 1
        have p2 : 0 ≤ M1 79 2 ∧ M1 79 2 ≤ 9 := hB1 79 2
        have c93 : ∀ j : Nat, (j : Int) ≤ M1 79 0 → 0 ≤ M1 93 j ∧ M1 93 j ≤ 50000000000 := fun j hj => by
          rw [hF1 93 j rfl]
          exact h93 j (by omega)
        have h1 := cost_rng3 (s := v + (t : Int)) (w := 0) (p := M1 79 1) (q := M1 79 2) (by omega) (by omega) p1 p2
        have h2 := c93 t (by omega)
        refine zb258_143 (D := D2 + 168) hT rfl hB1 (by omega) (by omega) hf (by omega) hv (fun _ => ?_) (fun _ => ih (t + 1) f b M1 (by omega) hf hb hB1 hA1 c93)
        generalize M1 79 1 * (v + (t : Int)) + M1 79 2 * 0 = c at h1 ⊢
        exact ih (t + 1) t _ M1 (by omega) (by omega) (Or.inr (by omega)) hB1 hA1 c93
    -- the weeks, the last first
    have h57 : ∀ (r : Nat) (M : zM), r + 1 ≤ N → zB M → Agree coreK m M → (∀ j : Nat, (j : Int) ≤ M 79 0 → 0 ≤ M 93 (10 * r + j) ∧ M 93 (10 * r + j) ≤ 2000000000 * ((20 - r : Nat) : Int)) → T (D2 + 173) 258 (57, [(0, zr 74), (1, zi (a : Int)), (3, zi ((r : Int) - 1))], [], M) κ2 := by
      intro r
      induction r with
      | zero =>
        intro M hr hBM hA h93
        refine zb258_57 (D := D2 + 168) hT rfl hBM (by omega) (by omega) (fun _ => ?_) (fun q => by omega)
        exact h125 10 0 0 _ M (by omega) (by omega) (Or.inl rfl) hBM hA (fun j hj => by
          have := h93 j hj
          rw [show 10 * 0 + j = j by omega] at this
          omega)
      | succ r ih =>
        intro M hr hBM hA h93
        rw [show ((r + 1 : Nat) : Int) - 1 = (r : Int) by omega]
        refine zb258_57 (D := D2 + 168) hT rfl hBM (by omega) (by omega) (fun q => by omega) (fun _ => ?_)
        have row : ∀ (i t : Nat) (M : zM), t + i = 10 → zB M → Agree coreK m M → (∀ j : Nat, (j : Int) ≤ M 79 0 → 0 ≤ M 93 (10 * (r + 1) + j) ∧ M 93 (10 * (r + 1) + j) ≤ 2000000000 * ((20 - (r + 1) : Nat) : Int)) → (∀ j : Nat, j < t → 0 ≤ M 93 (10 * r + j) ∧ M 93 (10 * r + j) ≤ 2000000000 * ((20 - r : Nat) : Int)) → T (D2 + 173) 258 (64, [(0, zr 74), (1, zi (a : Int)), (3, zi (r : Int)), (4, zi (t : Int))], [], M) κ2 := by
          intro i
          induction i with
          | zero =>
            intro t M ht hBM hA h93 hr0
            have b79 : 0 ≤ M 79 0 ∧ M 79 0 ≤ 9 := hBM 79 0
            refine zb258_64 (D := D2 + 168) hT rfl hBM (by omega) (by omega) (by omega) (fun _ => ?_) (fun q => by omega)
            exact ih M (by omega) hBM hA (fun j hj => hr0 j (by omega))
          | succ i ih2 =>
            intro t M ht hBM hA h93 hr0
            have b79 : 0 ≤ M 79 0 ∧ M 79 0 ≤ 9 := hBM 79 0
            refine zb258_64 (D := D2 + 168) hT rfl hBM (by omega) (by omega) (by omega) (fun q => ?_) (fun q => ?_)
            · exact ih M (by omega) hBM hA (fun j hj => hr0 j (by omega))
            refine law r (D2 + 1) _ M hBM hA (by omega) (fun v M1 hv hB1 hF1 => ?_)
            have hA1 : Agree coreK m M1 := hA.trans (.of hF1 rfl)
            have f79 : M1 79 0 = M 79 0 := hF1 79 0 rfl
            rw [show (r : Int) + 1 = ((r + 1 : Nat) : Int) by omega, show (10 * (r : Int)) + (t : Int) = ((10 * r + t : Nat) : Int) by omega]
            refine zb258_97 (D := D2 + 168) hT rfl hB1 (by omega) (by omega) (by omega) hv (by omega) (by omega) ?_
            refine z_leftFrom0 (pl := pl) (S := 2000000000 * ((20 - (r + 1) : Nat) : Int)) hT hI0 hB1 hA1 (by omega) hpl (by omega) hv (by omega) (by omega) (fun j hj => by rw [hF1 93 (10 * (r + 1) + j) rfl]; exact h93 j (by omega)) (fun w M2 hw hB2 hF2 => ?_)
            have hFa := hF1.trans hF2
            have hA2 : Agree coreK m M2 := hA1.trans (.of hF2 rfl)
            refine zb258_102 (D := D2 + 168) hT rfl hB2 (by omega) (by omega) (by omega) (by omega) (by omega) (fun hz3 => ?_)
            refine ih2 (t + 1) _ (by omega) hz3 (hA2.trans (.of (L := [(93, none)]) (zFr.refl.set rfl) rfl)) (fun j hj => ?_) (fun j hj => ?_)
            · rw [zu_dn (by omega), hFa 79 0 rfl] at hj
              rw [zu_off (by omega), hFa 93 (10 * (r + 1) + j) rfl]
              exact h93 j hj
            · by_cases ej : j = t
              · rw [ej, zu_sm rfl]
                omega
              · rw [zu_off (by omega), hFa 93 (10 * r + j) rfl]
                exact hr0 j (by omega)
        exact row 10 0 M (by omega) hBM hA h93 (fun j hj => by omega)
    have h27 : ∀ (i t : Nat) (M : zM), t + i = 10 → zB M → Agree coreK m M → (∀ j : Nat, j < t → M 93 (10 * (N - 1) + j) = 0) → T (D2 + 173) 258 (27, [(0, zr 74), (1, zi (a : Int)), (2, zi (N : Int)), (3, zi (t : Int))], [], M) κ2 := by
      intro i
      induction i with
      | zero =>
        intro t M ht hBM hA h0
        have b79 : 0 ≤ M 79 0 ∧ M 79 0 ≤ 9 := hBM 79 0
        refine zb258_27 (D := D2 + 168) hT rfl hBM (by omega) (by omega) (by omega) (fun _ => ?_) (fun q => by omega) (fun q => by omega)
        rw [show (N : Int) - 2 = ((N - 1 : Nat) : Int) - 1 by omega]
        exact h57 (N - 1) M (by omega) hBM hA (fun j hj => by rw [h0 j (by omega)]; omega)
      | succ i ih =>
        intro t M ht hBM hA h0
        have ei : ((10 * ((N : Int) - 1)) + (t : Int)).toNat = 10 * (N - 1) + t := by omega
        refine zb258_27 (D := D2 + 168) hT rfl hBM (by omega) (by omega) (by omega) (fun q => by omega) (fun _ => by omega) (fun _ hz2 => ?_)
        rw [ei] at hz2 ⊢
        refine ih (t + 1) _ (by omega) hz2 (hA.trans (.of (L := [(93, none)]) (zFr.refl.set rfl) rfl)) (fun j hj => ?_)
        by_cases ej : j = t
        · rw [ej, zu_sm rfl]
        · rw [zu_off (by omega)]
          exact h0 j (by omega)
    exact h27 10 0 _ (by omega) hz t12 (fun j hj => by omega)
  refine zb140_0 hT i1 hp hn (fun _ => ref _ _ i1 (fun _ _ _ => rfl)) (fun _ _ => ref _ _ i1 (fun _ _ _ => rfl)) (fun _ _ _ => ref _ _ i1 (fun _ _ _ => rfl)) (fun q1 q2 q3 q4 => ?_) (fun _ _ _ _ => ref _ _ i1 (fun _ _ _ => rfl))
  obtain ⟨a, rfl⟩ : ∃ a : Nat, p = (a : Int) := ⟨p.toNat, by omega⟩
  obtain ⟨N, rfl⟩ : ∃ N : Nat, nn = (N : Int) := ⟨nn.toNat, by omega⟩
  obtain ⟨h78, h18⟩ := hh a (by omega)
  obtain ⟨r1, r2⟩ := hRel.1 a (by omega)
  have bpl := (hok.1 a (by omega)).1
  obtain ⟨pl, hpl⟩ : ∃ pl : Nat, m 75 a = (pl : Int) := ⟨(m 75 a).toNat, by omega⟩
  rw [Int.toNat_natCast, r1, hpl]
  refine z_lookAhead (D := D + 1) hT i1 (by omega) (by omega) (by omega) (by omega) i3 (fun m1 hB2 hF1 g1 g2 => ?_)
  refine zb140_39 hT rfl hB2 ?_
  refine z_planCh0 (N := N) hT hB2 g1 (by omega) (fun v M hv hBM hF2 => ?_)
  have hFa : zFr (inL [(13, none), (52, some 1), (52, some 5), (52, some 6), (53, none), (55, none), (56, none)]) m M := (hF1.sub (inL_sub (by decide))).trans (hF2.sub (inL_sub (by decide)))
  have hA : Agree coreK m M := .of hFa rfl
  exact zb140_50 hT rfl hBM hv (fun hz => ref _ _ hz (hA.trans (.of (L := [(72, some 1), (73, none)]) (((zFr.refl.set rfl).set rfl).set rfl) rfl)))
end ZPlan
end
