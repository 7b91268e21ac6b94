section ZBlocks
variable {T : Nat → Nat → zG → (Option zA → zM → Prop) → Prop}
theorem zb144_0r (hT : zRules T) {D : Nat} {κ : Option zA → zM → Prop} {m : zM} {x : Int} 
    (o1 : wr x < 0 → κ (some (zi (-1))) m)
    (o2 : ¬ wr x < 0 → wr (z_shr x (m 17 0)) = 0 → T (D + 6) 293 (0, [(0, zi x)], [], m) (fun r m1 => T (D + 7) 144 (22, [(0, zr 1), (1, zi x)], r.toList ++ [], m1) κ))
    (o3 : ¬ wr x < 0 → ¬ wr (z_shr x (m 17 0)) = 0 → κ (some (zi (-1))) m) :
    T (D + 7) 144 (0, [(0, zr 1), (1, zi x)], [], m) κ :=
  hT.1 [(44, [0, 1, 2])] 6 (D + 7) 144 _ κ (And.intro (fun a1 => (o1 a1)) (fun a2 => (hT.1 [(44, [0, 1, 2])] 6 (D + 7) 144 (12, [(0, zr 1), (1, zi x)], [zi (m 17 0), zi x], m) _ (And.intro (fun a3 => (o2 a2 a3)) (fun a4 => (o3 a2 a4))))))
theorem zb144_0 (hT : zRules T) {D : Nat} {κ : Option zA → zM → Prop} {m : zM} {x : Int}  (hB : zB m) (h_x : (-2147483648) ≤ x ∧ x ≤ 2147483647) 
    (k1 : x < 0 → κ (some (zi (-1))) m)
    (k2 : ¬ x < 0 → (z_shr x (m 17 0)) = 0 → T (D + 6) 293 (0, [(0, zi x)], [], m) (fun r m1 => T (D + 7) 144 (22, [(0, zr 1), (1, zi x)], r.toList ++ [], m1) κ))
    (k3 : ¬ x < 0 → ¬ (z_shr x (m 17 0)) = 0 → κ (some (zi (-1))) m) :
    T (D + 7) 144 (0, [(0, zr 1), (1, zi x)], [], m) κ := by
  have hb1 : 0 ≤ (m 17 0) ∧ (m 17 0) ≤ 6 := hB 17 0
  have hb2 : (-2147483648) ≤ (z_shr x (m 17 0)) ∧ (z_shr x (m 17 0)) ≤ 2147483647 := z_shrB x (m 17 0)
  have he0 : wr x = x := wr_id (by omega) (by omega)
  have he1 : wr (z_shr x (m 17 0)) = (z_shr x (m 17 0)) := wr_id (by omega) (by omega)
  have key := @zb144_0r T hT D κ m x
  simp only [he0, he1, Int.toNat_natCast] at key
  exact key
    k1
    k2
    k3
theorem zb144_22r (hT : zRules T) {D : Nat} {κ : Option zA → zM → Prop} {m : zM} {x : Nat} {v : Int} {lo : zL} (hlo : z_keep [0, 1] lo = [(0, zr 1), (1, zi (x : Int))]) 
    (o1 : ¬ wr (m 17 1) < wr v → T (D + 7) 144 (44, [(0, zr 1), (1, zi (x : Int)), (2, zi 0)], [], (zu m 52 1 0)) κ)
    (o2 : wr (m 17 1) < wr v → κ (some (zi (-2))) m) :
    T (D + 7) 144 (22, lo, [zi v], m) κ :=
  zkeep hT hlo (hT.1 [(44, [0, 1, 2])] 6 (D + 7) 144 _ κ (And.intro (fun a1 => (hT.1 [(44, [0, 1, 2])] 6 (D + 7) 144 (39, [(0, zr 1), (1, zi (x : Int))], [zr 52], m) _ (hT.1 [] 6 (D + 6) 74 _ _ (And.intro trivial (hT.1 [(44, [0, 1, 2])] 6 (D + 7) 144 _ _ (o1 a1)))))) (fun a2 => (o2 (Classical.byContradiction a2)))))
theorem zb144_22 (hT : zRules T) {D : Nat} {κ : Option zA → zM → Prop} {m : zM} {x : Nat} {v : Int} {lo : zL} (hlo : z_keep [0, 1] lo = [(0, zr 1), (1, zi (x : Int))])  (hB : zB m) (h_x : x ≤ 63) (h_v : 0 ≤ v ∧ v ≤ 63) 
    (k1 : ¬ (m 17 1) < v → zB (zu m 52 1 0) → T (D + 7) 144 (44, [(0, zr 1), (1, zi (x : Int)), (2, zi 0)], [], (zu m 52 1 0)) κ)
    (k2 : (m 17 1) < v → κ (some (zi (-2))) m) :
    T (D + 7) 144 (22, lo, [zi v], m) κ := by
  have hb2 : 0 ≤ (m 17 1) ∧ (m 17 1) ≤ 8 := hB 17 1
  have he0 : wr (m 17 1) = (m 17 1) := wr_id (by omega) (by omega)
  have he1 : wr v = v := wr_id (by omega) (by omega)
  have key := @zb144_22r T hT D κ m x v lo hlo
  simp only [he0, he1, Int.toNat_natCast] at key
  exact key
    (fun x0 => k1 x0 (zB_u hB (show 0 ≤ 0 ∧ 0 ≤ 60 from ⟨by omega, by omega⟩)))
    k2
theorem zb144_44r (hT : zRules T) {D : Nat} {κ : Option zA → zM → Prop} {m : zM} {x : Nat} {i : Nat} {lo : zL} (hlo : z_keep [0, 1, 2] lo = [(0, zr 1), (1, zi (x : Int)), (2, zi (i : Int))]) 
    (o1 : ¬ wr (i : Int) < wr (m 17 0) → T (D + 6) 88 (0, [(0, zr 52), (1, zr 17)], [], m) (fun r m1 => T (D + 7) 144 (93, [(0, zr 1), (1, zi (x : Int)), (2, zi (i : Int))], r.toList ++ [], m1) κ))
    (o2 : wr (i : Int) < wr (m 17 0) → ¬ wr (z_and (z_shr (x : Int) (i : Int)) 1) = 1 → T (D + 7) 144 (44, [(0, zr 1), (1, zi (x : Int)), (2, zi ((i : Int) + 1))], [], m) κ)
    (o3 : wr (i : Int) < wr (m 17 0) → wr (z_and (z_shr (x : Int) (i : Int)) 1) = 1 → T (D + 6) 171 (0, [(0, zr 1), (1, zi (i : Int))], [], m) (fun r m1 => T (D + 7) 144 (73, [(0, zr 1), (1, zi (x : Int)), (2, zi (i : Int))], r.toList ++ [zr 52], m1) κ)) :
    T (D + 7) 144 (44, lo, [], m) κ :=
  zkeep hT hlo (hT.1 [(44, [0, 1, 2])] 6 (D + 7) 144 _ κ (And.intro (fun a1 => (hT.1 [(44, [0, 1, 2])] 6 (D + 7) 144 (83, [(0, zr 1), (1, zi (x : Int)), (2, zi (i : Int))], [zr 1], m) _ (o1 a1))) (fun a2 => (hT.1 [(44, [0, 1, 2])] 6 (D + 7) 144 (56, [(0, zr 1), (1, zi (x : Int)), (2, zi (i : Int))], [zi (x : Int)], m) _ (And.intro (fun a3 => (hT.1 [(44, [0, 1, 2])] 6 (D + 7) 144 (76, [(0, zr 1), (1, zi (x : Int)), (2, zi (i : Int))], [], m) _ (o2 (Classical.byContradiction a2) a3))) (fun a4 => (hT.1 [(44, [0, 1, 2])] 6 (D + 7) 144 (64, [(0, zr 1), (1, zi (x : Int)), (2, zi (i : Int))], [], m) _ (o3 (Classical.byContradiction a2) (Classical.byContradiction a4)))))))))
theorem zb144_44 (hT : zRules T) {D : Nat} {κ : Option zA → zM → Prop} {m : zM} {x : Nat} {i : Nat} {lo : zL} (hlo : z_keep [0, 1, 2] lo = [(0, zr 1), (1, zi (x : Int)), (2, zi (i : Int))])  (hB : zB m) (h_x : x ≤ 63) (h_i : i ≤ 6) 
    (k1 : ¬ (i : Int) < (m 17 0) → T (D + 6) 88 (0, [(0, zr 52), (1, zr 17)], [], m) (fun r m1 => T (D + 7) 144 (93, [(0, zr 1), (1, zi (x : Int)), (2, zi (i : Int))], r.toList ++ [], m1) κ))
    (k2 : (i : Int) < (m 17 0) → ¬ (z_and (z_shr (x : Int) (i : Int)) 1) = 1 → T (D + 7) 144 (44, [(0, zr 1), (1, zi (x : Int)), (2, zi ((i : Int) + 1))], [], m) κ)
    (k3 : (i : Int) < (m 17 0) → (z_and (z_shr (x : Int) (i : Int)) 1) = 1 → T (D + 6) 171 (0, [(0, zr 1), (1, zi (i : Int))], [], m) (fun r m1 => T (D + 7) 144 (73, [(0, zr 1), (1, zi (x : Int)), (2, zi (i : Int))], r.toList ++ [zr 52], m1) κ)) :
    T (D + 7) 144 (44, lo, [], m) κ := by
  have hb2 : 0 ≤ (m 17 0) ∧ (m 17 0) ≤ 6 := hB 17 0
  have hb3 : (-2147483648) ≤ (z_shr (x : Int) (i : Int)) ∧ (z_shr (x : Int) (i : Int)) ≤ 2147483647 := z_shrB (x : Int) (i : Int)
  have hb4 : 0 ≤ (z_and (z_shr (x : Int) (i : Int)) 1) ∧ (z_and (z_shr (x : Int) (i : Int)) 1) ≤ 1 := z_andC (z_shr (x : Int) (i : Int)) 1 (by decide)
  have he0 : wr (i : Int) = (i : Int) := wr_id (by omega) (by omega)
  have he1 : wr (m 17 0) = (m 17 0) := wr_id (by omega) (by omega)
  have he2 : wr (z_and (z_shr (x : Int) (i : Int)) 1) = (z_and (z_shr (x : Int) (i : Int)) 1) := wr_id (by omega) (by omega)
  have key := @zb144_44r T hT D κ m x i lo hlo
  simp only [he0, he1, he2, Int.toNat_natCast] at key
  exact key
    k1
    k2
    k3
theorem zb144_73r (hT : zRules T) {D : Nat} {κ : Option zA → zM → Prop} {m : zM} {x : Nat} {i : Nat} {v : Int} {lo : zL} (hlo : z_keep [0, 1, 2] lo = [(0, zr 1), (1, zi (x : Int)), (2, zi (i : Int))]) 
    (o1 : ¬ wr (m 52 1) < 60 → T (D + 7) 144 (44, [(0, zr 1), (1, zi (x : Int)), (2, zi ((i : Int) + 1))], [], m) κ)
    (o2 : wr (m 52 1) < 60 → (0 ≤ wr (m 52 1) ∧ wr (m 52 1) < 60))
    (o3 : wr (m 52 1) < 60 → T (D + 7) 144 (44, [(0, zr 1), (1, zi (x : Int)), (2, zi ((i : Int) + 1))], [], (zu (zu m 53 ((wr (m 52 1)).toNat) v) 52 1 ((m 52 1) + 1))) κ) :
    T (D + 7) 144 (73, lo, [zi v, zr 52], m) κ :=
  zkeep hT hlo (hT.1 [(44, [0, 1, 2])] 6 (D + 7) 144 _ κ (hT.1 [] 6 (D + 6) 75 _ _ (And.intro (fun a1 => (hT.1 [(44, [0, 1, 2])] 6 (D + 7) 144 _ _ (o1 a1))) (fun a2 => (hT.1 [] 6 (D + 6) 75 (13, [(0, zr 52), (1, zi v)], [zr 53], m) _ (And.intro (And.intro (o2 (Classical.byContradiction a2)) trivial) (hT.1 [] 6 (D + 6) 75 (21, [(0, zr 52), (1, zi v)], [zr 52, zr 52], (zu m 53 ((wr (m 52 1)).toNat) v)) _ (And.intro trivial (hT.1 [(44, [0, 1, 2])] 6 (D + 7) 144 _ _ (o3 (Classical.byContradiction a2)))))))))))
theorem zb144_73 (hT : zRules T) {D : Nat} {κ : Option zA → zM → Prop} {m : zM} {x : Nat} {i : Nat} {v : Int} {lo : zL} (hlo : z_keep [0, 1, 2] lo = [(0, zr 1), (1, zi (x : Int)), (2, zi (i : Int))])  (hB : zB m) (h_x : x ≤ 63) (h_i : i ≤ 5) (h_v : 0 ≤ v ∧ v ≤ 99) 
    (k1 : ¬ (m 52 1) < 60 → T (D + 7) 144 (44, [(0, zr 1), (1, zi (x : Int)), (2, zi ((i : Int) + 1))], [], m) κ)
    (k2 : (m 52 1) < 60 → zB (zu (zu m 53 ((m 52 1).toNat) v) 52 1 ((m 52 1) + 1)) → T (D + 7) 144 (44, [(0, zr 1), (1, zi (x : Int)), (2, zi ((i : Int) + 1))], [], (zu (zu m 53 ((m 52 1).toNat) v) 52 1 ((m 52 1) + 1))) κ) :
    T (D + 7) 144 (73, lo, [zi v, zr 52], m) κ := by
  have hb3 : 0 ≤ (m 52 1) ∧ (m 52 1) ≤ 60 := hB 52 1
  have he0 : wr (m 52 1) = (m 52 1) := wr_id (by omega) (by omega)
  have key := @zb144_73r T hT D κ m x i v lo hlo
  simp only [he0, Int.toNat_natCast] at key
  exact key
    k1
    (fun x0 => by refine ⟨?_, ?_⟩ <;> omega)
    (fun x0 => k2 x0 (zB_u (zB_u hB (show 0 ≤ v ∧ v ≤ 99 from ⟨by omega, by omega⟩)) (show 0 ≤ ((m 52 1) + 1) ∧ ((m 52 1) + 1) ≤ 60 from ⟨by omega, by omega⟩)))
theorem zb144_93r (hT : zRules T) {D : Nat} {κ : Option zA → zM → Prop} {m : zM} {v : Int} {lo : zL} (hlo : z_keep [0] lo = [(0, zr 1)]) 
    (o1 : T (D + 6) 48 (0, [(0, zr 72), (1, zr 58), (2, zi (m 52 1))], [], m) (fun r m1 => T (D + 7) 144 (115, [(0, zr 1), (2, zi v)], r.toList ++ [], m1) κ)) :
    T (D + 7) 144 (93, lo, [zi v], m) κ :=
  zkeep hT hlo (hT.1 [(44, [0, 1, 2])] 6 (D + 7) 144 _ κ (hT.1 [(44, [0, 1, 2])] 6 (D + 7) 144 (105, [(0, zr 1), (2, zi v)], [zr 58, zr 72], m) _ (o1)))
theorem zb144_93 (hT : zRules T) {D : Nat} {κ : Option zA → zM → Prop} {m : zM} {v : Int} {lo : zL} (hlo : z_keep [0] lo = [(0, zr 1)])  (hB : zB m) (h_v : (-2147483648) ≤ v ∧ v ≤ 2147483647) 
    (k1 : T (D + 6) 48 (0, [(0, zr 72), (1, zr 58), (2, zi (m 52 1))], [], m) (fun r m1 => T (D + 7) 144 (115, [(0, zr 1), (2, zi v)], r.toList ++ [], m1) κ)) :
    T (D + 7) 144 (93, lo, [zi v], m) κ := by
  have hb1 : 0 ≤ (m 52 1) ∧ (m 52 1) ≤ 60 := hB 52 1
  exact zb144_93r hT hlo
    k1
theorem zb144_115r (hT : zRules T) {D : Nat} {κ : Option zA → zM → Prop} {m : zM} {v : Int} {lo : zL} (hlo : z_keep [2] lo = [(2, zi v)]) 
    (o1 : κ (some (zi (wr v))) m) :
    T (D + 7) 144 (115, lo, [], m) κ :=
  zkeep hT hlo (hT.1 [(44, [0, 1, 2])] 6 (D + 7) 144 _ κ (o1))
theorem zb144_115 (hT : zRules T) {D : Nat} {κ : Option zA → zM → Prop} {m : zM} {v : Int} {lo : zL} (hlo : z_keep [2] lo = [(2, zi v)])  (h_v : (-2147483648) ≤ v ∧ v ≤ 2147483647) 
    (k1 : κ (some (zi v)) m) :
    T (D + 7) 144 (115, lo, [], m) κ := by
  have he0 : wr v = v := wr_id (by omega) (by omega)
  have key := @zb144_115r T hT D κ m v lo hlo
  simp only [he0, Int.toNat_natCast] at key
  exact key
    k1
theorem zb88_0r (hT : zRules T) {D : Nat} {κ : Option zA → zM → Prop} {m : zM} 
    (o1 : T (D + 6) 88 (11, [(0, zr 52), (1, zr 17), (3, zi ((z_shl 1 (m 17 1)) - 1))], [], m) κ) :
    T (D + 6) 88 (0, [(0, zr 52), (1, zr 17)], [], m) κ :=
  hT.1 [(11, [0, 1, 3]), (62, [0, 1, 3, 4])] 6 (D + 6) 88 _ κ (hT.1 [(11, [0, 1, 3]), (62, [0, 1, 3, 4])] 6 (D + 6) 88 (8, [(0, zr 52), (1, zr 17)], [zi ((z_shl 1 (m 17 1)) - 1)], m) _ (o1))
theorem zb88_0 (hT : zRules T) {D : Nat} {κ : Option zA → zM → Prop} {m : zM}  (hB : zB m) 
    (k1 : T (D + 6) 88 (11, [(0, zr 52), (1, zr 17), (3, zi ((z_shl 1 (m 17 1)) - 1))], [], m) κ) :
    T (D + 6) 88 (0, [(0, zr 52), (1, zr 17)], [], m) κ := by
  have hb0 : 0 ≤ (m 17 1) ∧ (m 17 1) ≤ 8 := hB 17 1
  have hb1 : (-2147483648) ≤ (z_shl 1 (m 17 1)) ∧ (z_shl 1 (m 17 1)) ≤ 2147483647 := z_shlB 1 (m 17 1)
  exact zb88_0r hT
    k1
theorem zb88_11r (hT : zRules T) {D : Nat} {κ : Option zA → zM → Prop} {m : zM} {x : Int} {lo : zL} (hlo : z_keep [0, 1, 3] lo = [(0, zr 52), (1, zr 17), (3, zi x)]) 
    (o1 : wr x < 0 → T (D + 6) 88 (62, [(0, zr 52), (1, zr 17), (3, zi 0), (4, zi 0)], [], m) κ)
    (o2 : ¬ wr x < 0 → (0 ≤ wr x ∧ wr x < 256))
    (o3 : ¬ wr x < 0 → T (D + 5) 293 (0, [(0, zi x)], [], (zu m 57 ((wr x).toNat) 0)) (fun r m1 => T (D + 6) 88 (26, [(0, zr 52), (1, zr 17), (3, zi x)], r.toList ++ [], m1) κ)) :
    T (D + 6) 88 (11, lo, [], m) κ :=
  zkeep hT hlo (hT.1 [(11, [0, 1, 3]), (62, [0, 1, 3, 4])] 6 (D + 6) 88 _ κ (And.intro (fun a1 => (o1 a1)) (fun a2 => (hT.1 [(11, [0, 1, 3]), (62, [0, 1, 3, 4])] 6 (D + 6) 88 (21, [(0, zr 52), (1, zr 17), (3, zi x)], [zi 0, zi x, zr 57], m) _ (And.intro (And.intro (o2 a2) trivial) (o3 a2))))))
theorem zb88_11 (hT : zRules T) {D : Nat} {κ : Option zA → zM → Prop} {m : zM} {x : Int} {lo : zL} (hlo : z_keep [0, 1, 3] lo = [(0, zr 52), (1, zr 17), (3, zi x)])  (hB : zB m) (h_x : (-1) ≤ x ∧ x ≤ 255) 
    (k1 : x < 0 → T (D + 6) 88 (62, [(0, zr 52), (1, zr 17), (3, zi 0), (4, zi 0)], [], m) κ)
    (k2 : ¬ x < 0 → zB (zu m 57 (x.toNat) 0) → T (D + 5) 293 (0, [(0, zi x)], [], (zu m 57 (x.toNat) 0)) (fun r m1 => T (D + 6) 88 (26, [(0, zr 52), (1, zr 17), (3, zi x)], r.toList ++ [], m1) κ)) :
    T (D + 6) 88 (11, lo, [], m) κ := by
  have he0 : wr x = x := wr_id (by omega) (by omega)
  have key := @zb88_11r T hT D κ m x lo hlo
  simp only [he0, Int.toNat_natCast] at key
  exact key
    k1
    (fun x0 => by refine ⟨?_, ?_⟩ <;> omega)
    (fun x0 => k2 x0 (zB_u hB trivial))
theorem zb88_26r (hT : zRules T) {D : Nat} {κ : Option zA → zM → Prop} {m : zM} {x : Nat} {v : Int} {lo : zL} (hlo : z_keep [0, 1, 3] lo = [(0, zr 52), (1, zr 17), (3, zi (x : Int))]) 
    (o1 : ¬ wr v < wr (m 52 1) → T (D + 6) 88 (11, [(0, zr 52), (1, zr 17), (3, zi ((x : Int) + (-1)))], [], m) κ)
    (o2 : wr v < wr (m 52 1) → T (D + 5) 90 (0, [(0, zr 52), (1, zr 17), (2, zi (x : Int))], [], m) (fun r m1 => T (D + 6) 88 (47, [(0, zr 52), (1, zr 17), (3, zi (x : Int))], r.toList ++ [zi (x : Int), zr 17, zr 52, zi (x : Int), zr 57], m1) κ)) :
    T (D + 6) 88 (26, lo, [zi v], m) κ :=
  zkeep hT hlo (hT.1 [(11, [0, 1, 3]), (62, [0, 1, 3, 4])] 6 (D + 6) 88 _ κ (And.intro (fun a1 => (o1 a1)) (fun a2 => (hT.1 [(11, [0, 1, 3]), (62, [0, 1, 3, 4])] 6 (D + 6) 88 (38, [(0, zr 52), (1, zr 17), (3, zi (x : Int))], [zi (x : Int), zr 57], m) _ (hT.1 [(11, [0, 1, 3]), (62, [0, 1, 3, 4])] 6 (D + 6) 88 (44, [(0, zr 52), (1, zr 17), (3, zi (x : Int))], [zi (x : Int), zr 17, zr 52, zi (x : Int), zr 17, zr 52, zi (x : Int), zr 57], m) _ (o2 (Classical.byContradiction a2)))))))
theorem zb88_26 (hT : zRules T) {D : Nat} {κ : Option zA → zM → Prop} {m : zM} {x : Nat} {v : Int} {lo : zL} (hlo : z_keep [0, 1, 3] lo = [(0, zr 52), (1, zr 17), (3, zi (x : Int))])  (hB : zB m) (h_x : x ≤ 255) (h_v : 0 ≤ v ∧ v ≤ 63) 
    (k1 : ¬ v < (m 52 1) → T (D + 6) 88 (11, [(0, zr 52), (1, zr 17), (3, zi ((x : Int) + (-1)))], [], m) κ)
    (k2 : v < (m 52 1) → T (D + 5) 90 (0, [(0, zr 52), (1, zr 17), (2, zi (x : Int))], [], m) (fun r m1 => T (D + 6) 88 (47, [(0, zr 52), (1, zr 17), (3, zi (x : Int))], r.toList ++ [zi (x : Int), zr 17, zr 52, zi (x : Int), zr 57], m1) κ)) :
    T (D + 6) 88 (26, lo, [zi v], m) κ := by
  have hb2 : 0 ≤ (m 52 1) ∧ (m 52 1) ≤ 60 := hB 52 1
  have he0 : wr v = v := wr_id (by omega) (by omega)
  have he1 : wr (m 52 1) = (m 52 1) := wr_id (by omega) (by omega)
  have key := @zb88_26r T hT D κ m x v lo hlo
  simp only [he0, he1, Int.toNat_natCast] at key
  exact key
    k1
    k2
theorem zb88_47r (hT : zRules T) {D : Nat} {κ : Option zA → zM → Prop} {m : zM} {x : Nat} {f : Int} {lo : zL} (hlo : z_keep [0, 1, 3] lo = [(0, zr 52), (1, zr 17), (3, zi (x : Int))]) 
    (o1 : T (D + 5) 89 (0, [(0, zr 52), (1, zr 17), (2, zi (x : Int)), (3, zi f)], [], m) (fun r m1 => T (D + 6) 88 (50, [(0, zr 52), (1, zr 17), (3, zi (x : Int))], r.toList ++ [zi (x : Int), zr 57], m1) κ)) :
    T (D + 6) 88 (47, lo, [zi f, zi (x : Int), zr 17, zr 52, zi (x : Int), zr 57], m) κ :=
  zkeep hT hlo (hT.1 [(11, [0, 1, 3]), (62, [0, 1, 3, 4])] 6 (D + 6) 88 _ κ (o1))
theorem zb88_47 (hT : zRules T) {D : Nat} {κ : Option zA → zM → Prop} {m : zM} {x : Nat} {f : Int} {lo : zL} (hlo : z_keep [0, 1, 3] lo = [(0, zr 52), (1, zr 17), (3, zi (x : Int))])  (hB : zB m) (h_x : x ≤ 255) (h_f : (-1) ≤ f ∧ f ≤ 7) 
    (k1 : T (D + 5) 89 (0, [(0, zr 52), (1, zr 17), (2, zi (x : Int)), (3, zi f)], [], m) (fun r m1 => T (D + 6) 88 (50, [(0, zr 52), (1, zr 17), (3, zi (x : Int))], r.toList ++ [zi (x : Int), zr 57], m1) κ)) :
    T (D + 6) 88 (47, lo, [zi f, zi (x : Int), zr 17, zr 52, zi (x : Int), zr 57], m) κ := by
  exact zb88_47r hT hlo
    k1
theorem zb88_50r (hT : zRules T) {D : Nat} {κ : Option zA → zM → Prop} {m : zM} {x : Nat} {v : Int} {lo : zL} (hlo : z_keep [0, 1, 3] lo = [(0, zr 52), (1, zr 17), (3, zi (x : Int))]) 
    (o1 : (0 ≤ wr (x : Int) ∧ wr (x : Int) < 256))
    (o2 : T (D + 6) 88 (11, [(0, zr 52), (1, zr 17), (3, zi ((x : Int) + (-1)))], [], (zu m 57 ((wr (x : Int)).toNat) v)) κ) :
    T (D + 6) 88 (50, lo, [zi v, zi (x : Int), zr 57], m) κ :=
  zkeep hT hlo (hT.1 [(11, [0, 1, 3]), (62, [0, 1, 3, 4])] 6 (D + 6) 88 _ κ (And.intro (And.intro (o1) trivial) (o2)))
theorem zb88_50 (hT : zRules T) {D : Nat} {κ : Option zA → zM → Prop} {m : zM} {x : Nat} {v : Int} {lo : zL} (hlo : z_keep [0, 1, 3] lo = [(0, zr 52), (1, zr 17), (3, zi (x : Int))])  (hB : zB m) (h_x : x ≤ 255) (h_v : (-2147483648) ≤ v ∧ v ≤ 2147483647) 
    (k1 : zB (zu m 57 x v) → T (D + 6) 88 (11, [(0, zr 52), (1, zr 17), (3, zi ((x : Int) + (-1)))], [], (zu m 57 x v)) κ) :
    T (D + 6) 88 (50, lo, [zi v, zi (x : Int), zr 57], m) κ := by
  have he0 : wr (x : Int) = (x : Int) := wr_id (by omega) (by omega)
  have he1 : (x : Int).toNat = x := by omega
  have key := @zb88_50r T hT D κ m x v lo hlo
  simp only [he0, he1, Int.toNat_natCast] at key
  exact key
    (by refine ⟨?_, ?_⟩ <;> omega)
    (k1  (zB_u hB trivial))
theorem zb88_62r (hT : zRules T) {D : Nat} {κ : Option zA → zM → Prop} {m : zM} {x : Nat} {i : Nat} {lo : zL} (hlo : z_keep [0, 1, 3, 4] lo = [(0, zr 52), (1, zr 17), (3, zi (x : Int)), (4, zi (i : Int))]) 
    (o1 : ¬ wr (i : Int) < wr (m 52 1) → κ (some (zi (wr (m 57 0)))) m)
    (o2 : wr (i : Int) < wr (m 52 1) → ¬ wr (i : Int) < 26 → False)
    (o3 : wr (i : Int) < wr (m 52 1) → wr (i : Int) < 26 → T (D + 5) 90 (0, [(0, zr 52), (1, zr 17), (2, zi (x : Int))], [], m) (fun r m1 => T (D + 6) 88 (93, [(0, zr 52), (1, zr 17), (3, zi (x : Int)), (4, zi (i : Int))], r.toList ++ [zi (i : Int), zr 58], m1) κ)) :
    T (D + 6) 88 (62, lo, [], m) κ :=
  zkeep hT hlo (hT.1 [(11, [0, 1, 3]), (62, [0, 1, 3, 4])] 6 (D + 6) 88 _ κ (And.intro (fun a1 => (hT.1 [(11, [0, 1, 3]), (62, [0, 1, 3, 4])] 6 (D + 6) 88 (116, [(0, zr 52), (1, zr 17), (3, zi (x : Int)), (4, zi (i : Int))], [zr 57], m) _ (And.intro (z_ixL rfl) (o1 a1)))) (fun a2 => (hT.1 [(11, [0, 1, 3]), (62, [0, 1, 3, 4])] 6 (D + 6) 88 (74, [(0, zr 52), (1, zr 17), (3, zi (x : Int)), (4, zi (i : Int))], [zr 52, zi (i : Int)], m) _ (And.intro (fun a3 => (o2 (Classical.byContradiction a2) a3).elim) (fun a4 => (hT.1 [(11, [0, 1, 3]), (62, [0, 1, 3, 4])] 6 (D + 6) 88 (87, [(0, zr 52), (1, zr 17), (3, zi (x : Int)), (4, zi (i : Int))], [zi (i : Int), zr 58], m) _ (o3 (Classical.byContradiction a2) (Classical.byContradiction a4)))))))))
theorem zb88_62 (hT : zRules T) {D : Nat} {κ : Option zA → zM → Prop} {m : zM} {x : Nat} {i : Nat} {lo : zL} (hlo : z_keep [0, 1, 3, 4] lo = [(0, zr 52), (1, zr 17), (3, zi (x : Int)), (4, zi (i : Int))])  (hB : zB m) (h_x : x ≤ 255) (h_i : i ≤ 8) 
    (k1 : ¬ (i : Int) < (m 52 1) → κ (some (zi (wr (m 57 0)))) m)
    (k2 : (i : Int) < (m 52 1) → T (D + 5) 90 (0, [(0, zr 52), (1, zr 17), (2, zi (x : Int))], [], m) (fun r m1 => T (D + 6) 88 (93, [(0, zr 52), (1, zr 17), (3, zi (x : Int)), (4, zi (i : Int))], r.toList ++ [zi (i : Int), zr 58], m1) κ)) :
    T (D + 6) 88 (62, lo, [], m) κ := by
  have hb2 : 0 ≤ (m 52 1) ∧ (m 52 1) ≤ 60 := hB 52 1
  have hb3 : (-2147483648) ≤ wr (m 57 0) ∧ wr (m 57 0) ≤ 2147483647 := wrB (m 57 0)
  have he0 : wr (i : Int) = (i : Int) := wr_id (by omega) (by omega)
  have he1 : wr (m 52 1) = (m 52 1) := wr_id (by omega) (by omega)
  have key := @zb88_62r T hT D κ m x i lo hlo
  simp only [he0, he1, Int.toNat_natCast] at key
  exact key
    k1
    (fun x0 x1 => by omega)
    (fun x0 x1 => k2 x0)
theorem zb88_93r (hT : zRules T) {D : Nat} {κ : Option zA → zM → Prop} {m : zM} {x : Nat} {i : Nat} {g : Nat} {lo : zL} (hlo : z_keep [0, 1, 3, 4] lo = [(0, zr 52), (1, zr 17), (3, zi (x : Int)), (4, zi (i : Int))]) 
    (o1 : (0 ≤ wr (i : Int) ∧ wr (i : Int) < 26))
    (o2 : (0 ≤ wr (i : Int) ∧ wr (i : Int) < 26))
    (o3 : T (D + 6) 88 (62, [(0, zr 52), (1, zr 17), (3, zi (z_or (x : Int) (z_shl 1 ((zu m 58 ((wr (i : Int)).toNat) (g : Int)) 58 ((wr (i : Int)).toNat))))), (4, zi ((i : Int) + 1))], [], (zu m 58 ((wr (i : Int)).toNat) (g : Int))) κ) :
    T (D + 6) 88 (93, lo, [zi (g : Int), zi (i : Int), zr 58], m) κ :=
  zkeep hT hlo (hT.1 [(11, [0, 1, 3]), (62, [0, 1, 3, 4])] 6 (D + 6) 88 _ κ (And.intro (And.intro (o1) trivial) (hT.1 [(11, [0, 1, 3]), (62, [0, 1, 3, 4])] 6 (D + 6) 88 (102, [(0, zr 52), (1, zr 17), (3, zi (x : Int)), (4, zi (i : Int))], [zi (i : Int), zr 58, zi 1, zi (x : Int)], (zu m 58 ((wr (i : Int)).toNat) (g : Int))) _ (And.intro (o2) (o3)))))
theorem zb88_93 (hT : zRules T) {D : Nat} {κ : Option zA → zM → Prop} {m : zM} {x : Nat} {i : Nat} {g : Nat} {lo : zL} (hlo : z_keep [0, 1, 3, 4] lo = [(0, zr 52), (1, zr 17), (3, zi (x : Int)), (4, zi (i : Int))])  (hB : zB m) (h_x : x ≤ 255) (h_i : i ≤ 7) (h_g : g ≤ 7) 
    (k1 : zB (zu m 58 i (g : Int)) → T (D + 6) 88 (62, [(0, zr 52), (1, zr 17), (3, zi (z_or (x : Int) (z_shl 1 (g : Int)))), (4, zi ((i : Int) + 1))], [], (zu m 58 i (g : Int))) κ) :
    T (D + 6) 88 (93, lo, [zi (g : Int), zi (i : Int), zr 58], m) κ := by
  have hb3 : (-2147483648) ≤ (z_shl 1 (g : Int)) ∧ (z_shl 1 (g : Int)) ≤ 2147483647 := z_shlB 1 (g : Int)
  have hb4 : (-2147483648) ≤ (z_or (x : Int) (z_shl 1 (g : Int))) ∧ (z_or (x : Int) (z_shl 1 (g : Int))) ≤ 2147483647 := z_orB (x : Int) (z_shl 1 (g : Int))
  have he0 : wr (i : Int) = (i : Int) := wr_id (by omega) (by omega)
  have he1 : (i : Int).toNat = i := by omega
  have he2 : ((zu m 58 i (g : Int)) 58 i) = (g : Int) := (zu_sm (by omega))
  have key := @zb88_93r T hT D κ m x i g lo hlo
  simp only [he0, he1, he2, Int.toNat_natCast] at key
  exact key
    (by refine ⟨?_, ?_⟩ <;> omega)
    (by refine ⟨?_, ?_⟩ <;> omega)
    (k1  (zB_u hB trivial))
theorem zb90_0r (hT : zRules T) {D : Nat} {κ : Option zA → zM → Prop} {m : zM} {x : Nat} 
    (o1 : T (D + 5) 90 (8, [(0, zr 52), (1, zr 17), (2, zi (x : Int)), (3, zi (-1)), (4, zi 0), (5, zi 0)], [], m) κ) :
    T (D + 5) 90 (0, [(0, zr 52), (1, zr 17), (2, zi (x : Int))], [], m) κ :=
  hT.1 [(8, [0, 1, 2, 3, 4, 5])] 6 (D + 5) 90 _ κ (o1)
theorem zb90_0 (hT : zRules T) {D : Nat} {κ : Option zA → zM → Prop} {m : zM} {x : Nat}  (hB : zB m) (h_x : x ≤ 255) 
    (k1 : T (D + 5) 90 (8, [(0, zr 52), (1, zr 17), (2, zi (x : Int)), (3, zi (-1)), (4, zi 0), (5, zi 0)], [], m) κ) :
    T (D + 5) 90 (0, [(0, zr 52), (1, zr 17), (2, zi (x : Int))], [], m) κ := by
  exact zb90_0r hT
    k1
theorem zb90_8r (hT : zRules T) {D : Nat} {κ : Option zA → zM → Prop} {m : zM} {x : Nat} {f : Int} {b : Int} {i : Nat} {lo : zL} (hlo : z_keep [0, 1, 2, 3, 4, 5] lo = [(0, zr 52), (1, zr 17), (2, zi (x : Int)), (3, zi f), (4, zi b), (5, zi (i : Int))]) 
    (o1 : ¬ wr (i : Int) < wr (m 17 1) → κ (some (zi (wr f))) m)
    (o2 : wr (i : Int) < wr (m 17 1) → ¬ wr (z_and (z_shr (x : Int) (i : Int)) 1) = 0 → T (D + 5) 90 (8, [(0, zr 52), (1, zr 17), (2, zi (x : Int)), (3, zi f), (4, zi b), (5, zi ((i : Int) + 1))], [], m) κ)
    (o3 : wr (i : Int) < wr (m 17 1) → wr (z_and (z_shr (x : Int) (i : Int)) 1) = 0 → T (D + 4) 89 (0, [(0, zr 52), (1, zr 17), (2, zi (x : Int)), (3, zi (i : Int))], [], m) (fun r m1 => T (D + 5) 90 (34, [(0, zr 52), (1, zr 17), (2, zi (x : Int)), (3, zi f), (4, zi b), (5, zi (i : Int))], r.toList ++ [], m1) κ)) :
    T (D + 5) 90 (8, lo, [], m) κ :=
  zkeep hT hlo (hT.1 [(8, [0, 1, 2, 3, 4, 5])] 6 (D + 5) 90 _ κ (And.intro (fun a1 => (o1 a1)) (fun a2 => (hT.1 [(8, [0, 1, 2, 3, 4, 5])] 6 (D + 5) 90 (20, [(0, zr 52), (1, zr 17), (2, zi (x : Int)), (3, zi f), (4, zi b), (5, zi (i : Int))], [zi (i : Int), zi (x : Int)], m) _ (And.intro (fun a3 => (o2 (Classical.byContradiction a2) a3)) (fun a4 => (hT.1 [(8, [0, 1, 2, 3, 4, 5])] 6 (D + 5) 90 (28, [(0, zr 52), (1, zr 17), (2, zi (x : Int)), (3, zi f), (4, zi b), (5, zi (i : Int))], [zr 17, zr 52], m) _ (o3 (Classical.byContradiction a2) (Classical.byContradiction a4)))))))))
theorem zb90_8 (hT : zRules T) {D : Nat} {κ : Option zA → zM → Prop} {m : zM} {x : Nat} {f : Int} {b : Int} {i : Nat} {lo : zL} (hlo : z_keep [0, 1, 2, 3, 4, 5] lo = [(0, zr 52), (1, zr 17), (2, zi (x : Int)), (3, zi f), (4, zi b), (5, zi (i : Int))])  (hB : zB m) (h_x : x ≤ 255) (h_f : (-1) ≤ f ∧ f ≤ 7) (h_b : (-2147483648) ≤ b ∧ b ≤ 2147483647) (h_i : i ≤ 8) 
    (k1 : ¬ (i : Int) < (m 17 1) → κ (some (zi f)) m)
    (k2 : (i : Int) < (m 17 1) → ¬ (z_and (z_shr (x : Int) (i : Int)) 1) = 0 → T (D + 5) 90 (8, [(0, zr 52), (1, zr 17), (2, zi (x : Int)), (3, zi f), (4, zi b), (5, zi ((i : Int) + 1))], [], m) κ)
    (k3 : (i : Int) < (m 17 1) → (z_and (z_shr (x : Int) (i : Int)) 1) = 0 → T (D + 4) 89 (0, [(0, zr 52), (1, zr 17), (2, zi (x : Int)), (3, zi (i : Int))], [], m) (fun r m1 => T (D + 5) 90 (34, [(0, zr 52), (1, zr 17), (2, zi (x : Int)), (3, zi f), (4, zi b), (5, zi (i : Int))], r.toList ++ [], m1) κ)) :
    T (D + 5) 90 (8, lo, [], m) κ := by
  have hb4 : 0 ≤ (m 17 1) ∧ (m 17 1) ≤ 8 := hB 17 1
  have hb5 : (-2147483648) ≤ (z_shr (x : Int) (i : Int)) ∧ (z_shr (x : Int) (i : Int)) ≤ 2147483647 := z_shrB (x : Int) (i : Int)
  have hb6 : 0 ≤ (z_and (z_shr (x : Int) (i : Int)) 1) ∧ (z_and (z_shr (x : Int) (i : Int)) 1) ≤ 1 := z_andC (z_shr (x : Int) (i : Int)) 1 (by decide)
  have he0 : wr (i : Int) = (i : Int) := wr_id (by omega) (by omega)
  have he1 : wr (m 17 1) = (m 17 1) := wr_id (by omega) (by omega)
  have he2 : wr (z_and (z_shr (x : Int) (i : Int)) 1) = (z_and (z_shr (x : Int) (i : Int)) 1) := wr_id (by omega) (by omega)
  have he3 : wr f = f := wr_id (by omega) (by omega)
  have key := @zb90_8r T hT D κ m x f b i lo hlo
  simp only [he0, he1, he2, he3, Int.toNat_natCast] at key
  exact key
    k1
    k2
    k3
theorem zb90_34r (hT : zRules T) {D : Nat} {κ : Option zA → zM → Prop} {m : zM} {x : Nat} {f : Int} {b : Int} {i : Nat} {v : Int} {lo : zL} (hlo : z_keep [0, 1, 2, 3, 4, 5] lo = [(0, zr 52), (1, zr 17), (2, zi (x : Int)), (3, zi f), (4, zi b), (5, zi (i : Int))]) 
    (o1 : wr f = (-1) → T (D + 5) 90 (8, [(0, zr 52), (1, zr 17), (2, zi (x : Int)), (3, zi (i : Int)), (4, zi v), (5, zi ((i : Int) + 1))], [], m) κ)
    (o2 : ¬ wr f = (-1) → ¬ wr v < wr b → T (D + 5) 90 (8, [(0, zr 52), (1, zr 17), (2, zi (x : Int)), (3, zi f), (4, zi b), (5, zi ((i : Int) + 1))], [], m) κ)
    (o3 : ¬ wr f = (-1) → wr v < wr b → T (D + 5) 90 (8, [(0, zr 52), (1, zr 17), (2, zi (x : Int)), (3, zi (i : Int)), (4, zi v), (5, zi ((i : Int) + 1))], [], m) κ) :
    T (D + 5) 90 (34, lo, [zi v], m) κ :=
  zkeep hT hlo (hT.1 [(8, [0, 1, 2, 3, 4, 5])] 6 (D + 5) 90 _ κ (And.intro (fun a1 => (hT.1 [(8, [0, 1, 2, 3, 4, 5])] 6 (D + 5) 90 (51, [(0, zr 52), (1, zr 17), (2, zi (x : Int)), (3, zi (i : Int)), (4, zi b), (5, zi (i : Int)), (6, zi v)], [], m) _ (o1 a1))) (fun a2 => (hT.1 [(8, [0, 1, 2, 3, 4, 5])] 6 (D + 5) 90 (45, [(0, zr 52), (1, zr 17), (2, zi (x : Int)), (3, zi f), (4, zi b), (5, zi (i : Int)), (6, zi v)], [zi b, zi v], m) _ (And.intro (fun a3 => (o2 a2 a3)) (fun a4 => (hT.1 [(8, [0, 1, 2, 3, 4, 5])] 6 (D + 5) 90 (58, [(0, zr 52), (1, zr 17), (2, zi (x : Int)), (3, zi (i : Int)), (4, zi v), (5, zi ((i : Int) + 1)), (6, zi v)], [], m) _ (o3 a2 (Classical.byContradiction a4)))))))))
theorem zb90_34 (hT : zRules T) {D : Nat} {κ : Option zA → zM → Prop} {m : zM} {x : Nat} {f : Int} {b : Int} {i : Nat} {v : Int} {lo : zL} (hlo : z_keep [0, 1, 2, 3, 4, 5] lo = [(0, zr 52), (1, zr 17), (2, zi (x : Int)), (3, zi f), (4, zi b), (5, zi (i : Int))])  (hB : zB m) (h_x : x ≤ 255) (h_f : (-1) ≤ f ∧ f ≤ 7) (h_b : (-2147483648) ≤ b ∧ b ≤ 2147483647) (h_i : i ≤ 7) (h_v : (-2147483648) ≤ v ∧ v ≤ 2147483647) 
    (k1 : f = (-1) → T (D + 5) 90 (8, [(0, zr 52), (1, zr 17), (2, zi (x : Int)), (3, zi (i : Int)), (4, zi v), (5, zi ((i : Int) + 1))], [], m) κ)
    (k2 : ¬ f = (-1) → ¬ v < b → T (D + 5) 90 (8, [(0, zr 52), (1, zr 17), (2, zi (x : Int)), (3, zi f), (4, zi b), (5, zi ((i : Int) + 1))], [], m) κ)
    (k3 : ¬ f = (-1) → v < b → T (D + 5) 90 (8, [(0, zr 52), (1, zr 17), (2, zi (x : Int)), (3, zi (i : Int)), (4, zi v), (5, zi ((i : Int) + 1))], [], m) κ) :
    T (D + 5) 90 (34, lo, [zi v], m) κ := by
  have he0 : wr f = f := wr_id (by omega) (by omega)
  have he1 : wr v = v := wr_id (by omega) (by omega)
  have he2 : wr b = b := wr_id (by omega) (by omega)
  have key := @zb90_34r T hT D κ m x f b i v lo hlo
  simp only [he0, he1, he2, Int.toNat_natCast] at key
  exact key
    k1
    k2
    k3
theorem zb89_0r (hT : zRules T) {D : Nat} {κ : Option zA → zM → Prop} {m : zM} {x : Nat} {f : Int} 
    (o1 : T (D + 3) 293 (0, [(0, zi (x : Int))], [], m) (fun r m1 => T (D + 4) 89 (4, [(0, zr 52), (1, zr 17), (2, zi (x : Int)), (3, zi f)], r.toList ++ [], m1) κ)) :
    T (D + 4) 89 (0, [(0, zr 52), (1, zr 17), (2, zi (x : Int)), (3, zi f)], [], m) κ :=
  hT.1 [] 6 (D + 4) 89 _ κ (o1)
theorem zb89_0 (hT : zRules T) {D : Nat} {κ : Option zA → zM → Prop} {m : zM} {x : Nat} {f : Int}  (hB : zB m) (h_x : x ≤ 255) (h_f : (-1) ≤ f ∧ f ≤ 7) 
    (k1 : T (D + 3) 293 (0, [(0, zi (x : Int))], [], m) (fun r m1 => T (D + 4) 89 (4, [(0, zr 52), (1, zr 17), (2, zi (x : Int)), (3, zi f)], r.toList ++ [], m1) κ)) :
    T (D + 4) 89 (0, [(0, zr 52), (1, zr 17), (2, zi (x : Int)), (3, zi f)], [], m) κ := by
  exact zb89_0r hT
    k1
theorem zb89_4r (hT : zRules T) {D : Nat} {κ : Option zA → zM → Prop} {m : zM} {x : Nat} {f : Int} {v : Int} {lo : zL} (hlo : z_keep [0, 1, 2, 3] lo = [(0, zr 52), (1, zr 17), (2, zi (x : Int)), (3, zi f)]) 
    (o1 : wr f < 0 → κ (some (zi 0)) m)
    (o2 : ¬ wr f < 0 → ¬ wr f < wr (m 17 1) → κ (some (zi 0)) m)
    (o3 : ¬ wr f < 0 → wr f < wr (m 17 1) → wr v < wr (m 52 1) → (0 ≤ wr v ∧ wr v < 60))
    (o4 : ¬ wr f < 0 → wr f < wr (m 17 1) → wr v < wr (m 52 1) → T (D + 3) 34 (0, [(0, zr 17), (1, zi f), (2, zi (m 53 ((wr v).toNat)))], [], m) (fun r m1 => T (D + 4) 89 (37, [(0, zr 52), (1, zr 17), (2, zi (x : Int)), (3, zi f), (4, zi v)], r.toList ++ [], m1) κ))
    (o5 : ¬ wr f < 0 → wr f < wr (m 17 1) → ¬ wr v < wr (m 52 1) → κ (some (zi 0)) m) :
    T (D + 4) 89 (4, lo, [zi v], m) κ :=
  zkeep hT hlo (hT.1 [] 6 (D + 4) 89 _ κ (hT.1 [] 6 (D + 3) 26 _ _ (And.intro (fun a1 => (And.intro (z_b01L rfl) (hT.1 [] 6 (D + 4) 89 _ _ (And.intro (fun _ => (o1 a1)) (fun a3 => (a3 (z_litT rfl)).elim))))) (fun a2 => (And.intro (fun a4 => (hT.1 [] 6 (D + 3) 26 (16, [(0, zr 17), (1, zi f)], [], m) _ (And.intro (z_b01L rfl) (hT.1 [] 6 (D + 4) 89 _ _ (And.intro (fun _ => (o2 a2 a4)) (fun a6 => (a6 (z_litT rfl)).elim)))))) (fun a5 => (hT.1 [] 6 (D + 3) 26 (12, [(0, zr 17), (1, zi f)], [], m) _ (And.intro (z_b01L rfl) (hT.1 [] 6 (D + 4) 89 _ _ (And.intro (fun a7 => (z_litF a7 rfl).elim) (fun _ => (And.intro (fun a8 => (hT.1 [] 6 (D + 4) 89 (26, [(0, zr 52), (1, zr 17), (2, zi (x : Int)), (3, zi f), (4, zi v)], [zr 17], m) _ (And.intro (o3 a2 (Classical.byContradiction a5) a8) (o4 a2 (Classical.byContradiction a5) a8)))) (fun a9 => (hT.1 [] 6 (D + 4) 89 (24, [(0, zr 52), (1, zr 17), (2, zi (x : Int)), (3, zi f), (4, zi v)], [zi 0], m) _ (o5 a2 (Classical.byContradiction a5) a9)))))))))))))))
theorem zb89_4 (hT : zRules T) {D : Nat} {κ : Option zA → zM → Prop} {m : zM} {x : Nat} {f : Int} {v : Int} {lo : zL} (hlo : z_keep [0, 1, 2, 3] lo = [(0, zr 52), (1, zr 17), (2, zi (x : Int)), (3, zi f)])  (hB : zB m) (h_x : x ≤ 255) (h_f : (-1) ≤ f ∧ f ≤ 7) (h_v : 0 ≤ v ∧ v ≤ 63) 
    (k1 : f < 0 → κ (some (zi 0)) m)
    (k2 : ¬ f < 0 → ¬ f < (m 17 1) → κ (some (zi 0)) m)
    (k3 : ¬ f < 0 → f < (m 17 1) → v < (m 52 1) → T (D + 3) 34 (0, [(0, zr 17), (1, zi f), (2, zi (m 53 (v.toNat)))], [], m) (fun r m1 => T (D + 4) 89 (37, [(0, zr 52), (1, zr 17), (2, zi (x : Int)), (3, zi f), (4, zi v)], r.toList ++ [], m1) κ))
    (k4 : ¬ f < 0 → f < (m 17 1) → ¬ v < (m 52 1) → κ (some (zi 0)) m) :
    T (D + 4) 89 (4, lo, [zi v], m) κ := by
  have hb3 : 0 ≤ (m 17 1) ∧ (m 17 1) ≤ 8 := hB 17 1
  have hb4 : 0 ≤ (m 52 1) ∧ (m 52 1) ≤ 60 := hB 52 1
  have hb5 : 0 ≤ (m 53 (v.toNat)) ∧ (m 53 (v.toNat)) ≤ 99 := hB 53 (v.toNat)
  have he0 : wr f = f := wr_id (by omega) (by omega)
  have he1 : wr (m 17 1) = (m 17 1) := wr_id (by omega) (by omega)
  have he2 : wr v = v := wr_id (by omega) (by omega)
  have he3 : wr (m 52 1) = (m 52 1) := wr_id (by omega) (by omega)
  have key := @zb89_4r T hT D κ m x f v lo hlo
  simp only [he0, he1, he2, he3, Int.toNat_natCast] at key
  exact key
    k1
    k2
    (fun x0 x1 x2 => by refine ⟨?_, ?_⟩ <;> omega)
    k3
    k4
theorem zb89_37r (hT : zRules T) {D : Nat} {κ : Option zA → zM → Prop} {m : zM} {x : Nat} {f : Nat} {v : Int} {lo : zL} (hlo : z_keep [0, 2, 3] lo = [(0, zr 52), (2, zi (x : Int)), (3, zi (f : Int))]) 
    (o1 : (0 ≤ wr (z_or (x : Int) (z_shl 1 (f : Int))) ∧ wr (z_or (x : Int) (z_shl 1 (f : Int))) < 256))
    (o2 : κ (some (zi (wr (v + (m 57 ((wr (z_or (x : Int) (z_shl 1 (f : Int)))).toNat)))))) m) :
    T (D + 4) 89 (37, lo, [zi v], m) κ :=
  zkeep hT hlo (hT.1 [] 6 (D + 4) 89 _ κ (hT.1 [] 6 (D + 4) 89 (45, [(0, zr 52), (2, zi (x : Int)), (3, zi (f : Int))], [zi (z_shl 1 (f : Int)), zi (x : Int), zr 57, zi v], m) _ (And.intro (o1) (o2))))
theorem zb89_37 (hT : zRules T) {D : Nat} {κ : Option zA → zM → Prop} {m : zM} {x : Nat} {f : Nat} {v : Int} {lo : zL} (hlo : z_keep [0, 2, 3] lo = [(0, zr 52), (2, zi (x : Int)), (3, zi (f : Int))])  (hB : zB m) (h_x : x ≤ 255) (h_f : f ≤ 7) (h_v : 0 ≤ v ∧ v ≤ 1000) 
    (k1 : (0 ≤ (z_or (x : Int) (z_shl 1 (f : Int))) ∧ (z_or (x : Int) (z_shl 1 (f : Int))) < 256))
    (k2 : κ (some (zi (wr (v + (m 57 ((z_or (x : Int) (z_shl 1 (f : Int))).toNat)))))) m) :
    T (D + 4) 89 (37, lo, [zi v], m) κ := by
  have hb3 : (-2147483648) ≤ (z_shl 1 (f : Int)) ∧ (z_shl 1 (f : Int)) ≤ 2147483647 := z_shlB 1 (f : Int)
  have hb4 : (-2147483648) ≤ (z_or (x : Int) (z_shl 1 (f : Int))) ∧ (z_or (x : Int) (z_shl 1 (f : Int))) ≤ 2147483647 := z_orB (x : Int) (z_shl 1 (f : Int))
  have hb5 : (-2147483648) ≤ wr (v + (m 57 ((z_or (x : Int) (z_shl 1 (f : Int))).toNat))) ∧ wr (v + (m 57 ((z_or (x : Int) (z_shl 1 (f : Int))).toNat))) ≤ 2147483647 := wrB (v + (m 57 ((z_or (x : Int) (z_shl 1 (f : Int))).toNat)))
  have he0 : wr (z_or (x : Int) (z_shl 1 (f : Int))) = (z_or (x : Int) (z_shl 1 (f : Int))) := wr_id (by omega) (by omega)
  have key := @zb89_37r T hT D κ m x f v lo hlo
  simp only [he0, Int.toNat_natCast] at key
  exact key
    k1
    k2
theorem zb48_0_58r (hT : zRules T) {D : Nat} {κ : Option zA → zM → Prop} {m : zM} {n : Nat} 
    (o1 : 26 < wr (n : Int) → False)
    (o2 : ¬ 26 < wr (n : Int) → 0 < wr (wr (n : Int)) → ((0 : Int) ≤ 0 ∧ (0 : Int) ≤ 0 ∧ (0 : Int) ≤ wr ((zu m 72 1 (wr (wr (n : Int)))) 72 1) ∧ 0 + wr ((zu m 72 1 (wr (wr (n : Int)))) 72 1) ≤ 26 ∧ 0 + wr ((zu m 72 1 (wr (wr (n : Int)))) 72 1) ≤ 26))
    (o3 : ¬ 26 < wr (n : Int) → 0 < wr (wr (n : Int)) → κ (none) (z_cp (zu m 72 1 (wr (wr (n : Int)))) 58 73 0 0 ((wr ((zu m 72 1 (wr (wr (n : Int)))) 72 1)).toNat)))
    (o4 : ¬ 26 < wr (n : Int) → ¬ 0 < wr (wr (n : Int)) → κ (none) (z_cp (zu m 72 1 0) 58 73 0 0 0)) :
    T (D + 2) 48 (0, [(0, zr 72), (1, zr 58), (2, zi (n : Int))], [], m) κ :=
  hT.1 [] 6 (D + 2) 48 _ κ (hT.1 [] 6 (D + 2) 48 (6, [(0, zr 72), (1, zr 58), (2, zi (n : Int))], [zr 72, zi 26, zi (n : Int), zi 0, zr 72], m) _ (hT.1 [] 6 (D + 1) 294 _ _ (And.intro (fun a1 => (z_litF a1 rfl).elim) (fun _ => (hT.1 [] 6 (D + 2) 48 _ _ (hT.1 [] 6 (D + 1) 294 _ _ (And.intro (fun a2 => (o1 a2).elim) (fun a3 => (hT.1 [] 6 (D + 2) 48 _ _ (hT.1 [] 6 (D + 1) 295 _ _ (And.intro (fun a4 => (hT.1 [] 6 (D + 2) 48 _ _ (And.intro trivial (hT.1 [] 6 (D + 2) 48 (29, [(0, zr 72), (1, zr 58), (2, zi (n : Int))], [zi 0, zr 73, zi 0, zr 58], (zu m 72 1 (wr (wr (n : Int))))) _ (And.intro (o2 a3 a4) (o3 a3 a4)))))) (fun a5 => (hT.1 [] 6 (D + 2) 48 _ _ (And.intro trivial (hT.1 [] 6 (D + 2) 48 (29, [(0, zr 72), (1, zr 58), (2, zi (n : Int))], [zi 0, zr 73, zi 0, zr 58], (zu m 72 1 0)) _ (And.intro (And.intro (z_leL rfl) (And.intro (z_leL rfl) (And.intro (z_leL rfl) (And.intro (z_leL rfl) (z_leL rfl))))) (o4 a3 a5)))))))))))))))))
theorem zb48_0_58 (hT : zRules T) {D : Nat} {κ : Option zA → zM → Prop} {m : zM} {n : Nat}  (hB : zB m) (h_n : n ≤ 8) 
    (k1 : 0 < (n : Int) → zB (z_cp (zu m 72 1 (n : Int)) 58 73 0 0 n) → κ (none) (z_cp (zu m 72 1 (n : Int)) 58 73 0 0 n))
    (k2 : ¬ 0 < (n : Int) → zB (z_cp (zu m 72 1 0) 58 73 0 0 0) → κ (none) (z_cp (zu m 72 1 0) 58 73 0 0 0)) :
    T (D + 2) 48 (0, [(0, zr 72), (1, zr 58), (2, zi (n : Int))], [], m) κ := by
  have he0 : wr (n : Int) = (n : Int) := wr_id (by omega) (by omega)
  have he1 : ((zu m 72 1 (n : Int)) 72 1) = (n : Int) := (zu_sm rfl)
  have he2 : (n : Int).toNat = n := by omega
  have key := @zb48_0_58r T hT D κ m n
  simp only [he0, he1, he2, Int.toNat_natCast] at key
  exact key
    (fun x0 => by omega)
    (fun x0 x1 => by refine ⟨?_, ?_, ?_, ?_, ?_⟩ <;> omega)
    (fun x0 x1 => k1 x1 (zB_cp (zB_u hB (show 0 ≤ (n : Int) ∧ (n : Int) ≤ 26 from ⟨by omega, by omega⟩)) (fun _ _ _ => trivial)))
    (fun x0 x1 => k2 x1 (zB_cp (zB_u hB (show 0 ≤ 0 ∧ 0 ≤ 26 from ⟨by omega, by omega⟩)) (fun _ _ _ => trivial)))
theorem zb264_0r (hT : zRules T) {D : Nat} {κ : Option zA → zM → Prop} {m : zM} {x : Int} 
    (o1 : wr x < 0 → κ (some (zi (-1))) (zu m 74 12 0))
    (o2 : ¬ wr x < 0 → wr ((z_shl 1 (m 74 4)) - 1) < wr x → κ (some (zi (-1))) (zu m 74 12 0))
    (o3 : ¬ wr x < 0 → ¬ wr ((z_shl 1 (m 74 4)) - 1) < wr x → T (D + 6) 264 (25, [(0, zr 74), (1, zi x), (2, zi 0)], [], (zu m 74 12 0)) κ) :
    T (D + 6) 264 (0, [(0, zr 74), (1, zi x)], [], m) κ :=
  hT.1 [(25, [0, 1, 2]), (35, [0, 1, 2, 3]), (107, [0, 1, 2])] 6 (D + 6) 264 _ κ (And.intro trivial (hT.1 [(25, [0, 1, 2]), (35, [0, 1, 2, 3]), (107, [0, 1, 2])] 6 (D + 6) 264 (8, [(0, zr 74), (1, zi x)], [zi 1, zi 0, zi x], (zu m 74 12 0)) _ (hT.1 [] 6 (D + 5) 186 _ _ (And.intro (fun a1 => (And.intro (z_b01L rfl) (hT.1 [(25, [0, 1, 2]), (35, [0, 1, 2, 3]), (107, [0, 1, 2])] 6 (D + 6) 264 _ _ (And.intro (fun a3 => (z_litF a3 rfl).elim) (fun _ => (o1 a1)))))) (fun a2 => (And.intro (fun a4 => (hT.1 [] 6 (D + 5) 186 (14, [(0, zi x), (1, zi 0), (2, zi ((z_shl 1 (m 74 4)) - 1))], [], (zu m 74 12 0)) _ (And.intro (z_b01L rfl) (hT.1 [(25, [0, 1, 2]), (35, [0, 1, 2, 3]), (107, [0, 1, 2])] 6 (D + 6) 264 _ _ (And.intro (fun a6 => (z_litF a6 rfl).elim) (fun _ => (o2 a2 a4))))))) (fun a5 => (hT.1 [] 6 (D + 5) 186 (10, [(0, zi x), (1, zi 0), (2, zi ((z_shl 1 (m 74 4)) - 1))], [], (zu m 74 12 0)) _ (And.intro (z_b01L rfl) (hT.1 [(25, [0, 1, 2]), (35, [0, 1, 2, 3]), (107, [0, 1, 2])] 6 (D + 6) 264 _ _ (And.intro (fun _ => (o3 a2 a5)) (fun a7 => (a7 (z_litT rfl)).elim))))))))))))
theorem zb264_0 (hT : zRules T) {D : Nat} {κ : Option zA → zM → Prop} {m : zM} {x : Int}  (hB : zB m) (h_x : (-2147483648) ≤ x ∧ x ≤ 2147483647) 
    (k1 : x < 0 → zB (zu m 74 12 0) → κ (some (zi (-1))) (zu m 74 12 0))
    (k2 : ¬ x < 0 → wr ((z_shl 1 (m 74 4)) - 1) < x → zB (zu m 74 12 0) → κ (some (zi (-1))) (zu m 74 12 0))
    (k3 : ¬ x < 0 → ¬ wr ((z_shl 1 (m 74 4)) - 1) < x → zB (zu m 74 12 0) → T (D + 6) 264 (25, [(0, zr 74), (1, zi x), (2, zi 0)], [], (zu m 74 12 0)) κ) :
    T (D + 6) 264 (0, [(0, zr 74), (1, zi x)], [], m) κ := by
  have hb1 : 0 ≤ (m 74 4) ∧ (m 74 4) ≤ 6 := hB 74 4
  have hb2 : (-2147483648) ≤ (z_shl 1 (m 74 4)) ∧ (z_shl 1 (m 74 4)) ≤ 2147483647 := z_shlB 1 (m 74 4)
  have hb3 : (-2147483648) ≤ wr ((z_shl 1 (m 74 4)) - 1) ∧ wr ((z_shl 1 (m 74 4)) - 1) ≤ 2147483647 := wrB ((z_shl 1 (m 74 4)) - 1)
  have he0 : wr x = x := wr_id (by omega) (by omega)
  have key := @zb264_0r T hT D κ m x
  simp only [he0, Int.toNat_natCast] at key
  exact key
    (fun x0 => k1 x0 (zB_u hB trivial))
    (fun x0 x1 => k2 x0 x1 (zB_u hB trivial))
    (fun x0 x1 => k3 x0 x1 (zB_u hB trivial))
theorem zb264_25r (hT : zRules T) {D : Nat} {κ : Option zA → zM → Prop} {m : zM} {x : Nat} {p : Nat} {lo : zL} (hlo : z_keep [0, 1, 2] lo = [(0, zr 74), (1, zi (x : Int)), (2, zi (p : Int))]) 
    (o1 : ¬ wr (p : Int) < wr (m 74 4) → T (D + 5) 263 (0, [(0, zr 74), (1, zi 0), (2, zi (x : Int)), (3, zi 0), (4, zi 0)], [], (zu m 74 47 100000000)) (fun r m1 => T (D + 6) 264 (87, [(0, zr 74), (1, zi (x : Int)), (2, zi (p : Int))], r.toList ++ [], m1) κ))
    (o2 : wr (p : Int) < wr (m 74 4) → T (D + 6) 264 (35, [(0, zr 74), (1, zi (x : Int)), (2, zi (p : Int)), (3, zi 0)], [], m) κ) :
    T (D + 6) 264 (25, lo, [], m) κ :=
  zkeep hT hlo (hT.1 [(25, [0, 1, 2]), (35, [0, 1, 2, 3]), (107, [0, 1, 2])] 6 (D + 6) 264 _ κ (And.intro (fun a1 => (hT.1 [(25, [0, 1, 2]), (35, [0, 1, 2, 3]), (107, [0, 1, 2])] 6 (D + 6) 264 (76, [(0, zr 74), (1, zi (x : Int)), (2, zi (p : Int))], [zi 100000000, zr 74], m) _ (And.intro trivial (hT.1 [(25, [0, 1, 2]), (35, [0, 1, 2, 3]), (107, [0, 1, 2])] 6 (D + 6) 264 (84, [(0, zr 74), (1, zi (x : Int)), (2, zi (p : Int))], [zi 0, zi 0, zi (x : Int), zi 0, zr 74], (zu m 74 47 100000000)) _ (o1 a1))))) (fun a2 => (o2 (Classical.byContradiction a2)))))
theorem zb264_25 (hT : zRules T) {D : Nat} {κ : Option zA → zM → Prop} {m : zM} {x : Nat} {p : Nat} {lo : zL} (hlo : z_keep [0, 1, 2] lo = [(0, zr 74), (1, zi (x : Int)), (2, zi (p : Int))])  (hB : zB m) (h_x : x ≤ 63) (h_p : p ≤ 6) 
    (k1 : ¬ (p : Int) < (m 74 4) → zB (zu m 74 47 100000000) → T (D + 5) 263 (0, [(0, zr 74), (1, zi 0), (2, zi (x : Int)), (3, zi 0), (4, zi 0)], [], (zu m 74 47 100000000)) (fun r m1 => T (D + 6) 264 (87, [(0, zr 74), (1, zi (x : Int)), (2, zi (p : Int))], r.toList ++ [], m1) κ))
    (k2 : (p : Int) < (m 74 4) → T (D + 6) 264 (35, [(0, zr 74), (1, zi (x : Int)), (2, zi (p : Int)), (3, zi 0)], [], m) κ) :
    T (D + 6) 264 (25, lo, [], m) κ := by
  have hb2 : 0 ≤ (m 74 4) ∧ (m 74 4) ≤ 6 := hB 74 4
  have he0 : wr (p : Int) = (p : Int) := wr_id (by omega) (by omega)
  have he1 : wr (m 74 4) = (m 74 4) := wr_id (by omega) (by omega)
  have key := @zb264_25r T hT D κ m x p lo hlo
  simp only [he0, he1, Int.toNat_natCast] at key
  exact key
    (fun x0 => k1 x0 (zB_u hB trivial))
    k2
theorem zb264_35r (hT : zRules T) {D : Nat} {κ : Option zA → zM → Prop} {m : zM} {x : Nat} {p : Nat} {c : Nat} {lo : zL} (hlo : z_keep [0, 1, 2, 3] lo = [(0, zr 74), (1, zi (x : Int)), (2, zi (p : Int)), (3, zi (c : Int))]) 
    (o1 : ¬ wr (c : Int) < wr (m 74 6) → T (D + 6) 264 (25, [(0, zr 74), (1, zi (x : Int)), (2, zi ((p : Int) + 1))], [], m) κ)
    (o2 : wr (c : Int) < wr (m 74 6) → T (D + 5) 261 (0, [(0, zr 74), (1, zi (c : Int)), (2, zi (p : Int))], [], m) (fun r m1 => T (D + 6) 264 (59, [(0, zr 74), (1, zi (x : Int)), (2, zi (p : Int)), (3, zi (c : Int))], r.toList ++ [zi ((8 * (p : Int)) + (c : Int)), zr 94], m1) κ)) :
    T (D + 6) 264 (35, lo, [], m) κ :=
  zkeep hT hlo (hT.1 [(25, [0, 1, 2]), (35, [0, 1, 2, 3]), (107, [0, 1, 2])] 6 (D + 6) 264 _ κ (And.intro (fun a1 => (o1 a1)) (fun a2 => (hT.1 [(25, [0, 1, 2]), (35, [0, 1, 2, 3]), (107, [0, 1, 2])] 6 (D + 6) 264 (47, [(0, zr 74), (1, zi (x : Int)), (2, zi (p : Int)), (3, zi (c : Int))], [zr 94], m) _ (hT.1 [(25, [0, 1, 2]), (35, [0, 1, 2, 3]), (107, [0, 1, 2])] 6 (D + 6) 264 (54, [(0, zr 74), (1, zi (x : Int)), (2, zi (p : Int)), (3, zi (c : Int))], [zr 74, zi ((8 * (p : Int)) + (c : Int)), zr 94], m) _ (o2 (Classical.byContradiction a2)))))))
theorem zb264_35 (hT : zRules T) {D : Nat} {κ : Option zA → zM → Prop} {m : zM} {x : Nat} {p : Nat} {c : Nat} {lo : zL} (hlo : z_keep [0, 1, 2, 3] lo = [(0, zr 74), (1, zi (x : Int)), (2, zi (p : Int)), (3, zi (c : Int))])  (hB : zB m) (h_x : x ≤ 63) (h_p : p ≤ 5) (h_c : c ≤ 8) 
    (k1 : ¬ (c : Int) < (m 74 6) → T (D + 6) 264 (25, [(0, zr 74), (1, zi (x : Int)), (2, zi ((p : Int) + 1))], [], m) κ)
    (k2 : (c : Int) < (m 74 6) → T (D + 5) 261 (0, [(0, zr 74), (1, zi (c : Int)), (2, zi (p : Int))], [], m) (fun r m1 => T (D + 6) 264 (59, [(0, zr 74), (1, zi (x : Int)), (2, zi (p : Int)), (3, zi (c : Int))], r.toList ++ [zi ((8 * (p : Int)) + (c : Int)), zr 94], m1) κ)) :
    T (D + 6) 264 (35, lo, [], m) κ := by
  have hb3 : 0 ≤ (m 74 6) ∧ (m 74 6) ≤ 8 := hB 74 6
  have he0 : wr (c : Int) = (c : Int) := wr_id (by omega) (by omega)
  have he1 : wr (m 74 6) = (m 74 6) := wr_id (by omega) (by omega)
  have key := @zb264_35r T hT D κ m x p c lo hlo
  simp only [he0, he1, Int.toNat_natCast] at key
  exact key
    k1
    k2
theorem zb264_59r (hT : zRules T) {D : Nat} {κ : Option zA → zM → Prop} {m : zM} {x : Nat} {p : Nat} {c : Nat} {v : Int} {d : Nat} {lo : zL} (hlo : z_keep [0, 1, 2, 3] lo = [(0, zr 74), (1, zi (x : Int)), (2, zi (p : Int)), (3, zi (c : Int))]) 
    (o1 : (0 ≤ wr (d : Int) ∧ wr (d : Int) < 48))
    (o2 : T (D + 6) 264 (35, [(0, zr 74), (1, zi (x : Int)), (2, zi (p : Int)), (3, zi ((c : Int) + 1))], [], (zu m 94 ((wr (d : Int)).toNat) v)) κ) :
    T (D + 6) 264 (59, lo, [zi v, zi (d : Int), zr 94], m) κ :=
  zkeep hT hlo (hT.1 [(25, [0, 1, 2]), (35, [0, 1, 2, 3]), (107, [0, 1, 2])] 6 (D + 6) 264 _ κ (And.intro (And.intro (o1) trivial) (o2)))
theorem zb264_59 (hT : zRules T) {D : Nat} {κ : Option zA → zM → Prop} {m : zM} {x : Nat} {p : Nat} {c : Nat} {v : Int} {d : Nat} {lo : zL} (hlo : z_keep [0, 1, 2, 3] lo = [(0, zr 74), (1, zi (x : Int)), (2, zi (p : Int)), (3, zi (c : Int))])  (hB : zB m) (h_x : x ≤ 63) (h_p : p ≤ 5) (h_c : c ≤ 7) (h_v : 0 ≤ v ∧ v ≤ 1000) (h_d : d ≤ 47) 
    (k1 : zB (zu m 94 d v) → T (D + 6) 264 (35, [(0, zr 74), (1, zi (x : Int)), (2, zi (p : Int)), (3, zi ((c : Int) + 1))], [], (zu m 94 d v)) κ) :
    T (D + 6) 264 (59, lo, [zi v, zi (d : Int), zr 94], m) κ := by
  have he0 : wr (d : Int) = (d : Int) := wr_id (by omega) (by omega)
  have he1 : (d : Int).toNat = d := by omega
  have key := @zb264_59r T hT D κ m x p c v d lo hlo
  simp only [he0, he1, Int.toNat_natCast] at key
  exact key
    (by refine ⟨?_, ?_⟩ <;> omega)
    (k1  (zB_u hB trivial))
theorem zb264_87r (hT : zRules T) {D : Nat} {κ : Option zA → zM → Prop} {m : zM} {x : Nat} {lo : zL} (hlo : z_keep [0, 1] lo = [(0, zr 74), (1, zi (x : Int))]) 
    (o1 : ¬ wr (m 74 47) = 100000000 → T (D + 6) 264 (107, [(0, zr 74), (1, zi (x : Int)), (2, zi 0)], [], (zu m 74 11 0)) κ)
    (o2 : wr (m 74 47) = 100000000 → κ (some (zi (-2))) m) :
    T (D + 6) 264 (87, lo, [], m) κ :=
  zkeep hT hlo (hT.1 [(25, [0, 1, 2]), (35, [0, 1, 2, 3]), (107, [0, 1, 2])] 6 (D + 6) 264 _ κ (And.intro (fun a1 => (hT.1 [(25, [0, 1, 2]), (35, [0, 1, 2, 3]), (107, [0, 1, 2])] 6 (D + 6) 264 (102, [(0, zr 74), (1, zi (x : Int))], [zi 0, zr 74], m) _ (And.intro trivial (o1 a1)))) (fun a2 => (o2 (Classical.byContradiction a2)))))
theorem zb264_87 (hT : zRules T) {D : Nat} {κ : Option zA → zM → Prop} {m : zM} {x : Nat} {lo : zL} (hlo : z_keep [0, 1] lo = [(0, zr 74), (1, zi (x : Int))])  (hB : zB m) (h_x : x ≤ 63) 
    (k1 : ¬ wr (m 74 47) = 100000000 → zB (zu m 74 11 0) → T (D + 6) 264 (107, [(0, zr 74), (1, zi (x : Int)), (2, zi 0)], [], (zu m 74 11 0)) κ)
    (k2 : wr (m 74 47) = 100000000 → κ (some (zi (-2))) m) :
    T (D + 6) 264 (87, lo, [], m) κ := by
  have hb1 : (-2147483648) ≤ wr (m 74 47) ∧ wr (m 74 47) ≤ 2147483647 := wrB (m 74 47)
  exact zb264_87r hT hlo
    (fun x0 => k1 x0 (zB_u hB (show 0 ≤ 0 ∧ 0 ≤ 32 from ⟨by omega, by omega⟩)))
    k2
theorem zb264_107r (hT : zRules T) {D : Nat} {κ : Option zA → zM → Prop} {m : zM} {x : Nat} {p : Nat} {lo : zL} (hlo : z_keep [0, 1, 2] lo = [(0, zr 74), (1, zi (x : Int)), (2, zi (p : Int))]) 
    (o1 : ¬ wr (p : Int) < wr (m 74 4) → κ (some (zi (wr (m 74 47)))) m)
    (o2 : wr (p : Int) < wr (m 74 4) → ¬ wr (z_and (z_shr (x : Int) (p : Int)) 1) = 1 → T (D + 6) 264 (107, [(0, zr 74), (1, zi (x : Int)), (2, zi ((p : Int) + 1))], [], m) κ)
    (o3 : wr (p : Int) < wr (m 74 4) → wr (z_and (z_shr (x : Int) (p : Int)) 1) = 1 → (0 ≤ wr (p : Int) ∧ wr (p : Int) < 6))
    (o4 : wr (p : Int) < wr (m 74 4) → wr (z_and (z_shr (x : Int) (p : Int)) 1) = 1 → (0 ≤ wr (m 74 11) ∧ wr (m 74 11) < 32))
    (o5 : wr (p : Int) < wr (m 74 4) → wr (z_and (z_shr (x : Int) (p : Int)) 1) = 1 → T (D + 6) 264 (107, [(0, zr 74), (1, zi (x : Int)), (2, zi ((p : Int) + 1))], [], (zu (zu m 81 ((wr (m 74 11)).toNat) (m 96 ((wr (p : Int)).toNat))) 74 11 ((m 74 11) + 1))) κ) :
    T (D + 6) 264 (107, lo, [], m) κ :=
  zkeep hT hlo (hT.1 [(25, [0, 1, 2]), (35, [0, 1, 2, 3]), (107, [0, 1, 2])] 6 (D + 6) 264 _ κ (And.intro (fun a1 => (hT.1 [(25, [0, 1, 2]), (35, [0, 1, 2, 3]), (107, [0, 1, 2])] 6 (D + 6) 264 (143, [(0, zr 74), (1, zi (x : Int)), (2, zi (p : Int))], [zi (m 74 47)], m) _ (o1 a1))) (fun a2 => (hT.1 [(25, [0, 1, 2]), (35, [0, 1, 2, 3]), (107, [0, 1, 2])] 6 (D + 6) 264 (117, [(0, zr 74), (1, zi (x : Int)), (2, zi (p : Int))], [zi (p : Int), zi (x : Int)], m) _ (hT.1 [] 6 (D + 5) 187 _ _ (hT.1 [] 6 (D + 5) 187 (6, [(0, zi (x : Int)), (1, zi (p : Int))], [zi 1, zi (z_and (z_shr (x : Int) (p : Int)) 1)], m) _ (And.intro (fun a3 => (And.intro (z_b01L rfl) (hT.1 [(25, [0, 1, 2]), (35, [0, 1, 2, 3]), (107, [0, 1, 2])] 6 (D + 6) 264 _ _ (And.intro (fun _ => (o2 (Classical.byContradiction a2) a3)) (fun a5 => (a5 (z_litT rfl)).elim))))) (fun a4 => (And.intro (z_b01L rfl) (hT.1 [(25, [0, 1, 2]), (35, [0, 1, 2, 3]), (107, [0, 1, 2])] 6 (D + 6) 264 _ _ (And.intro (fun a6 => (z_litF a6 rfl).elim) (fun _ => (And.intro (o3 (Classical.byContradiction a2) (Classical.byContradiction a4)) (hT.1 [(25, [0, 1, 2]), (35, [0, 1, 2, 3]), (107, [0, 1, 2])] 6 (D + 6) 264 (130, [(0, zr 74), (1, zi (x : Int)), (2, zi (p : Int))], [zi (m 96 ((wr (p : Int)).toNat)), zr 74], m) _ (hT.1 [] 6 (D + 5) 189 _ _ (And.intro (And.intro (o4 (Classical.byContradiction a2) (Classical.byContradiction a4)) trivial) (hT.1 [] 6 (D + 5) 189 (10, [(0, zr 74), (1, zi (m 96 ((wr (p : Int)).toNat)))], [], (zu m 81 ((wr (m 74 11)).toNat) (m 96 ((wr (p : Int)).toNat)))) _ (And.intro trivial (hT.1 [] 6 (D + 5) 189 (20, [(0, zr 74), (1, zi (m 96 ((wr (p : Int)).toNat)))], [], (zu (zu m 81 ((wr (m 74 11)).toNat) (m 96 ((wr (p : Int)).toNat))) 74 11 ((m 74 11) + 1))) _ (hT.1 [(25, [0, 1, 2]), (35, [0, 1, 2, 3]), (107, [0, 1, 2])] 6 (D + 6) 264 _ _ (o5 (Classical.byContradiction a2) (Classical.byContradiction a4))))))))))))))))))))))
theorem zb264_107 (hT : zRules T) {D : Nat} {κ : Option zA → zM → Prop} {m : zM} {x : Nat} {p : Nat} {lo : zL} (hlo : z_keep [0, 1, 2] lo = [(0, zr 74), (1, zi (x : Int)), (2, zi (p : Int))])  (hB : zB m) (h_x : x ≤ 63) (h_p : p ≤ 6) 
    (k1 : ¬ (p : Int) < (m 74 4) → κ (some (zi (wr (m 74 47)))) m)
    (k2 : (p : Int) < (m 74 4) → ¬ (z_and (z_shr (x : Int) (p : Int)) 1) = 1 → T (D + 6) 264 (107, [(0, zr 74), (1, zi (x : Int)), (2, zi ((p : Int) + 1))], [], m) κ)
    (k3 : (p : Int) < (m 74 4) → (z_and (z_shr (x : Int) (p : Int)) 1) = 1 → (0 ≤ (m 74 11) ∧ (m 74 11) < 32))
    (k4 : (p : Int) < (m 74 4) → (z_and (z_shr (x : Int) (p : Int)) 1) = 1 → T (D + 6) 264 (107, [(0, zr 74), (1, zi (x : Int)), (2, zi ((p : Int) + 1))], [], (zu (zu m 81 ((m 74 11).toNat) (m 96 p)) 74 11 ((m 74 11) + 1))) κ) :
    T (D + 6) 264 (107, lo, [], m) κ := by
  have hb2 : 0 ≤ (m 74 4) ∧ (m 74 4) ≤ 6 := hB 74 4
  have hb3 : (-2147483648) ≤ (z_shr (x : Int) (p : Int)) ∧ (z_shr (x : Int) (p : Int)) ≤ 2147483647 := z_shrB (x : Int) (p : Int)
  have hb4 : 0 ≤ (z_and (z_shr (x : Int) (p : Int)) 1) ∧ (z_and (z_shr (x : Int) (p : Int)) 1) ≤ 1 := z_andC (z_shr (x : Int) (p : Int)) 1 (by decide)
  have hb5 : 0 ≤ (m 74 11) ∧ (m 74 11) ≤ 32 := hB 74 11
  have hb6 : (-2147483648) ≤ wr (m 74 47) ∧ wr (m 74 47) ≤ 2147483647 := wrB (m 74 47)
  have he0 : wr (p : Int) = (p : Int) := wr_id (by omega) (by omega)
  have he1 : wr (m 74 4) = (m 74 4) := wr_id (by omega) (by omega)
  have he2 : wr (z_and (z_shr (x : Int) (p : Int)) 1) = (z_and (z_shr (x : Int) (p : Int)) 1) := wr_id (by omega) (by omega)
  have he3 : (p : Int).toNat = p := by omega
  have he4 : wr (m 74 11) = (m 74 11) := wr_id (by omega) (by omega)
  have key := @zb264_107r T hT D κ m x p lo hlo
  simp only [he0, he1, he2, he3, he4, Int.toNat_natCast] at key
  exact key
    k1
    k2
    (fun x0 x1 => by refine ⟨?_, ?_⟩ <;> omega)
    k3
    k4
theorem zb263_0r (hT : zRules T) {D : Nat} {κ : Option zA → zM → Prop} {m : zM} {k : Nat} {x : Nat} {u : Nat} {t : Int} 
    (o1 : wr t < wr (m 74 47) → ¬ wr (k : Int) = wr (m 74 4) → ¬ wr (z_and (z_shr (x : Int) (k : Int)) 1) = 1 → T D 263 (0, [(0, zr 74), (1, zi ((k : Int) + 1)), (2, zi (x : Int)), (3, zi (u : Int)), (4, zi t)], [], m) (fun r m1 => T (D + 1) 263 (76, [(0, zr 74), (1, zi (k : Int)), (2, zi (x : Int)), (3, zi (u : Int)), (4, zi t)], r.toList ++ [], m1) κ))
    (o2 : wr t < wr (m 74 47) → ¬ wr (k : Int) = wr (m 74 4) → wr (z_and (z_shr (x : Int) (k : Int)) 1) = 1 → T (D + 1) 263 (80, [(0, zr 74), (1, zi (k : Int)), (2, zi (x : Int)), (3, zi (u : Int)), (4, zi t), (5, zi 0)], [], m) κ)
    (o3 : wr t < wr (m 74 47) → wr (k : Int) = wr (m 74 4) → T (D + 1) 263 (27, [(0, zr 74), (5, zi 0)], [], (zu m 74 47 t)) κ)
    (o4 : ¬ wr t < wr (m 74 47) → κ (none) m) :
    T (D + 1) 263 (0, [(0, zr 74), (1, zi (k : Int)), (2, zi (x : Int)), (3, zi (u : Int)), (4, zi t)], [], m) κ :=
  hT.1 [(27, [0, 5]), (80, [0, 1, 2, 3, 4, 5])] 6 (D + 1) 263 _ κ (And.intro (fun a1 => (hT.1 [(27, [0, 5]), (80, [0, 1, 2, 3, 4, 5])] 6 (D + 1) 263 (12, [(0, zr 74), (1, zi (k : Int)), (2, zi (x : Int)), (3, zi (u : Int)), (4, zi t)], [zr 74, zi (k : Int)], m) _ (And.intro (fun a3 => (hT.1 [] 6 D 187 _ _ (hT.1 [] 6 D 187 (6, [(0, zi (x : Int)), (1, zi (k : Int))], [zi 1, zi (z_and (z_shr (x : Int) (k : Int)) 1)], m) _ (And.intro (fun a5 => (And.intro (z_b01L rfl) (hT.1 [(27, [0, 5]), (80, [0, 1, 2, 3, 4, 5])] 6 (D + 1) 263 _ _ (And.intro (fun a7 => (z_litF a7 rfl).elim) (fun _ => (hT.1 [(27, [0, 5]), (80, [0, 1, 2, 3, 4, 5])] 6 (D + 1) 263 (70, [(0, zr 74), (1, zi (k : Int)), (2, zi (x : Int)), (3, zi (u : Int)), (4, zi t)], [zi (x : Int), zi ((k : Int) + 1), zr 74], m) _ (o1 a1 a3 a5))))))) (fun a6 => (And.intro (z_b01L rfl) (hT.1 [(27, [0, 5]), (80, [0, 1, 2, 3, 4, 5])] 6 (D + 1) 263 _ _ (And.intro (fun _ => (o2 a1 a3 (Classical.byContradiction a6))) (fun a8 => (a8 (z_litT rfl)).elim))))))))) (fun a4 => (And.intro trivial (hT.1 [(27, [0, 5]), (80, [0, 1, 2, 3, 4, 5])] 6 (D + 1) 263 (25, [(0, zr 74), (1, zi (k : Int)), (2, zi (x : Int)), (3, zi (u : Int)), (4, zi t)], [zi 0], (zu m 74 47 t)) _ (o3 a1 (Classical.byContradiction a4)))))))) (fun a2 => (o4 a2)))
theorem zb263_0 (hT : zRules T) {D : Nat} {κ : Option zA → zM → Prop} {m : zM} {k : Nat} {x : Nat} {u : Nat} {t : Int}  (hB : zB m) (h_k : k ≤ 6) (h_x : x ≤ 63) (h_u : u ≤ 255) (h_t : 0 ≤ t ∧ t ≤ 10000) 
    (k1 : t < wr (m 74 47) → ¬ (k : Int) = (m 74 4) → ¬ (z_and (z_shr (x : Int) (k : Int)) 1) = 1 → T D 263 (0, [(0, zr 74), (1, zi ((k : Int) + 1)), (2, zi (x : Int)), (3, zi (u : Int)), (4, zi t)], [], m) (fun r m1 => T (D + 1) 263 (76, [(0, zr 74), (1, zi (k : Int)), (2, zi (x : Int)), (3, zi (u : Int)), (4, zi t)], r.toList ++ [], m1) κ))
    (k2 : t < wr (m 74 47) → ¬ (k : Int) = (m 74 4) → (z_and (z_shr (x : Int) (k : Int)) 1) = 1 → T (D + 1) 263 (80, [(0, zr 74), (1, zi (k : Int)), (2, zi (x : Int)), (3, zi (u : Int)), (4, zi t), (5, zi 0)], [], m) κ)
    (k3 : t < wr (m 74 47) → (k : Int) = (m 74 4) → zB (zu m 74 47 t) → T (D + 1) 263 (27, [(0, zr 74), (5, zi 0)], [], (zu m 74 47 t)) κ)
    (k4 : ¬ t < wr (m 74 47) → κ (none) m) :
    T (D + 1) 263 (0, [(0, zr 74), (1, zi (k : Int)), (2, zi (x : Int)), (3, zi (u : Int)), (4, zi t)], [], m) κ := by
  have hb4 : (-2147483648) ≤ wr (m 74 47) ∧ wr (m 74 47) ≤ 2147483647 := wrB (m 74 47)
  have hb5 : 0 ≤ (m 74 4) ∧ (m 74 4) ≤ 6 := hB 74 4
  have hb6 : (-2147483648) ≤ (z_shr (x : Int) (k : Int)) ∧ (z_shr (x : Int) (k : Int)) ≤ 2147483647 := z_shrB (x : Int) (k : Int)
  have hb7 : 0 ≤ (z_and (z_shr (x : Int) (k : Int)) 1) ∧ (z_and (z_shr (x : Int) (k : Int)) 1) ≤ 1 := z_andC (z_shr (x : Int) (k : Int)) 1 (by decide)
  have he0 : wr t = t := wr_id (by omega) (by omega)
  have he1 : wr (k : Int) = (k : Int) := wr_id (by omega) (by omega)
  have he2 : wr (m 74 4) = (m 74 4) := wr_id (by omega) (by omega)
  have he3 : wr (z_and (z_shr (x : Int) (k : Int)) 1) = (z_and (z_shr (x : Int) (k : Int)) 1) := wr_id (by omega) (by omega)
  have key := @zb263_0r T hT D κ m k x u t
  simp only [he0, he1, he2, he3, Int.toNat_natCast] at key
  exact key
    k1
    k2
    (fun x0 x1 => k3 x0 x1 (zB_u hB trivial))
    k4
theorem zb263_27r (hT : zRules T) {D : Nat} {κ : Option zA → zM → Prop} {m : zM} {i : Nat} {lo : zL} (hlo : z_keep [0, 5] lo = [(0, zr 74), (5, zi (i : Int))]) 
    (o1 : ¬ wr (i : Int) < wr (m 74 4) → κ (none) m)
    (o2 : wr (i : Int) < wr (m 74 4) → (0 ≤ wr (i : Int) ∧ wr (i : Int) < 6))
    (o3 : wr (i : Int) < wr (m 74 4) → (0 ≤ wr (i : Int) ∧ wr (i : Int) < 6))
    (o4 : wr (i : Int) < wr (m 74 4) → T (D + 1) 263 (27, [(0, zr 74), (5, zi ((i : Int) + 1))], [], (zu m 96 ((wr (i : Int)).toNat) (m 95 ((wr (i : Int)).toNat)))) κ) :
    T (D + 1) 263 (27, lo, [], m) κ :=
  zkeep hT hlo (hT.1 [(27, [0, 5]), (80, [0, 1, 2, 3, 4, 5])] 6 (D + 1) 263 _ κ (And.intro (fun a1 => (o1 a1)) (fun a2 => (hT.1 [(27, [0, 5]), (80, [0, 1, 2, 3, 4, 5])] 6 (D + 1) 263 (40, [(0, zr 74), (5, zi (i : Int))], [zr 96], m) _ (And.intro (o2 (Classical.byContradiction a2)) (And.intro (And.intro (o3 (Classical.byContradiction a2)) trivial) (hT.1 [(27, [0, 5]), (80, [0, 1, 2, 3, 4, 5])] 6 (D + 1) 263 (50, [(0, zr 74), (5, zi (i : Int))], [], (zu m 96 ((wr (i : Int)).toNat) (m 95 ((wr (i : Int)).toNat)))) _ (o4 (Classical.byContradiction a2)))))))))
theorem zb263_27 (hT : zRules T) {D : Nat} {κ : Option zA → zM → Prop} {m : zM} {i : Nat} {lo : zL} (hlo : z_keep [0, 5] lo = [(0, zr 74), (5, zi (i : Int))])  (hB : zB m) (h_i : i ≤ 6) 
    (k1 : ¬ (i : Int) < (m 74 4) → κ (none) m)
    (k2 : (i : Int) < (m 74 4) → zB (zu m 96 i (m 95 i)) → T (D + 1) 263 (27, [(0, zr 74), (5, zi ((i : Int) + 1))], [], (zu m 96 i (m 95 i))) κ) :
    T (D + 1) 263 (27, lo, [], m) κ := by
  have hb1 : 0 ≤ (m 74 4) ∧ (m 74 4) ≤ 6 := hB 74 4
  have he0 : wr (i : Int) = (i : Int) := wr_id (by omega) (by omega)
  have he1 : wr (m 74 4) = (m 74 4) := wr_id (by omega) (by omega)
  have he2 : (i : Int).toNat = i := by omega
  have key := @zb263_27r T hT D κ m i lo hlo
  simp only [he0, he1, he2, Int.toNat_natCast] at key
  exact key
    k1
    (fun x0 => by refine ⟨?_, ?_⟩ <;> omega)
    (fun x0 => by refine ⟨?_, ?_⟩ <;> omega)
    (fun x0 => k2 x0 (zB_u hB trivial))
theorem zb263_76r (hT : zRules T) {D : Nat} {κ : Option zA → zM → Prop} {m : zM} {lo : zL} (hlo : z_keep [] lo = []) 
    (o1 : κ (none) m) :
    T (D + 1) 263 (76, lo, [], m) κ :=
  zkeep hT hlo (hT.1 [(27, [0, 5]), (80, [0, 1, 2, 3, 4, 5])] 6 (D + 1) 263 _ κ (o1))
theorem zb263_76 (hT : zRules T) {D : Nat} {κ : Option zA → zM → Prop} {m : zM} {lo : zL} (hlo : z_keep [] lo = [])  
    (k1 : κ (none) m) :
    T (D + 1) 263 (76, lo, [], m) κ := by
  exact zb263_76r hT hlo
    k1
theorem zb263_80r (hT : zRules T) {D : Nat} {κ : Option zA → zM → Prop} {m : zM} {k : Nat} {x : Nat} {u : Nat} {t : Int} {c : Nat} {lo : zL} (hlo : z_keep [0, 1, 2, 3, 4, 5] lo = [(0, zr 74), (1, zi (k : Int)), (2, zi (x : Int)), (3, zi (u : Int)), (4, zi t), (5, zi (c : Int))]) 
    (o1 : ¬ wr (c : Int) < wr (m 74 6) → κ (none) m)
    (o2 : wr (c : Int) < wr (m 74 6) → ¬ wr (z_and (z_shr (u : Int) (c : Int)) 1) = 1 → (0 ≤ wr (k : Int) ∧ wr (k : Int) < 6))
    (o3 : wr (c : Int) < wr (m 74 6) → ¬ wr (z_and (z_shr (u : Int) (c : Int)) 1) = 1 → (0 ≤ wr ((8 * (k : Int)) + (c : Int)) ∧ wr ((8 * (k : Int)) + (c : Int)) < 48))
    (o4 : wr (c : Int) < wr (m 74 6) → ¬ wr (z_and (z_shr (u : Int) (c : Int)) 1) = 1 → T D 263 (0, [(0, zr 74), (1, zi ((k : Int) + 1)), (2, zi (x : Int)), (3, zi (z_or (u : Int) (z_shl 1 (c : Int)))), (4, zi (t + (m 94 ((wr ((8 * (k : Int)) + (c : Int))).toNat))))], [], (zu m 95 ((wr (k : Int)).toNat) (c : Int))) (fun r m1 => T (D + 1) 263 (138, [(0, zr 74), (1, zi (k : Int)), (2, zi (x : Int)), (3, zi (u : Int)), (4, zi t), (5, zi (c : Int))], r.toList ++ [], m1) κ))
    (o5 : wr (c : Int) < wr (m 74 6) → wr (z_and (z_shr (u : Int) (c : Int)) 1) = 1 → T (D + 1) 263 (80, [(0, zr 74), (1, zi (k : Int)), (2, zi (x : Int)), (3, zi (u : Int)), (4, zi t), (5, zi ((c : Int) + 1))], [], m) κ) :
    T (D + 1) 263 (80, lo, [], m) κ :=
  zkeep hT hlo (hT.1 [(27, [0, 5]), (80, [0, 1, 2, 3, 4, 5])] 6 (D + 1) 263 _ κ (And.intro (fun a1 => (o1 a1)) (fun a2 => (hT.1 [(27, [0, 5]), (80, [0, 1, 2, 3, 4, 5])] 6 (D + 1) 263 (92, [(0, zr 74), (1, zi (k : Int)), (2, zi (x : Int)), (3, zi (u : Int)), (4, zi t), (5, zi (c : Int))], [zi (c : Int), zi (u : Int)], m) _ (hT.1 [] 6 D 187 _ _ (hT.1 [] 6 D 187 (6, [(0, zi (u : Int)), (1, zi (c : Int))], [zi 1, zi (z_and (z_shr (u : Int) (c : Int)) 1)], m) _ (And.intro (fun a3 => (And.intro (z_b01L rfl) (hT.1 [(27, [0, 5]), (80, [0, 1, 2, 3, 4, 5])] 6 (D + 1) 263 _ _ (And.intro (fun _ => (And.intro (And.intro (o2 (Classical.byContradiction a2) a3) trivial) (hT.1 [(27, [0, 5]), (80, [0, 1, 2, 3, 4, 5])] 6 (D + 1) 263 (109, [(0, zr 74), (1, zi (k : Int)), (2, zi (x : Int)), (3, zi (u : Int)), (4, zi t), (5, zi (c : Int))], [], (zu m 95 ((wr (k : Int)).toNat) (c : Int))) _ (hT.1 [(27, [0, 5]), (80, [0, 1, 2, 3, 4, 5])] 6 (D + 1) 263 (115, [(0, zr 74), (1, zi (k : Int)), (2, zi (x : Int)), (3, zi (u : Int)), (4, zi t), (5, zi (c : Int))], [zi (u : Int), zi (x : Int), zi ((k : Int) + 1), zr 74], (zu m 95 ((wr (k : Int)).toNat) (c : Int))) _ (hT.1 [(27, [0, 5]), (80, [0, 1, 2, 3, 4, 5])] 6 (D + 1) 263 (123, [(0, zr 74), (1, zi (k : Int)), (2, zi (x : Int)), (3, zi (u : Int)), (4, zi t), (5, zi (c : Int))], [zr 74, zi t, zi (z_or (u : Int) (z_shl 1 (c : Int))), zi (x : Int), zi ((k : Int) + 1), zr 74], (zu m 95 ((wr (k : Int)).toNat) (c : Int))) _ (hT.1 [(27, [0, 5]), (80, [0, 1, 2, 3, 4, 5])] 6 (D + 1) 263 (133, [(0, zr 74), (1, zi (k : Int)), (2, zi (x : Int)), (3, zi (u : Int)), (4, zi t), (5, zi (c : Int))], [zi ((8 * (k : Int)) + (c : Int)), zr 94, zi t, zi (z_or (u : Int) (z_shl 1 (c : Int))), zi (x : Int), zi ((k : Int) + 1), zr 74], (zu m 95 ((wr (k : Int)).toNat) (c : Int))) _ (And.intro (o3 (Classical.byContradiction a2) a3) (o4 (Classical.byContradiction a2) a3)))))))) (fun a5 => (a5 (z_litT rfl)).elim))))) (fun a4 => (And.intro (z_b01L rfl) (hT.1 [(27, [0, 5]), (80, [0, 1, 2, 3, 4, 5])] 6 (D + 1) 263 _ _ (And.intro (fun a6 => (z_litF a6 rfl).elim) (fun _ => (o5 (Classical.byContradiction a2) (Classical.byContradiction a4))))))))))))))
theorem zb263_80 (hT : zRules T) {D : Nat} {κ : Option zA → zM → Prop} {m : zM} {k : Nat} {x : Nat} {u : Nat} {t : Int} {c : Nat} {lo : zL} (hlo : z_keep [0, 1, 2, 3, 4, 5] lo = [(0, zr 74), (1, zi (k : Int)), (2, zi (x : Int)), (3, zi (u : Int)), (4, zi t), (5, zi (c : Int))])  (hB : zB m) (h_k : k ≤ 5) (h_x : x ≤ 63) (h_u : u ≤ 255) (h_t : 0 ≤ t ∧ t ≤ 10000) (h_c : c ≤ 8) 
    (k1 : ¬ (c : Int) < (m 74 6) → κ (none) m)
    (k2 : (c : Int) < (m 74 6) → ¬ (z_and (z_shr (u : Int) (c : Int)) 1) = 1 → zB (zu m 95 k (c : Int)) → T D 263 (0, [(0, zr 74), (1, zi ((k : Int) + 1)), (2, zi (x : Int)), (3, zi (z_or (u : Int) (z_shl 1 (c : Int)))), (4, zi (t + (m 94 (8 * k + c))))], [], (zu m 95 k (c : Int))) (fun r m1 => T (D + 1) 263 (138, [(0, zr 74), (1, zi (k : Int)), (2, zi (x : Int)), (3, zi (u : Int)), (4, zi t), (5, zi (c : Int))], r.toList ++ [], m1) κ))
    (k3 : (c : Int) < (m 74 6) → (z_and (z_shr (u : Int) (c : Int)) 1) = 1 → T (D + 1) 263 (80, [(0, zr 74), (1, zi (k : Int)), (2, zi (x : Int)), (3, zi (u : Int)), (4, zi t), (5, zi ((c : Int) + 1))], [], m) κ) :
    T (D + 1) 263 (80, lo, [], m) κ := by
  have hb5 : 0 ≤ (m 74 6) ∧ (m 74 6) ≤ 8 := hB 74 6
  have hb6 : (-2147483648) ≤ (z_shr (u : Int) (c : Int)) ∧ (z_shr (u : Int) (c : Int)) ≤ 2147483647 := z_shrB (u : Int) (c : Int)
  have hb7 : 0 ≤ (z_and (z_shr (u : Int) (c : Int)) 1) ∧ (z_and (z_shr (u : Int) (c : Int)) 1) ≤ 1 := z_andC (z_shr (u : Int) (c : Int)) 1 (by decide)
  have hb8 : (-2147483648) ≤ (z_shl 1 (c : Int)) ∧ (z_shl 1 (c : Int)) ≤ 2147483647 := z_shlB 1 (c : Int)
  have hb9 : (-2147483648) ≤ (z_or (u : Int) (z_shl 1 (c : Int))) ∧ (z_or (u : Int) (z_shl 1 (c : Int))) ≤ 2147483647 := z_orB (u : Int) (z_shl 1 (c : Int))
  have he0 : wr (c : Int) = (c : Int) := wr_id (by omega) (by omega)
  have he1 : wr (m 74 6) = (m 74 6) := wr_id (by omega) (by omega)
  have he2 : wr (z_and (z_shr (u : Int) (c : Int)) 1) = (z_and (z_shr (u : Int) (c : Int)) 1) := wr_id (by omega) (by omega)
  have he3 : wr (k : Int) = (k : Int) := wr_id (by omega) (by omega)
  have he4 : (k : Int).toNat = k := by omega
  have he5 : wr ((8 * (k : Int)) + (c : Int)) = ((8 * (k : Int)) + (c : Int)) := wr_id (by omega) (by omega)
  have he6 : ((8 * (k : Int)) + (c : Int)).toNat = 8 * k + c := by omega
  have key := @zb263_80r T hT D κ m k x u t c lo hlo
  simp only [he0, he1, he2, he3, he4, he5, he6, Int.toNat_natCast] at key
  exact key
    k1
    (fun x0 x1 => by refine ⟨?_, ?_⟩ <;> omega)
    (fun x0 x1 => by refine ⟨?_, ?_⟩ <;> omega)
    (fun x0 x1 => k2 x0 x1 (zB_u hB trivial))
    k3
theorem zb263_138r (hT : zRules T) {D : Nat} {κ : Option zA → zM → Prop} {m : zM} {k : Nat} {x : Nat} {u : Nat} {t : Int} {c : Nat} {lo : zL} (hlo : z_keep [0, 1, 2, 3, 4, 5] lo = [(0, zr 74), (1, zi (k : Int)), (2, zi (x : Int)), (3, zi (u : Int)), (4, zi t), (5, zi (c : Int))]) 
    (o1 : T (D + 1) 263 (80, [(0, zr 74), (1, zi (k : Int)), (2, zi (x : Int)), (3, zi (u : Int)), (4, zi t), (5, zi ((c : Int) + 1))], [], m) κ) :
    T (D + 1) 263 (138, lo, [], m) κ :=
  zkeep hT hlo (hT.1 [(27, [0, 5]), (80, [0, 1, 2, 3, 4, 5])] 6 (D + 1) 263 _ κ (o1))
theorem zb263_138 (hT : zRules T) {D : Nat} {κ : Option zA → zM → Prop} {m : zM} {k : Nat} {x : Nat} {u : Nat} {t : Int} {c : Nat} {lo : zL} (hlo : z_keep [0, 1, 2, 3, 4, 5] lo = [(0, zr 74), (1, zi (k : Int)), (2, zi (x : Int)), (3, zi (u : Int)), (4, zi t), (5, zi (c : Int))])  (hB : zB m) (h_k : k ≤ 5) (h_x : x ≤ 63) (h_u : u ≤ 255) (h_t : 0 ≤ t ∧ t ≤ 10000) (h_c : c ≤ 7) 
    (k1 : T (D + 1) 263 (80, [(0, zr 74), (1, zi (k : Int)), (2, zi (x : Int)), (3, zi (u : Int)), (4, zi t), (5, zi ((c : Int) + 1))], [], m) κ) :
    T (D + 1) 263 (138, lo, [], m) κ := by
  exact zb263_138r hT hlo
    k1
end ZBlocks
