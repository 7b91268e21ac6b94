section ZBlocks
variable {T : Nat → Nat → zG → (Option zA → zM → Prop) → Prop}
theorem zb156_0r (hT : zRules T) {D : Nat} {κ : Option zA → zM → Prop} {m : zM} 
    (o1 : T (D + 4) 102 (0, [(0, zr 64)], [], m) (fun r m1 => T (D + 5) 156 (7, [(0, zr 1)], r.toList ++ [], m1) κ)) :
    T (D + 5) 156 (0, [(0, zr 1)], [], m) κ :=
  hT.1 [] 6 (D + 5) 156 _ κ (o1)
theorem zb156_0 (hT : zRules T) {D : Nat} {κ : Option zA → zM → Prop} {m : zM}  (hB : zB m) 
    (k1 : T (D + 4) 102 (0, [(0, zr 64)], [], m) (fun r m1 => T (D + 5) 156 (7, [(0, zr 1)], r.toList ++ [], m1) κ)) :
    T (D + 5) 156 (0, [(0, zr 1)], [], m) κ := by
  exact zb156_0r hT
    k1
theorem zb156_7r (hT : zRules T) {D : Nat} {κ : Option zA → zM → Prop} {m : zM} {b : Nat} {lo : zL} (hlo : z_keep [0] lo = [(0, zr 1)]) 
    (o1 : T (D + 4) 293 (0, [(0, zi (b : Int))], [], (zu (zu m 72 1 1) 73 0 (b : Int))) (fun r m1 => T (D + 5) 156 (20, [(0, zr 1), (1, zi (b : Int))], r.toList ++ [], m1) κ)) :
    T (D + 5) 156 (7, lo, [zi (b : Int)], m) κ :=
  zkeep hT hlo (hT.1 [] 6 (D + 5) 156 _ κ (hT.1 [] 6 (D + 4) 45 _ _ (And.intro trivial (hT.1 [] 6 (D + 4) 45 (10, [(0, zr 72), (1, zi (b : Int))], [zi 0, zr 73], (zu m 72 1 1)) _ (And.intro (And.intro (z_ixL rfl) trivial) (hT.1 [] 6 (D + 5) 156 _ _ (o1)))))))
theorem zb156_7 (hT : zRules T) {D : Nat} {κ : Option zA → zM → Prop} {m : zM} {b : Nat} {lo : zL} (hlo : z_keep [0] lo = [(0, zr 1)])  (hB : zB m) (h_b : b ≤ 127) 
    (k1 : zB (zu (zu m 72 1 1) 73 0 (b : Int)) → T (D + 4) 293 (0, [(0, zi (b : Int))], [], (zu (zu m 72 1 1) 73 0 (b : Int))) (fun r m1 => T (D + 5) 156 (20, [(0, zr 1), (1, zi (b : Int))], r.toList ++ [], m1) κ)) :
    T (D + 5) 156 (7, lo, [zi (b : Int)], m) κ := by
  exact zb156_7r hT hlo
    (k1  (zB_u (zB_u hB (show 0 ≤ 1 ∧ 1 ≤ 26 from ⟨by omega, by omega⟩)) trivial))
theorem zb156_20r (hT : zRules T) {D : Nat} {κ : Option zA → zM → Prop} {m : zM} {v : Int} {lo : zL} (hlo : z_keep [] lo = []) 
    (o1 : κ (some (zi (wr v))) m) :
    T (D + 5) 156 (20, lo, [zi v], m) κ :=
  zkeep hT hlo (hT.1 [] 6 (D + 5) 156 _ κ (o1))
theorem zb156_20 (hT : zRules T) {D : Nat} {κ : Option zA → zM → Prop} {m : zM} {v : Int} {lo : zL} (hlo : z_keep [] lo = [])  (h_v : (-2147483648) ≤ v ∧ v ≤ 2147483647) 
    (k1 : κ (some (zi v)) m) :
    T (D + 5) 156 (20, lo, [zi v], m) κ := by
  have he0 : wr v = v := wr_id (by omega) (by omega)
  have key := @zb156_20r T hT D κ m v lo hlo
  simp only [he0, Int.toNat_natCast] at key
  exact key
    k1
theorem zb102_0r (hT : zRules T) {D : Nat} {κ : Option zA → zM → Prop} {m : zM} 
    (o1 : T (D + 4) 102 (11, [(0, zr 64), (1, zi 0), (2, zi 1)], [], (zu m 71 0 1)) κ) :
    T (D + 4) 102 (0, [(0, zr 64)], [], m) κ :=
  hT.1 [(11, [0, 1, 2])] 6 (D + 4) 102 _ κ (hT.1 [(11, [0, 1, 2])] 6 (D + 4) 102 (8, [(0, zr 64), (1, zi 0)], [zi 1, zi 0, zr 71], m) _ (And.intro (And.intro (z_ixL rfl) (And.intro (z_leL rfl) (z_leL rfl))) (o1)))
theorem zb102_0 (hT : zRules T) {D : Nat} {κ : Option zA → zM → Prop} {m : zM}  (hB : zB m) 
    (k1 : zB (zu m 71 0 1) → T (D + 4) 102 (11, [(0, zr 64), (1, zi 0), (2, zi 1)], [], (zu m 71 0 1)) κ) :
    T (D + 4) 102 (0, [(0, zr 64)], [], m) κ := by
  exact zb102_0r hT
    (k1  (zB_u hB (show 0 ≤ 1 ∧ 1 ≤ 1 from ⟨by omega, by omega⟩)))
theorem zb102_11r (hT : zRules T) {D : Nat} {κ : Option zA → zM → Prop} {m : zM} {b : Nat} {x : Nat} {lo : zL} (hlo : z_keep [0, 1, 2] lo = [(0, zr 64), (1, zi (b : Int)), (2, zi (x : Int))]) 
    (o1 : ¬ wr (x : Int) < wr (z_shl 1 (m 64 2)) → κ (some (zi (wr (b : Int)))) m)
    (o2 : wr (x : Int) < wr (z_shl 1 (m 64 2)) → T (D + 3) 103 (0, [(0, zr 64), (1, zi (x : Int))], [], m) (fun r m1 => T (D + 4) 102 (31, [(0, zr 64), (1, zi (b : Int)), (2, zi (x : Int))], r.toList ++ [zi (x : Int), zr 71], m1) κ)) :
    T (D + 4) 102 (11, lo, [], m) κ :=
  zkeep hT hlo (hT.1 [(11, [0, 1, 2])] 6 (D + 4) 102 _ κ (And.intro (fun a1 => (hT.1 [(11, [0, 1, 2])] 6 (D + 4) 102 (60, [(0, zr 64), (1, zi (b : Int)), (2, zi (x : Int))], [], m) _ (o1 a1))) (fun a2 => (hT.1 [(11, [0, 1, 2])] 6 (D + 4) 102 (21, [(0, zr 64), (1, zi (b : Int)), (2, zi (x : Int))], [], m) _ (o2 (Classical.byContradiction a2))))))
theorem zb102_11 (hT : zRules T) {D : Nat} {κ : Option zA → zM → Prop} {m : zM} {b : Nat} {x : Nat} {lo : zL} (hlo : z_keep [0, 1, 2] lo = [(0, zr 64), (1, zi (b : Int)), (2, zi (x : Int))])  (hB : zB m) (h_b : b ≤ 127) (h_x : x ≤ 128) 
    (k1 : ¬ (x : Int) < (z_shl 1 (m 64 2)) → κ (some (zi (b : Int))) m)
    (k2 : (x : Int) < (z_shl 1 (m 64 2)) → T (D + 3) 103 (0, [(0, zr 64), (1, zi (x : Int))], [], m) (fun r m1 => T (D + 4) 102 (31, [(0, zr 64), (1, zi (b : Int)), (2, zi (x : Int))], r.toList ++ [zi (x : Int), zr 71], m1) κ)) :
    T (D + 4) 102 (11, lo, [], m) κ := by
  have hb2 : 0 ≤ (m 64 2) ∧ (m 64 2) ≤ 7 := hB 64 2
  have hb3 : (-2147483648) ≤ (z_shl 1 (m 64 2)) ∧ (z_shl 1 (m 64 2)) ≤ 2147483647 := z_shlB 1 (m 64 2)
  have he0 : wr (x : Int) = (x : Int) := wr_id (by omega) (by omega)
  have he1 : wr (z_shl 1 (m 64 2)) = (z_shl 1 (m 64 2)) := wr_id (by omega) (by omega)
  have he2 : wr (b : Int) = (b : Int) := wr_id (by omega) (by omega)
  have key := @zb102_11r T hT D κ m b x lo hlo
  simp only [he0, he1, he2, Int.toNat_natCast] at key
  exact key
    k1
    k2
theorem zb102_31r (hT : zRules T) {D : Nat} {κ : Option zA → zM → Prop} {m : zM} {b : Nat} {x : Nat} {v : Int} {lo : zL} (hlo : z_keep [0, 1, 2] lo = [(0, zr 64), (1, zi (b : Int)), (2, zi (x : Int))]) 
    (o1 : (0 ≤ wr (x : Int) ∧ wr (x : Int) < 128))
    (o2 : (0 ≤ wr v ∧ wr v ≤ 1))
    (o3 : (0 ≤ wr (x : Int) ∧ wr (x : Int) < 128))
    (o4 : wr ((zu m 71 ((wr (x : Int)).toNat) v) 71 ((wr (x : Int)).toNat)) = 0 → T (D + 4) 102 (11, [(0, zr 64), (1, zi (b : Int)), (2, zi ((x : Int) + 1))], [], (zu m 71 ((wr (x : Int)).toNat) v)) κ)
    (o5 : ¬ wr ((zu m 71 ((wr (x : Int)).toNat) v) 71 ((wr (x : Int)).toNat)) = 0 → T (D + 3) 293 (0, [(0, zi (x : Int))], [], (zu m 71 ((wr (x : Int)).toNat) v)) (fun r m1 => T (D + 4) 102 (45, [(0, zr 64), (1, zi (b : Int)), (2, zi (x : Int))], r.toList ++ [], m1) κ)) :
    T (D + 4) 102 (31, lo, [zi v, zi (x : Int), zr 71], m) κ :=
  zkeep hT hlo (hT.1 [(11, [0, 1, 2])] 6 (D + 4) 102 _ κ (And.intro (And.intro (o1) (o2)) (And.intro (o3) (And.intro (fun a1 => (hT.1 [(11, [0, 1, 2])] 6 (D + 4) 102 (54, [(0, zr 64), (1, zi (b : Int)), (2, zi (x : Int))], [], (zu m 71 ((wr (x : Int)).toNat) v)) _ (o4 a1))) (fun a2 => (hT.1 [(11, [0, 1, 2])] 6 (D + 4) 102 (41, [(0, zr 64), (1, zi (b : Int)), (2, zi (x : Int))], [], (zu m 71 ((wr (x : Int)).toNat) v)) _ (o5 a2)))))))
theorem zb102_31 (hT : zRules T) {D : Nat} {κ : Option zA → zM → Prop} {m : zM} {b : Nat} {x : Nat} {v : Int} {lo : zL} (hlo : z_keep [0, 1, 2] lo = [(0, zr 64), (1, zi (b : Int)), (2, zi (x : Int))])  (hB : zB m) (h_b : b ≤ 127) (h_x : x ≤ 127) (h_v : 0 ≤ v ∧ v ≤ 1) 
    (k1 : v = 0 → zB (zu m 71 x v) → T (D + 4) 102 (11, [(0, zr 64), (1, zi (b : Int)), (2, zi ((x : Int) + 1))], [], (zu m 71 x v)) κ)
    (k2 : ¬ v = 0 → zB (zu m 71 x v) → T (D + 3) 293 (0, [(0, zi (x : Int))], [], (zu m 71 x v)) (fun r m1 => T (D + 4) 102 (45, [(0, zr 64), (1, zi (b : Int)), (2, zi (x : Int))], r.toList ++ [], m1) κ)) :
    T (D + 4) 102 (31, lo, [zi v, zi (x : Int), zr 71], m) κ := by
  have he0 : wr (x : Int) = (x : Int) := wr_id (by omega) (by omega)
  have he1 : (x : Int).toNat = x := by omega
  have he2 : ((zu m 71 x v) 71 x) = v := (zu_sm (by omega))
  have he3 : wr v = v := wr_id (by omega) (by omega)
  have key := @zb102_31r T hT D κ m b x v lo hlo
  simp only [he0, he1, he2, he3, Int.toNat_natCast] at key
  exact key
    (by refine ⟨?_, ?_⟩ <;> omega)
    (by refine ⟨?_, ?_⟩ <;> omega)
    (by refine ⟨?_, ?_⟩ <;> omega)
    (fun x0 => k1 x0 (zB_u hB (show 0 ≤ v ∧ v ≤ 1 from ⟨by omega, by omega⟩)))
    (fun x0 => k2 x0 (zB_u hB (show 0 ≤ v ∧ v ≤ 1 from ⟨by omega, by omega⟩)))
theorem zb102_45r (hT : zRules T) {D : Nat} {κ : Option zA → zM → Prop} {m : zM} {b : Nat} {x : Nat} {v : Int} {lo : zL} (hlo : z_keep [0, 1, 2] lo = [(0, zr 64), (1, zi (b : Int)), (2, zi (x : Int))]) 
    (o1 : T (D + 3) 293 (0, [(0, zi (b : Int))], [], m) (fun r m1 => T (D + 4) 102 (49, [(0, zr 64), (1, zi (b : Int)), (2, zi (x : Int))], r.toList ++ [zi v], m1) κ)) :
    T (D + 4) 102 (45, lo, [zi v], m) κ :=
  zkeep hT hlo (hT.1 [(11, [0, 1, 2])] 6 (D + 4) 102 _ κ (o1))
theorem zb102_45 (hT : zRules T) {D : Nat} {κ : Option zA → zM → Prop} {m : zM} {b : Nat} {x : Nat} {v : Int} {lo : zL} (hlo : z_keep [0, 1, 2] lo = [(0, zr 64), (1, zi (b : Int)), (2, zi (x : Int))])  (hB : zB m) (h_b : b ≤ 127) (h_x : x ≤ 127) (h_v : (-2147483648) ≤ v ∧ v ≤ 2147483647) 
    (k1 : T (D + 3) 293 (0, [(0, zi (b : Int))], [], m) (fun r m1 => T (D + 4) 102 (49, [(0, zr 64), (1, zi (b : Int)), (2, zi (x : Int))], r.toList ++ [zi v], m1) κ)) :
    T (D + 4) 102 (45, lo, [zi v], m) κ := by
  exact zb102_45r hT hlo
    k1
theorem zb102_49r (hT : zRules T) {D : Nat} {κ : Option zA → zM → Prop} {m : zM} {b : Nat} {x : Nat} {v : Int} {y : Int} {lo : zL} (hlo : z_keep [0, 1, 2] lo = [(0, zr 64), (1, zi (b : Int)), (2, zi (x : Int))]) 
    (o1 : ¬ wr y < wr v → T (D + 4) 102 (11, [(0, zr 64), (1, zi (b : Int)), (2, zi ((x : Int) + 1))], [], m) κ)
    (o2 : wr y < wr v → T (D + 4) 102 (11, [(0, zr 64), (1, zi (x : Int)), (2, zi ((x : Int) + 1))], [], m) κ) :
    T (D + 4) 102 (49, lo, [zi y, zi v], m) κ :=
  zkeep hT hlo (hT.1 [(11, [0, 1, 2])] 6 (D + 4) 102 _ κ (And.intro (fun a1 => (o1 a1)) (fun a2 => (o2 (Classical.byContradiction a2)))))
theorem zb102_49 (hT : zRules T) {D : Nat} {κ : Option zA → zM → Prop} {m : zM} {b : Nat} {x : Nat} {v : Int} {y : Int} {lo : zL} (hlo : z_keep [0, 1, 2] lo = [(0, zr 64), (1, zi (b : Int)), (2, zi (x : Int))])  (hB : zB m) (h_b : b ≤ 127) (h_x : x ≤ 127) (h_v : (-2147483648) ≤ v ∧ v ≤ 2147483647) (h_y : (-2147483648) ≤ y ∧ y ≤ 2147483647) 
    (k1 : ¬ y < v → T (D + 4) 102 (11, [(0, zr 64), (1, zi (b : Int)), (2, zi ((x : Int) + 1))], [], m) κ)
    (k2 : y < v → T (D + 4) 102 (11, [(0, zr 64), (1, zi (x : Int)), (2, zi ((x : Int) + 1))], [], m) κ) :
    T (D + 4) 102 (49, lo, [zi y, zi v], m) κ := by
  have he0 : wr y = y := wr_id (by omega) (by omega)
  have he1 : wr v = v := wr_id (by omega) (by omega)
  have key := @zb102_49r T hT D κ m b x v y lo hlo
  simp only [he0, he1, Int.toNat_natCast] at key
  exact key
    k1
    k2
theorem zb103_0r (hT : zRules T) {D : Nat} {κ : Option zA → zM → Prop} {m : zM} {x : Nat} 
    (o1 : T (D + 2) 98 (0, [(0, zr 64), (1, zi (x : Int))], [], m) (fun r m1 => T (D + 3) 103 (5, [(0, zr 64), (1, zi (x : Int))], r.toList ++ [], m1) κ)) :
    T (D + 3) 103 (0, [(0, zr 64), (1, zi (x : Int))], [], m) κ :=
  hT.1 [(8, [0, 1, 2, 3])] 6 (D + 3) 103 _ κ (o1)
theorem zb103_0 (hT : zRules T) {D : Nat} {κ : Option zA → zM → Prop} {m : zM} {x : Nat}  (hB : zB m) (h_x : x ≤ 127) 
    (k1 : T (D + 2) 98 (0, [(0, zr 64), (1, zi (x : Int))], [], m) (fun r m1 => T (D + 3) 103 (5, [(0, zr 64), (1, zi (x : Int))], r.toList ++ [], m1) κ)) :
    T (D + 3) 103 (0, [(0, zr 64), (1, zi (x : Int))], [], m) κ := by
  exact zb103_0r hT
    k1
theorem zb103_5r (hT : zRules T) {D : Nat} {κ : Option zA → zM → Prop} {m : zM} {x : Nat} {h : Int} {lo : zL} (hlo : z_keep [0, 1] lo = [(0, zr 64), (1, zi (x : Int))]) 
    (o1 : T (D + 3) 103 (8, [(0, zr 64), (1, zi (x : Int)), (2, zi h), (3, zi 0)], [], m) κ) :
    T (D + 3) 103 (5, lo, [zi h], m) κ :=
  zkeep hT hlo (hT.1 [(8, [0, 1, 2, 3])] 6 (D + 3) 103 _ κ (o1))
theorem zb103_5 (hT : zRules T) {D : Nat} {κ : Option zA → zM → Prop} {m : zM} {x : Nat} {h : Int} {lo : zL} (hlo : z_keep [0, 1] lo = [(0, zr 64), (1, zi (x : Int))])  (hB : zB m) (h_x : x ≤ 127) (h_h : 0 ≤ h ∧ h ≤ 1000) 
    (k1 : T (D + 3) 103 (8, [(0, zr 64), (1, zi (x : Int)), (2, zi h), (3, zi 0)], [], m) κ) :
    T (D + 3) 103 (5, lo, [zi h], m) κ := by
  exact zb103_5r hT hlo
    k1
theorem zb103_8r (hT : zRules T) {D : Nat} {κ : Option zA → zM → Prop} {m : zM} {x : Nat} {h : Int} {i : Nat} {lo : zL} (hlo : z_keep [0, 1, 2, 3] lo = [(0, zr 64), (1, zi (x : Int)), (2, zi h), (3, zi (i : Int))]) 
    (o1 : ¬ wr (i : Int) < wr (m 64 2) → κ (some (zi 0)) m)
    (o2 : wr (i : Int) < wr (m 64 2) → ¬ wr (z_and (z_shr (x : Int) (i : Int)) 1) = 1 → T (D + 3) 103 (8, [(0, zr 64), (1, zi (x : Int)), (2, zi h), (3, zi ((i : Int) + 1))], [], m) κ)
    (o3 : wr (i : Int) < wr (m 64 2) → wr (z_and (z_shr (x : Int) (i : Int)) 1) = 1 → (0 ≤ wr (i : Int) ∧ wr (i : Int) < 7))
    (o4 : wr (i : Int) < wr (m 64 2) → wr (z_and (z_shr (x : Int) (i : Int)) 1) = 1 → wr (m 66 ((wr (i : Int)).toNat)) < wr h → T (D + 3) 103 (8, [(0, zr 64), (1, zi (x : Int)), (2, zi h), (3, zi ((i : Int) + 1))], [], m) κ)
    (o5 : wr (i : Int) < wr (m 64 2) → wr (z_and (z_shr (x : Int) (i : Int)) 1) = 1 → ¬ wr (m 66 ((wr (i : Int)).toNat)) < wr h → (0 ≤ wr (z_and (x : Int) (z_xor (z_shl 1 (i : Int)) (-1))) ∧ wr (z_and (x : Int) (z_xor (z_shl 1 (i : Int)) (-1))) < 128))
    (o6 : wr (i : Int) < wr (m 64 2) → wr (z_and (z_shr (x : Int) (i : Int)) 1) = 1 → ¬ wr (m 66 ((wr (i : Int)).toNat)) < wr h → wr (m 71 ((wr (z_and (x : Int) (z_xor (z_shl 1 (i : Int)) (-1)))).toNat)) = 0 → T (D + 3) 103 (8, [(0, zr 64), (1, zi (x : Int)), (2, zi h), (3, zi ((i : Int) + 1))], [], m) κ)
    (o7 : wr (i : Int) < wr (m 64 2) → wr (z_and (z_shr (x : Int) (i : Int)) 1) = 1 → ¬ wr (m 66 ((wr (i : Int)).toNat)) < wr h → ¬ wr (m 71 ((wr (z_and (x : Int) (z_xor (z_shl 1 (i : Int)) (-1)))).toNat)) = 0 → κ (some (zi 1)) m) :
    T (D + 3) 103 (8, lo, [], m) κ :=
  zkeep hT hlo (hT.1 [(8, [0, 1, 2, 3])] 6 (D + 3) 103 _ κ (And.intro (fun a1 => (And.intro (z_b01L rfl) (o1 a1))) (fun a2 => (hT.1 [(8, [0, 1, 2, 3])] 6 (D + 3) 103 (18, [(0, zr 64), (1, zi (x : Int)), (2, zi h), (3, zi (i : Int))], [zi (i : Int), zi (x : Int)], m) _ (And.intro (fun a3 => (hT.1 [(8, [0, 1, 2, 3])] 6 (D + 3) 103 (55, [(0, zr 64), (1, zi (x : Int)), (2, zi h), (3, zi ((i : Int) + 1))], [], m) _ (o2 (Classical.byContradiction a2) a3))) (fun a4 => (hT.1 [(8, [0, 1, 2, 3])] 6 (D + 3) 103 (26, [(0, zr 64), (1, zi (x : Int)), (2, zi h), (3, zi (i : Int))], [zi h], m) _ (And.intro (o3 (Classical.byContradiction a2) (Classical.byContradiction a4)) (And.intro (fun a5 => (hT.1 [(8, [0, 1, 2, 3])] 6 (D + 3) 103 (55, [(0, zr 64), (1, zi (x : Int)), (2, zi h), (3, zi ((i : Int) + 1))], [], m) _ (o4 (Classical.byContradiction a2) (Classical.byContradiction a4) a5))) (fun a6 => (hT.1 [(8, [0, 1, 2, 3])] 6 (D + 3) 103 (36, [(0, zr 64), (1, zi (x : Int)), (2, zi h), (3, zi (i : Int))], [zr 64], m) _ (hT.1 [(8, [0, 1, 2, 3])] 6 (D + 3) 103 (44, [(0, zr 64), (1, zi (x : Int)), (2, zi h), (3, zi (i : Int))], [zi (-1), zi (z_shl 1 (i : Int)), zi (x : Int), zr 71], m) _ (And.intro (o5 (Classical.byContradiction a2) (Classical.byContradiction a4) a6) (And.intro (fun a7 => (o6 (Classical.byContradiction a2) (Classical.byContradiction a4) a6 a7)) (fun a8 => (And.intro (z_b01L rfl) (o7 (Classical.byContradiction a2) (Classical.byContradiction a4) a6 a8)))))))))))))))))
theorem zb103_8 (hT : zRules T) {D : Nat} {κ : Option zA → zM → Prop} {m : zM} {x : Nat} {h : Int} {i : Nat} {lo : zL} (hlo : z_keep [0, 1, 2, 3] lo = [(0, zr 64), (1, zi (x : Int)), (2, zi h), (3, zi (i : Int))])  (hB : zB m) (h_x : x ≤ 127) (h_h : 0 ≤ h ∧ h ≤ 1000) (h_i : i ≤ 7) 
    (k1 : ¬ (i : Int) < (m 64 2) → κ (some (zi 0)) m)
    (k2 : (i : Int) < (m 64 2) → ¬ (z_and (z_shr (x : Int) (i : Int)) 1) = 1 → T (D + 3) 103 (8, [(0, zr 64), (1, zi (x : Int)), (2, zi h), (3, zi ((i : Int) + 1))], [], m) κ)
    (k3 : (i : Int) < (m 64 2) → (z_and (z_shr (x : Int) (i : Int)) 1) = 1 → (m 66 i) < h → T (D + 3) 103 (8, [(0, zr 64), (1, zi (x : Int)), (2, zi h), (3, zi ((i : Int) + 1))], [], m) κ)
    (k4 : (i : Int) < (m 64 2) → (z_and (z_shr (x : Int) (i : Int)) 1) = 1 → ¬ (m 66 i) < h → (0 ≤ (z_and (x : Int) (z_xor (z_shl 1 (i : Int)) (-1))) ∧ (z_and (x : Int) (z_xor (z_shl 1 (i : Int)) (-1))) < 128))
    (k5 : (i : Int) < (m 64 2) → (z_and (z_shr (x : Int) (i : Int)) 1) = 1 → ¬ (m 66 i) < h → (m 71 ((z_and (x : Int) (z_xor (z_shl 1 (i : Int)) (-1))).toNat)) = 0 → T (D + 3) 103 (8, [(0, zr 64), (1, zi (x : Int)), (2, zi h), (3, zi ((i : Int) + 1))], [], m) κ)
    (k6 : (i : Int) < (m 64 2) → (z_and (z_shr (x : Int) (i : Int)) 1) = 1 → ¬ (m 66 i) < h → ¬ (m 71 ((z_and (x : Int) (z_xor (z_shl 1 (i : Int)) (-1))).toNat)) = 0 → κ (some (zi 1)) m) :
    T (D + 3) 103 (8, lo, [], m) κ := by
  have hb3 : 0 ≤ (m 64 2) ∧ (m 64 2) ≤ 7 := hB 64 2
  have hb4 : (-2147483648) ≤ (z_shr (x : Int) (i : Int)) ∧ (z_shr (x : Int) (i : Int)) ≤ 2147483647 := z_shrB (x : Int) (i : Int)
  have hb5 : 0 ≤ (z_and (z_shr (x : Int) (i : Int)) 1) ∧ (z_and (z_shr (x : Int) (i : Int)) 1) ≤ 1 := z_andC (z_shr (x : Int) (i : Int)) 1 (by decide)
  have hb6 : 0 ≤ (m 66 i) ∧ (m 66 i) ≤ 99 := hB 66 i
  have hb7 : (-2147483648) ≤ (z_shl 1 (i : Int)) ∧ (z_shl 1 (i : Int)) ≤ 2147483647 := z_shlB 1 (i : Int)
  have hb8 : (-2147483648) ≤ (z_xor (z_shl 1 (i : Int)) (-1)) ∧ (z_xor (z_shl 1 (i : Int)) (-1)) ≤ 2147483647 := z_xorB (z_shl 1 (i : Int)) (-1)
  have hb9 : (-2147483648) ≤ (z_and (x : Int) (z_xor (z_shl 1 (i : Int)) (-1))) ∧ (z_and (x : Int) (z_xor (z_shl 1 (i : Int)) (-1))) ≤ 2147483647 := z_andB (x : Int) (z_xor (z_shl 1 (i : Int)) (-1))
  have hb10 : 0 ≤ (m 71 ((z_and (x : Int) (z_xor (z_shl 1 (i : Int)) (-1))).toNat)) ∧ (m 71 ((z_and (x : Int) (z_xor (z_shl 1 (i : Int)) (-1))).toNat)) ≤ 1 := hB 71 ((z_and (x : Int) (z_xor (z_shl 1 (i : Int)) (-1))).toNat)
  have he0 : wr (i : Int) = (i : Int) := wr_id (by omega) (by omega)
  have he1 : wr (m 64 2) = (m 64 2) := wr_id (by omega) (by omega)
  have he2 : wr (z_and (z_shr (x : Int) (i : Int)) 1) = (z_and (z_shr (x : Int) (i : Int)) 1) := wr_id (by omega) (by omega)
  have he3 : (i : Int).toNat = i := by omega
  have he4 : wr (m 66 i) = (m 66 i) := wr_id (by omega) (by omega)
  have he5 : wr h = h := wr_id (by omega) (by omega)
  have he6 : wr (z_and (x : Int) (z_xor (z_shl 1 (i : Int)) (-1))) = (z_and (x : Int) (z_xor (z_shl 1 (i : Int)) (-1))) := wr_id (by omega) (by omega)
  have he7 : wr (m 71 ((z_and (x : Int) (z_xor (z_shl 1 (i : Int)) (-1))).toNat)) = (m 71 ((z_and (x : Int) (z_xor (z_shl 1 (i : Int)) (-1))).toNat)) := wr_id (by omega) (by omega)
  have key := @zb103_8r T hT D κ m x h i lo hlo
  simp only [he0, he1, he2, he3, he4, he5, he6, he7, Int.toNat_natCast] at key
  exact key
    k1
    k2
    (fun x0 x1 => by refine ⟨?_, ?_⟩ <;> omega)
    k3
    k4
    k5
    k6
theorem zb98_0r (hT : zRules T) {D : Nat} {κ : Option zA → zM → Prop} {m : zM} {x : Nat} 
    (o1 : T (D + 2) 98 (4, [(0, zr 64), (1, zi (x : Int)), (2, zi 0), (3, zi 0)], [], m) κ) :
    T (D + 2) 98 (0, [(0, zr 64), (1, zi (x : Int))], [], m) κ :=
  hT.1 [(4, [0, 1, 2, 3])] 6 (D + 2) 98 _ κ (o1)
theorem zb98_0 (hT : zRules T) {D : Nat} {κ : Option zA → zM → Prop} {m : zM} {x : Nat}  (hB : zB m) (h_x : x ≤ 127) 
    (k1 : T (D + 2) 98 (4, [(0, zr 64), (1, zi (x : Int)), (2, zi 0), (3, zi 0)], [], m) κ) :
    T (D + 2) 98 (0, [(0, zr 64), (1, zi (x : Int))], [], m) κ := by
  exact zb98_0r hT
    k1
theorem zb98_4r (hT : zRules T) {D : Nat} {κ : Option zA → zM → Prop} {m : zM} {x : Nat} {h : Int} {i : Nat} {lo : zL} (hlo : z_keep [0, 1, 2, 3] lo = [(0, zr 64), (1, zi (x : Int)), (2, zi h), (3, zi (i : Int))]) 
    (o1 : ¬ wr (i : Int) < wr (m 64 2) → κ (some (zi (wr h))) m)
    (o2 : wr (i : Int) < wr (m 64 2) → (0 ≤ wr (i : Int) ∧ wr (i : Int) < 7))
    (o3 : wr (i : Int) < wr (m 64 2) → T (D + 2) 98 (4, [(0, zr 64), (1, zi (x : Int)), (2, zi (h + ((z_and (z_shr (x : Int) (i : Int)) 1) * (m 65 ((wr (i : Int)).toNat))))), (3, zi ((i : Int) + 1))], [], m) κ) :
    T (D + 2) 98 (4, lo, [], m) κ :=
  zkeep hT hlo (hT.1 [(4, [0, 1, 2, 3])] 6 (D + 2) 98 _ κ (And.intro (fun a1 => (o1 a1)) (fun a2 => (hT.1 [(4, [0, 1, 2, 3])] 6 (D + 2) 98 (14, [(0, zr 64), (1, zi (x : Int)), (2, zi h), (3, zi (i : Int))], [zi (x : Int), zi h], m) _ (hT.1 [(4, [0, 1, 2, 3])] 6 (D + 2) 98 (22, [(0, zr 64), (1, zi (x : Int)), (2, zi h), (3, zi (i : Int))], [zr 65, zi (z_and (z_shr (x : Int) (i : Int)) 1), zi h], m) _ (And.intro (o2 (Classical.byContradiction a2)) (hT.1 [(4, [0, 1, 2, 3])] 6 (D + 2) 98 (30, [(0, zr 64), (1, zi (x : Int)), (2, zi (h + ((z_and (z_shr (x : Int) (i : Int)) 1) * (m 65 ((wr (i : Int)).toNat))))), (3, zi ((i : Int) + 1))], [], m) _ (o3 (Classical.byContradiction a2)))))))))
theorem zb98_4 (hT : zRules T) {D : Nat} {κ : Option zA → zM → Prop} {m : zM} {x : Nat} {h : Int} {i : Nat} {lo : zL} (hlo : z_keep [0, 1, 2, 3] lo = [(0, zr 64), (1, zi (x : Int)), (2, zi h), (3, zi (i : Int))])  (hB : zB m) (h_x : x ≤ 127) (h_h : 0 ≤ h ∧ h ≤ 140) (h_i : i ≤ 7) 
    (k1 : ¬ (i : Int) < (m 64 2) → κ (some (zi h)) m)
    (k2 : (i : Int) < (m 64 2) → T (D + 2) 98 (4, [(0, zr 64), (1, zi (x : Int)), (2, zi (h + ((z_and (z_shr (x : Int) (i : Int)) 1) * (m 65 i)))), (3, zi ((i : Int) + 1))], [], m) κ) :
    T (D + 2) 98 (4, lo, [], m) κ := by
  have hb3 : 0 ≤ (m 64 2) ∧ (m 64 2) ≤ 7 := hB 64 2
  have hb4 : (-2147483648) ≤ (z_shr (x : Int) (i : Int)) ∧ (z_shr (x : Int) (i : Int)) ≤ 2147483647 := z_shrB (x : Int) (i : Int)
  have hb5 : 0 ≤ (z_and (z_shr (x : Int) (i : Int)) 1) ∧ (z_and (z_shr (x : Int) (i : Int)) 1) ≤ 1 := z_andC (z_shr (x : Int) (i : Int)) 1 (by decide)
  have hb6 : 0 ≤ (m 65 i) ∧ (m 65 i) ≤ 20 := hB 65 i
  have hb7 : 0 ≤ ((z_and (z_shr (x : Int) (i : Int)) 1) * (m 65 i)) ∧ ((z_and (z_shr (x : Int) (i : Int)) 1) * (m 65 i)) ≤ 20 := z_mulB (z_and (z_shr (x : Int) (i : Int)) 1) (m 65 i) 1 20 20 (by omega) (by omega) (by omega) (by omega) rfl
  have he0 : wr (i : Int) = (i : Int) := wr_id (by omega) (by omega)
  have he1 : wr (m 64 2) = (m 64 2) := wr_id (by omega) (by omega)
  have he2 : (i : Int).toNat = i := by omega
  have he3 : wr h = h := wr_id (by omega) (by omega)
  have key := @zb98_4r T hT D κ m x h i lo hlo
  simp only [he0, he1, he2, he3, Int.toNat_natCast] at key
  exact key
    k1
    (fun x0 => by refine ⟨?_, ?_⟩ <;> omega)
    k2
theorem zb283_0r (hT : zRules T) {D : Nat} {κ : Option zA → zM → Prop} {m : zM} 
    (o1 : T (D + 3) 283 (9, [(0, zr 74), (1, zi 0), (2, zi 1)], [], (zu m 74 12 0)) κ) :
    T (D + 3) 283 (0, [(0, zr 74)], [], m) κ :=
  hT.1 [(9, [0, 1, 2])] 6 (D + 3) 283 _ κ (And.intro trivial (hT.1 [(9, [0, 1, 2])] 6 (D + 3) 283 (8, [(0, zr 74), (1, zi 0)], [zi 1], (zu m 74 12 0)) _ (o1)))
theorem zb283_0 (hT : zRules T) {D : Nat} {κ : Option zA → zM → Prop} {m : zM}  (hB : zB m) 
    (k1 : zB (zu m 74 12 0) → T (D + 3) 283 (9, [(0, zr 74), (1, zi 0), (2, zi 1)], [], (zu m 74 12 0)) κ) :
    T (D + 3) 283 (0, [(0, zr 74)], [], m) κ := by
  exact zb283_0r hT
    (k1  (zB_u hB trivial))
theorem zb283_9r (hT : zRules T) {D : Nat} {κ : Option zA → zM → Prop} {m : zM} {b : Nat} {x : Nat} {lo : zL} (hlo : z_keep [0, 1, 2] lo = [(0, zr 74), (1, zi (b : Int)), (2, zi (x : Int))]) 
    (o1 : ¬ wr (x : Int) < wr (z_shl 1 (m 74 54)) → T (D + 2) 293 (0, [(0, zi (b : Int))], [], (zu (zu (zu m 74 11 0) 81 0 (b : Int)) 74 11 1)) (fun r m1 => T (D + 3) 283 (60, [(0, zr 74), (1, zi (b : Int)), (2, zi (x : Int))], r.toList ++ [], m1) κ))
    (o2 : wr (x : Int) < wr (z_shl 1 (m 74 54)) → T (D + 2) 293 (0, [(0, zi (x : Int))], [], m) (fun r m1 => T (D + 3) 283 (23, [(0, zr 74), (1, zi (b : Int)), (2, zi (x : Int))], r.toList ++ [], m1) κ)) :
    T (D + 3) 283 (9, lo, [], m) κ :=
  zkeep hT hlo (hT.1 [(9, [0, 1, 2])] 6 (D + 3) 283 _ κ (And.intro (fun a1 => (hT.1 [(9, [0, 1, 2])] 6 (D + 3) 283 (46, [(0, zr 74), (1, zi (b : Int)), (2, zi (x : Int))], [], m) _ (And.intro trivial (hT.1 [] 6 (D + 2) 189 _ _ (And.intro (And.intro (z_ixL rfl) trivial) (hT.1 [] 6 (D + 2) 189 (10, [(0, zr 74), (1, zi (b : Int))], [], (zu (zu m 74 11 0) 81 0 (b : Int))) _ (And.intro trivial (hT.1 [] 6 (D + 2) 189 (20, [(0, zr 74), (1, zi (b : Int))], [], (zu (zu (zu m 74 11 0) 81 0 (b : Int)) 74 11 1)) _ (hT.1 [(9, [0, 1, 2])] 6 (D + 3) 283 _ _ (o1 a1)))))))))) (fun a2 => (hT.1 [(9, [0, 1, 2])] 6 (D + 3) 283 (19, [(0, zr 74), (1, zi (b : Int)), (2, zi (x : Int))], [], m) _ (o2 (Classical.byContradiction a2))))))
theorem zb283_9 (hT : zRules T) {D : Nat} {κ : Option zA → zM → Prop} {m : zM} {b : Nat} {x : Nat} {lo : zL} (hlo : z_keep [0, 1, 2] lo = [(0, zr 74), (1, zi (b : Int)), (2, zi (x : Int))])  (hB : zB m) (h_b : b ≤ 127) (h_x : x ≤ 128) 
    (k1 : ¬ (x : Int) < (z_shl 1 (m 74 54)) → zB (zu (zu (zu m 74 11 0) 81 0 (b : Int)) 74 11 1) → T (D + 2) 293 (0, [(0, zi (b : Int))], [], (zu (zu (zu m 74 11 0) 81 0 (b : Int)) 74 11 1)) (fun r m1 => T (D + 3) 283 (60, [(0, zr 74), (1, zi (b : Int)), (2, zi (x : Int))], r.toList ++ [], m1) κ))
    (k2 : (x : Int) < (z_shl 1 (m 74 54)) → T (D + 2) 293 (0, [(0, zi (x : Int))], [], m) (fun r m1 => T (D + 3) 283 (23, [(0, zr 74), (1, zi (b : Int)), (2, zi (x : Int))], r.toList ++ [], m1) κ)) :
    T (D + 3) 283 (9, lo, [], m) κ := by
  have hb2 : 0 ≤ (m 74 54) ∧ (m 74 54) ≤ 7 := hB 74 54
  have hb3 : (-2147483648) ≤ (z_shl 1 (m 74 54)) ∧ (z_shl 1 (m 74 54)) ≤ 2147483647 := z_shlB 1 (m 74 54)
  have he0 : wr (x : Int) = (x : Int) := wr_id (by omega) (by omega)
  have he1 : wr (z_shl 1 (m 74 54)) = (z_shl 1 (m 74 54)) := wr_id (by omega) (by omega)
  have key := @zb283_9r T hT D κ m b x lo hlo
  simp only [he0, he1, Int.toNat_natCast] at key
  exact key
    (fun x0 => k1 x0 (zB_u (zB_u (zB_u hB (show 0 ≤ 0 ∧ 0 ≤ 32 from ⟨by omega, by omega⟩)) trivial) (show 0 ≤ 1 ∧ 1 ≤ 32 from ⟨by omega, by omega⟩)))
    k2
theorem zb283_23r (hT : zRules T) {D : Nat} {κ : Option zA → zM → Prop} {m : zM} {b : Nat} {x : Nat} {v : Int} {lo : zL} (hlo : z_keep [0, 1, 2] lo = [(0, zr 74), (1, zi (b : Int)), (2, zi (x : Int))]) 
    (o1 : T (D + 2) 293 (0, [(0, zi (b : Int))], [], m) (fun r m1 => T (D + 3) 283 (27, [(0, zr 74), (1, zi (b : Int)), (2, zi (x : Int))], r.toList ++ [zi v], m1) κ)) :
    T (D + 3) 283 (23, lo, [zi v], m) κ :=
  zkeep hT hlo (hT.1 [(9, [0, 1, 2])] 6 (D + 3) 283 _ κ (o1))
theorem zb283_23 (hT : zRules T) {D : Nat} {κ : Option zA → zM → Prop} {m : zM} {b : Nat} {x : Nat} {v : Int} {lo : zL} (hlo : z_keep [0, 1, 2] lo = [(0, zr 74), (1, zi (b : Int)), (2, zi (x : Int))])  (hB : zB m) (h_b : b ≤ 127) (h_x : x ≤ 127) (h_v : (-2147483648) ≤ v ∧ v ≤ 2147483647) 
    (k1 : T (D + 2) 293 (0, [(0, zi (b : Int))], [], m) (fun r m1 => T (D + 3) 283 (27, [(0, zr 74), (1, zi (b : Int)), (2, zi (x : Int))], r.toList ++ [zi v], m1) κ)) :
    T (D + 3) 283 (23, lo, [zi v], m) κ := by
  exact zb283_23r hT hlo
    k1
theorem zb283_27r (hT : zRules T) {D : Nat} {κ : Option zA → zM → Prop} {m : zM} {b : Nat} {x : Nat} {v : Int} {y : Int} {lo : zL} (hlo : z_keep [0, 1, 2] lo = [(0, zr 74), (1, zi (b : Int)), (2, zi (x : Int))]) 
    (o1 : ¬ wr y < wr v → T (D + 3) 283 (9, [(0, zr 74), (1, zi (b : Int)), (2, zi ((x : Int) + 1))], [], m) κ)
    (o2 : wr y < wr v → T (D + 2) 282 (0, [(0, zr 74), (1, zi (x : Int))], [], m) (fun r m1 => T (D + 3) 283 (35, [(0, zr 74), (1, zi (b : Int)), (2, zi (x : Int))], r.toList ++ [], m1) κ)) :
    T (D + 3) 283 (27, lo, [zi y, zi v], m) κ :=
  zkeep hT hlo (hT.1 [(9, [0, 1, 2])] 6 (D + 3) 283 _ κ (And.intro (fun a1 => (o1 a1)) (fun a2 => (o2 (Classical.byContradiction a2)))))
theorem zb283_27 (hT : zRules T) {D : Nat} {κ : Option zA → zM → Prop} {m : zM} {b : Nat} {x : Nat} {v : Int} {y : Int} {lo : zL} (hlo : z_keep [0, 1, 2] lo = [(0, zr 74), (1, zi (b : Int)), (2, zi (x : Int))])  (hB : zB m) (h_b : b ≤ 127) (h_x : x ≤ 127) (h_v : (-2147483648) ≤ v ∧ v ≤ 2147483647) (h_y : (-2147483648) ≤ y ∧ y ≤ 2147483647) 
    (k1 : ¬ y < v → T (D + 3) 283 (9, [(0, zr 74), (1, zi (b : Int)), (2, zi ((x : Int) + 1))], [], m) κ)
    (k2 : y < v → T (D + 2) 282 (0, [(0, zr 74), (1, zi (x : Int))], [], m) (fun r m1 => T (D + 3) 283 (35, [(0, zr 74), (1, zi (b : Int)), (2, zi (x : Int))], r.toList ++ [], m1) κ)) :
    T (D + 3) 283 (27, lo, [zi y, zi v], m) κ := by
  have he0 : wr y = y := wr_id (by omega) (by omega)
  have he1 : wr v = v := wr_id (by omega) (by omega)
  have key := @zb283_27r T hT D κ m b x v y lo hlo
  simp only [he0, he1, Int.toNat_natCast] at key
  exact key
    k1
    k2
theorem zb283_35r (hT : zRules T) {D : Nat} {κ : Option zA → zM → Prop} {m : zM} {b : Nat} {x : Nat} {v : Int} {lo : zL} (hlo : z_keep [0, 1, 2] lo = [(0, zr 74), (1, zi (b : Int)), (2, zi (x : Int))]) 
    (o1 : wr v = 0 → T (D + 3) 283 (9, [(0, zr 74), (1, zi (b : Int)), (2, zi ((x : Int) + 1))], [], m) κ)
    (o2 : ¬ wr v = 0 → T (D + 3) 283 (9, [(0, zr 74), (1, zi (x : Int)), (2, zi ((x : Int) + 1))], [], m) κ) :
    T (D + 3) 283 (35, lo, [zi v], m) κ :=
  zkeep hT hlo (hT.1 [(9, [0, 1, 2])] 6 (D + 3) 283 _ κ (And.intro (fun a1 => (o1 a1)) (fun a2 => (o2 a2))))
theorem zb283_35 (hT : zRules T) {D : Nat} {κ : Option zA → zM → Prop} {m : zM} {b : Nat} {x : Nat} {v : Int} {lo : zL} (hlo : z_keep [0, 1, 2] lo = [(0, zr 74), (1, zi (b : Int)), (2, zi (x : Int))])  (hB : zB m) (h_b : b ≤ 127) (h_x : x ≤ 127) (h_v : 0 ≤ v ∧ v ≤ 1) 
    (k1 : v = 0 → T (D + 3) 283 (9, [(0, zr 74), (1, zi (b : Int)), (2, zi ((x : Int) + 1))], [], m) κ)
    (k2 : ¬ v = 0 → T (D + 3) 283 (9, [(0, zr 74), (1, zi (x : Int)), (2, zi ((x : Int) + 1))], [], m) κ) :
    T (D + 3) 283 (35, lo, [zi v], m) κ := by
  have he0 : wr v = v := wr_id (by omega) (by omega)
  have key := @zb283_35r T hT D κ m b x v lo hlo
  simp only [he0, Int.toNat_natCast] at key
  exact key
    k1
    k2
theorem zb283_60r (hT : zRules T) {D : Nat} {κ : Option zA → zM → Prop} {m : zM} {v : Int} {lo : zL} (hlo : z_keep [] lo = []) 
    (o1 : κ (some (zi (wr v))) m) :
    T (D + 3) 283 (60, lo, [zi v], m) κ :=
  zkeep hT hlo (hT.1 [(9, [0, 1, 2])] 6 (D + 3) 283 _ κ (o1))
theorem zb283_60 (hT : zRules T) {D : Nat} {κ : Option zA → zM → Prop} {m : zM} {v : Int} {lo : zL} (hlo : z_keep [] lo = [])  (h_v : (-2147483648) ≤ v ∧ v ≤ 2147483647) 
    (k1 : κ (some (zi v)) m) :
    T (D + 3) 283 (60, lo, [zi v], m) κ := by
  have he0 : wr v = v := wr_id (by omega) (by omega)
  have key := @zb283_60r T hT D κ m v lo hlo
  simp only [he0, Int.toNat_natCast] at key
  exact key
    k1
theorem zb282_0r (hT : zRules T) {D : Nat} {κ : Option zA → zM → Prop} {m : zM} {x : Nat} 
    (o1 : T (D + 2) 282 (4, [(0, zr 74), (2, zi 0), (3, zi (x : Int))], [], m) κ) :
    T (D + 2) 282 (0, [(0, zr 74), (1, zi (x : Int))], [], m) κ :=
  hT.1 [(4, [0, 2, 3]), (14, [0, 2, 3, 4, 5])] 6 (D + 2) 282 _ κ (o1)
theorem zb282_0 (hT : zRules T) {D : Nat} {κ : Option zA → zM → Prop} {m : zM} {x : Nat}  (hB : zB m) (h_x : x ≤ 127) 
    (k1 : T (D + 2) 282 (4, [(0, zr 74), (2, zi 0), (3, zi (x : Int))], [], m) κ) :
    T (D + 2) 282 (0, [(0, zr 74), (1, zi (x : Int))], [], m) κ := by
  exact zb282_0r hT
    k1
theorem zb282_4r (hT : zRules T) {D : Nat} {κ : Option zA → zM → Prop} {m : zM} {s : Int} {y : Nat} {lo : zL} (hlo : z_keep [0, 2, 3] lo = [(0, zr 74), (2, zi s), (3, zi (y : Int))]) 
    (o1 : wr (y : Int) = 0 → κ (some (zi 1)) m)
    (o2 : ¬ wr (y : Int) = 0 → T (D + 2) 282 (14, [(0, zr 74), (2, zi s), (3, zi (y : Int)), (4, zi (-1)), (5, zi 0)], [], m) κ) :
    T (D + 2) 282 (4, lo, [], m) κ :=
  zkeep hT hlo (hT.1 [(4, [0, 2, 3]), (14, [0, 2, 3, 4, 5])] 6 (D + 2) 282 _ κ (And.intro (fun a1 => (And.intro (z_b01L rfl) (o1 a1))) (fun a2 => (o2 a2))))
theorem zb282_4 (hT : zRules T) {D : Nat} {κ : Option zA → zM → Prop} {m : zM} {s : Int} {y : Nat} {lo : zL} (hlo : z_keep [0, 2, 3] lo = [(0, zr 74), (2, zi s), (3, zi (y : Int))])  (hB : zB m) (h_s : 0 ≤ s ∧ s ≤ 1000) (h_y : y ≤ 127) 
    (k1 : (y : Int) = 0 → κ (some (zi 1)) m)
    (k2 : ¬ (y : Int) = 0 → T (D + 2) 282 (14, [(0, zr 74), (2, zi s), (3, zi (y : Int)), (4, zi (-1)), (5, zi 0)], [], m) κ) :
    T (D + 2) 282 (4, lo, [], m) κ := by
  have he0 : wr (y : Int) = (y : Int) := wr_id (by omega) (by omega)
  have key := @zb282_4r T hT D κ m s y lo hlo
  simp only [he0, Int.toNat_natCast] at key
  exact key
    k1
    k2
theorem zb282_14r (hT : zRules T) {D : Nat} {κ : Option zA → zM → Prop} {m : zM} {s : Int} {y : Nat} {f : Int} {i : Nat} {lo : zL} (hlo : z_keep [0, 2, 3, 4, 5] lo = [(0, zr 74), (2, zi s), (3, zi (y : Int)), (4, zi f), (5, zi (i : Int))]) 
    (o1 : ¬ wr (i : Int) < wr (m 74 54) → (0 ≤ wr (2 * f) ∧ wr (2 * f) < 14))
    (o2 : ¬ wr (i : Int) < wr (m 74 54) → (0 ≤ wr ((2 * f) + 1) ∧ wr ((2 * f) + 1) < 14))
    (o3 : ¬ wr (i : Int) < wr (m 74 54) → ¬ wr (m 100 ((wr ((2 * f) + 1)).toNat)) < wr (s + (m 100 ((wr (2 * f)).toNat))) → T (D + 2) 282 (4, [(0, zr 74), (2, zi (s + (m 100 ((wr (2 * f)).toNat)))), (3, zi (z_and (y : Int) (z_xor (z_shl 1 f) (-1))))], [], m) κ)
    (o4 : ¬ wr (i : Int) < wr (m 74 54) → wr (m 100 ((wr ((2 * f) + 1)).toNat)) < wr (s + (m 100 ((wr (2 * f)).toNat))) → κ (some (zi 0)) m)
    (o5 : wr (i : Int) < wr (m 74 54) → ¬ wr (z_and (z_shr (y : Int) (i : Int)) 1) = 1 → T (D + 2) 282 (14, [(0, zr 74), (2, zi s), (3, zi (y : Int)), (4, zi f), (5, zi ((i : Int) + 1))], [], m) κ)
    (o6 : wr (i : Int) < wr (m 74 54) → wr (z_and (z_shr (y : Int) (i : Int)) 1) = 1 → wr f = (-1) → T (D + 2) 282 (14, [(0, zr 74), (2, zi s), (3, zi (y : Int)), (4, zi (i : Int)), (5, zi ((i : Int) + 1))], [], m) κ)
    (o7 : wr (i : Int) < wr (m 74 54) → wr (z_and (z_shr (y : Int) (i : Int)) 1) = 1 → ¬ wr f = (-1) → (0 ≤ wr ((2 * (i : Int)) + 1) ∧ wr ((2 * (i : Int)) + 1) < 14))
    (o8 : wr (i : Int) < wr (m 74 54) → wr (z_and (z_shr (y : Int) (i : Int)) 1) = 1 → ¬ wr f = (-1) → (0 ≤ wr ((2 * f) + 1) ∧ wr ((2 * f) + 1) < 14))
    (o9 : wr (i : Int) < wr (m 74 54) → wr (z_and (z_shr (y : Int) (i : Int)) 1) = 1 → ¬ wr f = (-1) → ¬ wr (m 100 ((wr ((2 * (i : Int)) + 1)).toNat)) < wr (m 100 ((wr ((2 * f) + 1)).toNat)) → T (D + 2) 282 (14, [(0, zr 74), (2, zi s), (3, zi (y : Int)), (4, zi f), (5, zi ((i : Int) + 1))], [], m) κ)
    (o10 : wr (i : Int) < wr (m 74 54) → wr (z_and (z_shr (y : Int) (i : Int)) 1) = 1 → ¬ wr f = (-1) → wr (m 100 ((wr ((2 * (i : Int)) + 1)).toNat)) < wr (m 100 ((wr ((2 * f) + 1)).toNat)) → T (D + 2) 282 (14, [(0, zr 74), (2, zi s), (3, zi (y : Int)), (4, zi (i : Int)), (5, zi ((i : Int) + 1))], [], m) κ) :
    T (D + 2) 282 (14, lo, [], m) κ :=
  zkeep hT hlo (hT.1 [(4, [0, 2, 3]), (14, [0, 2, 3, 4, 5])] 6 (D + 2) 282 _ κ (And.intro (fun a1 => (hT.1 [(4, [0, 2, 3]), (14, [0, 2, 3, 4, 5])] 6 (D + 2) 282 (75, [(0, zr 74), (2, zi s), (3, zi (y : Int)), (4, zi f), (5, zi (i : Int))], [zr 74, zi s], m) _ (And.intro (o1 a1) (hT.1 [(4, [0, 2, 3]), (14, [0, 2, 3, 4, 5])] 6 (D + 2) 282 (84, [(0, zr 74), (2, zi s), (3, zi (y : Int)), (4, zi f), (5, zi (i : Int))], [zi (s + (m 100 ((wr (2 * f)).toNat)))], m) _ (hT.1 [(4, [0, 2, 3]), (14, [0, 2, 3, 4, 5])] 6 (D + 2) 282 (93, [(0, zr 74), (2, zi (s + (m 100 ((wr (2 * f)).toNat)))), (3, zi (y : Int)), (4, zi f), (5, zi (i : Int))], [zi f, zi 2, zr 100, zi (s + (m 100 ((wr (2 * f)).toNat)))], m) _ (And.intro (o2 a1) (And.intro (fun a3 => (hT.1 [(4, [0, 2, 3]), (14, [0, 2, 3, 4, 5])] 6 (D + 2) 282 (103, [(0, zr 74), (2, zi (s + (m 100 ((wr (2 * f)).toNat)))), (3, zi (y : Int)), (4, zi f), (5, zi (i : Int))], [zi (y : Int)], m) _ (hT.1 [(4, [0, 2, 3]), (14, [0, 2, 3, 4, 5])] 6 (D + 2) 282 (110, [(0, zr 74), (2, zi (s + (m 100 ((wr (2 * f)).toNat)))), (3, zi (y : Int)), (4, zi f), (5, zi (i : Int))], [zi (z_and (y : Int) (z_xor (z_shl 1 f) (-1)))], m) _ (o3 a1 a3)))) (fun a4 => (hT.1 [(4, [0, 2, 3]), (14, [0, 2, 3, 4, 5])] 6 (D + 2) 282 (101, [(0, zr 74), (2, zi (s + (m 100 ((wr (2 * f)).toNat)))), (3, zi (y : Int)), (4, zi f), (5, zi (i : Int))], [zi 0], m) _ (And.intro (z_b01L rfl) (o4 a1 (Classical.byContradiction a4)))))))))))) (fun a2 => (hT.1 [(4, [0, 2, 3]), (14, [0, 2, 3, 4, 5])] 6 (D + 2) 282 (26, [(0, zr 74), (2, zi s), (3, zi (y : Int)), (4, zi f), (5, zi (i : Int))], [zi (i : Int), zi (y : Int)], m) _ (hT.1 [] 6 (D + 1) 187 _ _ (hT.1 [] 6 (D + 1) 187 (6, [(0, zi (y : Int)), (1, zi (i : Int))], [zi 1, zi (z_and (z_shr (y : Int) (i : Int)) 1)], m) _ (And.intro (fun a5 => (And.intro (z_b01L rfl) (hT.1 [(4, [0, 2, 3]), (14, [0, 2, 3, 4, 5])] 6 (D + 2) 282 _ _ (And.intro (fun _ => (o5 (Classical.byContradiction a2) a5)) (fun a7 => (a7 (z_litT rfl)).elim))))) (fun a6 => (And.intro (z_b01L rfl) (hT.1 [(4, [0, 2, 3]), (14, [0, 2, 3, 4, 5])] 6 (D + 2) 282 _ _ (And.intro (fun a8 => (z_litF a8 rfl).elim) (fun _ => (And.intro (fun a9 => (hT.1 [(4, [0, 2, 3]), (14, [0, 2, 3, 4, 5])] 6 (D + 2) 282 (67, [(0, zr 74), (2, zi s), (3, zi (y : Int)), (4, zi (i : Int)), (5, zi (i : Int))], [], m) _ (o6 (Classical.byContradiction a2) (Classical.byContradiction a6) a9))) (fun a10 => (hT.1 [(4, [0, 2, 3]), (14, [0, 2, 3, 4, 5])] 6 (D + 2) 282 (42, [(0, zr 74), (2, zi s), (3, zi (y : Int)), (4, zi f), (5, zi (i : Int))], [zr 100], m) _ (And.intro (o7 (Classical.byContradiction a2) (Classical.byContradiction a6) a10) (hT.1 [(4, [0, 2, 3]), (14, [0, 2, 3, 4, 5])] 6 (D + 2) 282 (49, [(0, zr 74), (2, zi s), (3, zi (y : Int)), (4, zi f), (5, zi (i : Int))], [zi (m 100 ((wr ((2 * (i : Int)) + 1)).toNat))], m) _ (hT.1 [(4, [0, 2, 3]), (14, [0, 2, 3, 4, 5])] 6 (D + 2) 282 (58, [(0, zr 74), (2, zi s), (3, zi (y : Int)), (4, zi f), (5, zi (i : Int))], [zi 1, zi (2 * f), zr 100, zi (m 100 ((wr ((2 * (i : Int)) + 1)).toNat))], m) _ (And.intro (o8 (Classical.byContradiction a2) (Classical.byContradiction a6) a10) (And.intro (fun a11 => (o9 (Classical.byContradiction a2) (Classical.byContradiction a6) a10 a11)) (fun a12 => (hT.1 [(4, [0, 2, 3]), (14, [0, 2, 3, 4, 5])] 6 (D + 2) 282 (70, [(0, zr 74), (2, zi s), (3, zi (y : Int)), (4, zi (i : Int)), (5, zi ((i : Int) + 1))], [], m) _ (o10 (Classical.byContradiction a2) (Classical.byContradiction a6) a10 (Classical.byContradiction a12))))))))))))))))))))))))
theorem zb282_14 (hT : zRules T) {D : Nat} {κ : Option zA → zM → Prop} {m : zM} {s : Int} {y : Nat} {f : Int} {i : Nat} {lo : zL} (hlo : z_keep [0, 2, 3, 4, 5] lo = [(0, zr 74), (2, zi s), (3, zi (y : Int)), (4, zi f), (5, zi (i : Int))])  (hB : zB m) (h_s : 0 ≤ s ∧ s ≤ 1000) (h_y : y ≤ 127) (h_f : (-1) ≤ f ∧ f ≤ 6) (h_i : i ≤ 7) 
    (k1 : ¬ (i : Int) < (m 74 54) → (0 ≤ (2 * f) ∧ (2 * f) < 14))
    (k2 : ¬ (i : Int) < (m 74 54) → (0 ≤ ((2 * f) + 1) ∧ ((2 * f) + 1) < 14))
    (k3 : ¬ (i : Int) < (m 74 54) → ¬ (m 100 (((2 * f) + 1).toNat)) < (s + (m 100 ((2 * f).toNat))) → T (D + 2) 282 (4, [(0, zr 74), (2, zi (s + (m 100 ((2 * f).toNat)))), (3, zi (z_and (y : Int) (z_xor (z_shl 1 f) (-1))))], [], m) κ)
    (k4 : ¬ (i : Int) < (m 74 54) → (m 100 (((2 * f) + 1).toNat)) < (s + (m 100 ((2 * f).toNat))) → κ (some (zi 0)) m)
    (k5 : (i : Int) < (m 74 54) → ¬ (z_and (z_shr (y : Int) (i : Int)) 1) = 1 → T (D + 2) 282 (14, [(0, zr 74), (2, zi s), (3, zi (y : Int)), (4, zi f), (5, zi ((i : Int) + 1))], [], m) κ)
    (k6 : (i : Int) < (m 74 54) → (z_and (z_shr (y : Int) (i : Int)) 1) = 1 → f = (-1) → T (D + 2) 282 (14, [(0, zr 74), (2, zi s), (3, zi (y : Int)), (4, zi (i : Int)), (5, zi ((i : Int) + 1))], [], m) κ)
    (k7 : (i : Int) < (m 74 54) → (z_and (z_shr (y : Int) (i : Int)) 1) = 1 → ¬ f = (-1) → ¬ (m 100 (2 * i + 1)) < (m 100 (((2 * f) + 1).toNat)) → T (D + 2) 282 (14, [(0, zr 74), (2, zi s), (3, zi (y : Int)), (4, zi f), (5, zi ((i : Int) + 1))], [], m) κ)
    (k8 : (i : Int) < (m 74 54) → (z_and (z_shr (y : Int) (i : Int)) 1) = 1 → ¬ f = (-1) → (m 100 (2 * i + 1)) < (m 100 (((2 * f) + 1).toNat)) → T (D + 2) 282 (14, [(0, zr 74), (2, zi s), (3, zi (y : Int)), (4, zi (i : Int)), (5, zi ((i : Int) + 1))], [], m) κ) :
    T (D + 2) 282 (14, lo, [], m) κ := by
  have hb4 : 0 ≤ (m 74 54) ∧ (m 74 54) ≤ 7 := hB 74 54
  have hb5 : (-2147483648) ≤ (z_shr (y : Int) (i : Int)) ∧ (z_shr (y : Int) (i : Int)) ≤ 2147483647 := z_shrB (y : Int) (i : Int)
  have hb6 : 0 ≤ (z_and (z_shr (y : Int) (i : Int)) 1) ∧ (z_and (z_shr (y : Int) (i : Int)) 1) ≤ 1 := z_andC (z_shr (y : Int) (i : Int)) 1 (by decide)
  have hb7 : 0 ≤ (m 100 (2 * i + 1)) ∧ (m 100 (2 * i + 1)) ≤ 99 := hB 100 (2 * i + 1)
  have hb8 : 0 ≤ (m 100 (((2 * f) + 1).toNat)) ∧ (m 100 (((2 * f) + 1).toNat)) ≤ 99 := hB 100 (((2 * f) + 1).toNat)
  have hb9 : 0 ≤ (m 100 ((2 * f).toNat)) ∧ (m 100 ((2 * f).toNat)) ≤ 99 := hB 100 ((2 * f).toNat)
  have hb10 : (-2147483648) ≤ (z_shl 1 f) ∧ (z_shl 1 f) ≤ 2147483647 := z_shlB 1 f
  have hb11 : (-2147483648) ≤ (z_xor (z_shl 1 f) (-1)) ∧ (z_xor (z_shl 1 f) (-1)) ≤ 2147483647 := z_xorB (z_shl 1 f) (-1)
  have hb12 : (-2147483648) ≤ (z_and (y : Int) (z_xor (z_shl 1 f) (-1))) ∧ (z_and (y : Int) (z_xor (z_shl 1 f) (-1))) ≤ 2147483647 := z_andB (y : Int) (z_xor (z_shl 1 f) (-1))
  have he0 : wr (i : Int) = (i : Int) := wr_id (by omega) (by omega)
  have he1 : wr (m 74 54) = (m 74 54) := wr_id (by omega) (by omega)
  have he2 : wr (z_and (z_shr (y : Int) (i : Int)) 1) = (z_and (z_shr (y : Int) (i : Int)) 1) := wr_id (by omega) (by omega)
  have he3 : wr f = f := wr_id (by omega) (by omega)
  have he4 : wr ((2 * (i : Int)) + 1) = ((2 * (i : Int)) + 1) := wr_id (by omega) (by omega)
  have he5 : ((2 * (i : Int)) + 1).toNat = 2 * i + 1 := by omega
  have he6 : wr ((2 * f) + 1) = ((2 * f) + 1) := wr_id (by omega) (by omega)
  have he7 : wr (m 100 (2 * i + 1)) = (m 100 (2 * i + 1)) := wr_id (by omega) (by omega)
  have he8 : wr (m 100 (((2 * f) + 1).toNat)) = (m 100 (((2 * f) + 1).toNat)) := wr_id (by omega) (by omega)
  have he9 : wr (2 * f) = (2 * f) := wr_id (by omega) (by omega)
  have he10 : wr (s + (m 100 ((2 * f).toNat))) = (s + (m 100 ((2 * f).toNat))) := wr_id (by omega) (by omega)
  have key := @zb282_14r T hT D κ m s y f i lo hlo
  simp only [he0, he1, he2, he3, he4, he5, he6, he7, he8, he9, he10, Int.toNat_natCast] at key
  exact key
    k1
    k2
    k3
    k4
    k5
    k6
    (fun x0 x1 x2 => by refine ⟨?_, ?_⟩ <;> omega)
    (fun x0 x1 x2 => by refine ⟨?_, ?_⟩ <;> omega)
    k7
    k8
end ZBlocks
