section ZBlocks
variable {T : Nat → Nat → zG → (Option zA → zM → Prop) → Prop}
theorem zb270_0r (hT : zRules T) {D : Nat} {κ : Option zA → zM → Prop} {m : zM} 
    (o1 : T (D + 4) 269 (0, [(0, zr 74), (1, zi 0)], [], m) (fun r m1 => T (D + 5) 270 (5, [(0, zr 74)], r.toList ++ [], m1) κ)) :
    T (D + 5) 270 (0, [(0, zr 74)], [], m) κ :=
  hT.1 [(10, [0, 1, 2, 3]), (22, [0, 1, 3])] 6 (D + 5) 270 _ κ (o1)
theorem zb270_0 (hT : zRules T) {D : Nat} {κ : Option zA → zM → Prop} {m : zM}  (hB : zB m) 
    (k1 : T (D + 4) 269 (0, [(0, zr 74), (1, zi 0)], [], m) (fun r m1 => T (D + 5) 270 (5, [(0, zr 74)], r.toList ++ [], m1) κ)) :
    T (D + 5) 270 (0, [(0, zr 74)], [], m) κ := by
  exact zb270_0r hT
    k1
theorem zb270_5r (hT : zRules T) {D : Nat} {κ : Option zA → zM → Prop} {m : zM} {n : Nat} {lo : zL} (hlo : z_keep [0] lo = [(0, zr 74)]) 
    (o1 : T (D + 5) 270 (10, [(0, zr 74), (1, zi (n : Int)), (2, zi 0), (3, zi 0)], [], m) κ) :
    T (D + 5) 270 (5, lo, [zi (n : Int)], m) κ :=
  zkeep hT hlo (hT.1 [(10, [0, 1, 2, 3]), (22, [0, 1, 3])] 6 (D + 5) 270 _ κ (o1))
theorem zb270_5 (hT : zRules T) {D : Nat} {κ : Option zA → zM → Prop} {m : zM} {n : Nat} {lo : zL} (hlo : z_keep [0] lo = [(0, zr 74)])  (hB : zB m) (h_n : n ≤ 60) 
    (k1 : T (D + 5) 270 (10, [(0, zr 74), (1, zi (n : Int)), (2, zi 0), (3, zi 0)], [], m) κ) :
    T (D + 5) 270 (5, lo, [zi (n : Int)], m) κ := by
  exact zb270_5r hT hlo
    k1
theorem zb270_10r (hT : zRules T) {D : Nat} {κ : Option zA → zM → Prop} {m : zM} {n : Nat} {a : Int} {i : Nat} {lo : zL} (hlo : z_keep [0, 1, 2, 3] lo = [(0, zr 74), (1, zi (n : Int)), (2, zi a), (3, zi (i : Int))]) 
    (o1 : ¬ wr (i : Int) < wr (n : Int) → κ (some (zi (wr (n : Int)))) m)
    (o2 : wr (i : Int) < wr (n : Int) → (0 ≤ wr (i : Int) ∧ wr (i : Int) < 26))
    (o3 : wr (i : Int) < wr (n : Int) → T (D + 5) 270 (22, [(0, zr 74), (1, zi (n : Int)), (3, zi (i : Int))], [], (zu m 98 ((wr (i : Int)).toNat) a)) κ) :
    T (D + 5) 270 (10, lo, [], m) κ :=
  zkeep hT hlo (hT.1 [(10, [0, 1, 2, 3]), (22, [0, 1, 3])] 6 (D + 5) 270 _ κ (And.intro (fun a1 => (o1 a1)) (fun a2 => (hT.1 [(10, [0, 1, 2, 3]), (22, [0, 1, 3])] 6 (D + 5) 270 (20, [(0, zr 74), (1, zi (n : Int)), (2, zi a), (3, zi (i : Int))], [zi (i : Int), zr 98], m) _ (And.intro (And.intro (o2 (Classical.byContradiction a2)) trivial) (o3 (Classical.byContradiction a2)))))))
theorem zb270_10 (hT : zRules T) {D : Nat} {κ : Option zA → zM → Prop} {m : zM} {n : Nat} {a : Int} {i : Nat} {lo : zL} (hlo : z_keep [0, 1, 2, 3] lo = [(0, zr 74), (1, zi (n : Int)), (2, zi a), (3, zi (i : Int))])  (hB : zB m) (h_n : n ≤ 60) (h_a : 0 ≤ a ∧ a ≤ 140) (h_i : i ≤ 60) 
    (k1 : ¬ (i : Int) < (n : Int) → κ (some (zi (n : Int))) m)
    (k2 : (i : Int) < (n : Int) → (0 ≤ (i : Int) ∧ (i : Int) < 26))
    (k3 : (i : Int) < (n : Int) → zB (zu m 98 i a) → T (D + 5) 270 (22, [(0, zr 74), (1, zi (n : Int)), (3, zi (i : Int))], [], (zu m 98 i a)) κ) :
    T (D + 5) 270 (10, lo, [], m) κ := by
  have he0 : wr (i : Int) = (i : Int) := wr_id (by omega) (by omega)
  have he1 : wr (n : Int) = (n : Int) := wr_id (by omega) (by omega)
  have he2 : (i : Int).toNat = i := by omega
  have key := @zb270_10r T hT D κ m n a i lo hlo
  simp only [he0, he1, he2, Int.toNat_natCast] at key
  exact key
    k1
    k2
    (fun x0 => k3 x0 (zB_u hB trivial))
theorem zb270_22r (hT : zRules T) {D : Nat} {κ : Option zA → zM → Prop} {m : zM} {n : Nat} {i : Nat} {lo : zL} (hlo : z_keep [0, 1, 3] lo = [(0, zr 74), (1, zi (n : Int)), (3, zi (i : Int))]) 
    (o1 : T (D + 4) 269 (0, [(0, zr 74), (1, zi ((i : Int) + 1))], [], m) (fun r m1 => T (D + 5) 270 (29, [(0, zr 74), (1, zi (n : Int)), (3, zi (i : Int))], r.toList ++ [], m1) κ)) :
    T (D + 5) 270 (22, lo, [], m) κ :=
  zkeep hT hlo (hT.1 [(10, [0, 1, 2, 3]), (22, [0, 1, 3])] 6 (D + 5) 270 _ κ (o1))
theorem zb270_22 (hT : zRules T) {D : Nat} {κ : Option zA → zM → Prop} {m : zM} {n : Nat} {i : Nat} {lo : zL} (hlo : z_keep [0, 1, 3] lo = [(0, zr 74), (1, zi (n : Int)), (3, zi (i : Int))])  (hB : zB m) (h_n : n ≤ 60) (h_i : i ≤ 25) 
    (k1 : T (D + 4) 269 (0, [(0, zr 74), (1, zi ((i : Int) + 1))], [], m) (fun r m1 => T (D + 5) 270 (29, [(0, zr 74), (1, zi (n : Int)), (3, zi (i : Int))], r.toList ++ [], m1) κ)) :
    T (D + 5) 270 (22, lo, [], m) κ := by
  exact zb270_22r hT hlo
    k1
theorem zb270_29r (hT : zRules T) {D : Nat} {κ : Option zA → zM → Prop} {m : zM} {n : Nat} {i : Nat} {w : Nat} {lo : zL} (hlo : z_keep [0, 1, 3] lo = [(0, zr 74), (1, zi (n : Int)), (3, zi (i : Int))]) 
    (o1 : ¬ wr (((n : Int) - (i : Int)) - 1) < wr (w : Int) → (0 ≤ wr (i : Int) ∧ wr (i : Int) < 26))
    (o2 : ¬ wr (((n : Int) - (i : Int)) - 1) < wr (w : Int) → T (D + 5) 270 (10, [(0, zr 74), (1, zi (n : Int)), (2, zi ((m 98 ((wr (i : Int)).toNat)) + 1)), (3, zi ((i : Int) + 1))], [], m) κ)
    (o3 : wr (((n : Int) - (i : Int)) - 1) < wr (w : Int) → (0 ≤ wr (i : Int) ∧ wr (i : Int) < 26))
    (o4 : wr (((n : Int) - (i : Int)) - 1) < wr (w : Int) → (0 ≤ wr (i : Int) ∧ wr (i : Int) < 26))
    (o5 : wr (((n : Int) - (i : Int)) - 1) < wr (w : Int) → T (D + 5) 270 (22, [(0, zr 74), (1, zi (n : Int)), (3, zi (i : Int))], [], (zu m 98 ((wr (i : Int)).toNat) ((m 98 ((wr (i : Int)).toNat)) + 1))) κ) :
    T (D + 5) 270 (29, lo, [zi (w : Int)], m) κ :=
  zkeep hT hlo (hT.1 [(10, [0, 1, 2, 3]), (22, [0, 1, 3])] 6 (D + 5) 270 _ κ (And.intro (fun a1 => (hT.1 [(10, [0, 1, 2, 3]), (22, [0, 1, 3])] 6 (D + 5) 270 (50, [(0, zr 74), (1, zi (n : Int)), (3, zi (i : Int))], [], m) _ (And.intro (o1 a1) (hT.1 [(10, [0, 1, 2, 3]), (22, [0, 1, 3])] 6 (D + 5) 270 (58, [(0, zr 74), (1, zi (n : Int)), (3, zi (i : Int))], [zi ((m 98 ((wr (i : Int)).toNat)) + 1)], m) _ (o2 a1))))) (fun a2 => (hT.1 [(10, [0, 1, 2, 3]), (22, [0, 1, 3])] 6 (D + 5) 270 (37, [(0, zr 74), (1, zi (n : Int)), (3, zi (i : Int))], [], m) _ (And.intro (o3 (Classical.byContradiction a2)) (hT.1 [(10, [0, 1, 2, 3]), (22, [0, 1, 3])] 6 (D + 5) 270 (45, [(0, zr 74), (1, zi (n : Int)), (3, zi (i : Int))], [zi 1, zi (m 98 ((wr (i : Int)).toNat)), zi (i : Int), zr 98], m) _ (And.intro (And.intro (o4 (Classical.byContradiction a2)) trivial) (o5 (Classical.byContradiction a2)))))))))
theorem zb270_29 (hT : zRules T) {D : Nat} {κ : Option zA → zM → Prop} {m : zM} {n : Nat} {i : Nat} {w : Nat} {lo : zL} (hlo : z_keep [0, 1, 3] lo = [(0, zr 74), (1, zi (n : Int)), (3, zi (i : Int))])  (hB : zB m) (h_n : n ≤ 60) (h_i : i ≤ 25) (h_w : w ≤ 100) (hf0 : 0 ≤ m 98 i ∧ m 98 i ≤ 140) 
    (k1 : ¬ (((n : Int) - (i : Int)) - 1) < (w : Int) → T (D + 5) 270 (10, [(0, zr 74), (1, zi (n : Int)), (2, zi ((m 98 i) + 1)), (3, zi ((i : Int) + 1))], [], m) κ)
    (k2 : (((n : Int) - (i : Int)) - 1) < (w : Int) → zB (zu m 98 i ((m 98 i) + 1)) → T (D + 5) 270 (22, [(0, zr 74), (1, zi (n : Int)), (3, zi (i : Int))], [], (zu m 98 i ((m 98 i) + 1))) κ) :
    T (D + 5) 270 (29, lo, [zi (w : Int)], m) κ := by
  have he0 : wr (((n : Int) - (i : Int)) - 1) = (((n : Int) - (i : Int)) - 1) := wr_id (by omega) (by omega)
  have he1 : wr (w : Int) = (w : Int) := wr_id (by omega) (by omega)
  have he2 : wr (i : Int) = (i : Int) := wr_id (by omega) (by omega)
  have he3 : (i : Int).toNat = i := by omega
  have key := @zb270_29r T hT D κ m n i w lo hlo
  simp only [he0, he1, he2, he3, Int.toNat_natCast] at key
  exact key
    (fun x0 => by refine ⟨?_, ?_⟩ <;> omega)
    k1
    (fun x0 => by refine ⟨?_, ?_⟩ <;> omega)
    (fun x0 => by refine ⟨?_, ?_⟩ <;> omega)
    (fun x0 => k2 x0 (zB_u hB trivial))
end ZBlocks
