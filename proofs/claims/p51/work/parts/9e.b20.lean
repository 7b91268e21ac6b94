section ZBlocks
variable {T : Nat → Nat → zG → (Option zA → zM → Prop) → Prop}
theorem zb140_0r (hT : zRules T) {D : Nat} {κ : Option zA → zM → Prop} {m : zM} {p : Int} {n : Int} 
    (o1 : wr p < 0 → κ (some (zi (-1))) m)
    (o2 : ¬ wr p < 0 → ¬ wr p < wr (m 17 0) → κ (some (zi (-1))) m)
    (o3 : ¬ wr p < 0 → wr p < wr (m 17 0) → wr n < 1 → κ (some (zi (-1))) m)
    (o4 : ¬ wr p < 0 → wr p < wr (m 17 0) → ¬ wr n < 1 → ¬ 20 < wr n → (0 ≤ wr p ∧ wr p < 6))
    (o5 : ¬ wr p < 0 → wr p < wr (m 17 0) → ¬ wr n < 1 → ¬ 20 < wr n → T (D + 6) 180 (0, [(0, zr 1), (1, zi p), (2, zi (m 19 ((wr p).toNat))), (3, zi n)], [], m) (fun r m1 => T (D + 7) 140 (39, [(0, zr 1), (1, zi p), (2, zi n)], r.toList ++ [], m1) κ))
    (o6 : ¬ wr p < 0 → wr p < wr (m 17 0) → ¬ wr n < 1 → 20 < wr n → κ (some (zi (-1))) m) :
    T (D + 7) 140 (0, [(0, zr 1), (1, zi p), (2, zi n)], [], m) κ :=
  hT.1 [] 6 (D + 7) 140 _ κ (hT.1 [] 6 (D + 6) 25 _ _ (And.intro (fun a1 => (And.intro (z_b01L rfl) (hT.1 [] 6 (D + 7) 140 _ _ (And.intro (fun _ => (o1 a1)) (fun a3 => (a3 (z_litT rfl)).elim))))) (fun a2 => (And.intro (fun a4 => (hT.1 [] 6 (D + 6) 25 (16, [(0, zr 17), (1, zi p)], [], m) _ (And.intro (z_b01L rfl) (hT.1 [] 6 (D + 7) 140 _ _ (And.intro (fun _ => (o2 a2 a4)) (fun a6 => (a6 (z_litT rfl)).elim)))))) (fun a5 => (hT.1 [] 6 (D + 6) 25 (12, [(0, zr 17), (1, zi p)], [], m) _ (And.intro (z_b01L rfl) (hT.1 [] 6 (D + 7) 140 _ _ (And.intro (fun a7 => (z_litF a7 rfl).elim) (fun _ => (And.intro (fun a8 => (o3 a2 (Classical.byContradiction a5) a8)) (fun a9 => (hT.1 [] 6 (D + 7) 140 (19, [(0, zr 1), (1, zi p), (2, zi n)], [zi 20, zi n], m) _ (And.intro (fun a10 => (hT.1 [] 6 (D + 7) 140 (33, [(0, zr 1), (1, zi p), (2, zi n)], [zr 19, zi p, zr 1], m) _ (And.intro (o4 a2 (Classical.byContradiction a5) a9 a10) (o5 a2 (Classical.byContradiction a5) a9 a10)))) (fun a11 => (o6 a2 (Classical.byContradiction a5) a9 (Classical.byContradiction a11)))))))))))))))))
theorem zb140_0 (hT : zRules T) {D : Nat} {κ : Option zA → zM → Prop} {m : zM} {p : Int} {n : Int}  (hB : zB m) (h_p : (-2147483648) ≤ p ∧ p ≤ 2147483647) (h_n : (-2147483648) ≤ n ∧ n ≤ 2147483647) 
    (k1 : p < 0 → κ (some (zi (-1))) m)
    (k2 : ¬ p < 0 → ¬ p < (m 17 0) → κ (some (zi (-1))) m)
    (k3 : ¬ p < 0 → p < (m 17 0) → n < 1 → κ (some (zi (-1))) m)
    (k4 : ¬ p < 0 → p < (m 17 0) → ¬ n < 1 → ¬ 20 < n → T (D + 6) 180 (0, [(0, zr 1), (1, zi p), (2, zi (m 19 (p.toNat))), (3, zi n)], [], m) (fun r m1 => T (D + 7) 140 (39, [(0, zr 1), (1, zi p), (2, zi n)], r.toList ++ [], m1) κ))
    (k5 : ¬ p < 0 → p < (m 17 0) → ¬ n < 1 → 20 < n → κ (some (zi (-1))) m) :
    T (D + 7) 140 (0, [(0, zr 1), (1, zi p), (2, zi n)], [], m) κ := by
  have hb2 : 0 ≤ (m 17 0) ∧ (m 17 0) ≤ 6 := hB 17 0
  have hb3 : (-1) ≤ (m 19 (p.toNat)) ∧ (m 19 (p.toNat)) ≤ 3 := hB 19 (p.toNat)
  have he0 : wr p = p := wr_id (by omega) (by omega)
  have he1 : wr (m 17 0) = (m 17 0) := wr_id (by omega) (by omega)
  have he2 : wr n = n := wr_id (by omega) (by omega)
  have key := @zb140_0r T hT D κ m p n
  simp only [he0, he1, he2, Int.toNat_natCast] at key
  exact key
    k1
    k2
    k3
    (fun x0 x1 x2 x3 => by refine ⟨?_, ?_⟩ <;> omega)
    k4
    k5
theorem zb140_39r (hT : zRules T) {D : Nat} {κ : Option zA → zM → Prop} {m : zM} {lo : zL} (hlo : z_keep [0] lo = [(0, zr 1)]) 
    (o1 : T (D + 6) 84 (0, [(0, zr 52), (1, zr 17)], [], m) (fun r m1 => T (D + 7) 140 (50, [(0, zr 1)], r.toList ++ [], m1) κ)) :
    T (D + 7) 140 (39, lo, [], m) κ :=
  zkeep hT hlo (hT.1 [] 6 (D + 7) 140 _ κ (o1))
theorem zb140_39 (hT : zRules T) {D : Nat} {κ : Option zA → zM → Prop} {m : zM} {lo : zL} (hlo : z_keep [0] lo = [(0, zr 1)])  (hB : zB m) 
    (k1 : T (D + 6) 84 (0, [(0, zr 52), (1, zr 17)], [], m) (fun r m1 => T (D + 7) 140 (50, [(0, zr 1)], r.toList ++ [], m1) κ)) :
    T (D + 7) 140 (39, lo, [], m) κ := by
  exact zb140_39r hT hlo
    k1
theorem zb140_50r (hT : zRules T) {D : Nat} {κ : Option zA → zM → Prop} {m : zM} {v : Int} {lo : zL} (hlo : z_keep [0] lo = [(0, zr 1)]) 
    (o1 : κ (some (zi (wr v))) (zu (zu (zu m 72 1 2) 73 0 (m 52 5)) 73 1 (m 52 6))) :
    T (D + 7) 140 (50, lo, [zi v], m) κ :=
  zkeep hT hlo (hT.1 [] 6 (D + 7) 140 _ κ (hT.1 [] 6 (D + 7) 140 (62, [(0, zr 1), (3, zi v)], [zi (m 52 5), zr 72], m) _ (hT.1 [] 6 (D + 6) 46 _ _ (And.intro trivial (hT.1 [] 6 (D + 6) 46 (10, [(0, zr 72), (1, zi (m 52 5)), (2, zi (m 52 6))], [zi 0, zr 73], (zu m 72 1 2)) _ (And.intro (And.intro (z_ixL rfl) trivial) (hT.1 [] 6 (D + 6) 46 (18, [(0, zr 72), (1, zi (m 52 5)), (2, zi (m 52 6))], [zi (m 52 6), zi 1, zr 73], (zu (zu m 72 1 2) 73 0 (m 52 5))) _ (And.intro (And.intro (z_ixL rfl) trivial) (hT.1 [] 6 (D + 7) 140 _ _ (o1))))))))))
theorem zb140_50 (hT : zRules T) {D : Nat} {κ : Option zA → zM → Prop} {m : zM} {v : Int} {lo : zL} (hlo : z_keep [0] lo = [(0, zr 1)])  (hB : zB m) (h_v : (-2147483648) ≤ v ∧ v ≤ 2147483647) 
    (k1 : zB (zu (zu (zu m 72 1 2) 73 0 (m 52 5)) 73 1 (m 52 6)) → κ (some (zi v)) (zu (zu (zu m 72 1 2) 73 0 (m 52 5)) 73 1 (m 52 6))) :
    T (D + 7) 140 (50, lo, [zi v], m) κ := by
  have hb1 : 0 ≤ (m 52 6) ∧ (m 52 6) ≤ 9 := hB 52 6
  have he0 : wr v = v := wr_id (by omega) (by omega)
  have key := @zb140_50r T hT D κ m v lo hlo
  simp only [he0, Int.toNat_natCast] at key
  exact key
    (k1  (zB_u (zB_u (zB_u hB (show 0 ≤ 2 ∧ 2 ≤ 26 from ⟨by omega, by omega⟩)) trivial) trivial))
theorem zb84_0r (hT : zRules T) {D : Nat} {κ : Option zA → zM → Prop} {m : zM} 
    (o1 : T (D + 6) 84 (7, [(0, zr 52), (1, zr 17), (2, zi (wr (m 24 0))), (3, zi 0)], [], m) κ) :
    T (D + 6) 84 (0, [(0, zr 52), (1, zr 17)], [], m) κ :=
  hT.1 [(7, [0, 1, 2, 3]), (32, [0, 1, 2, 3]), (39, [0, 1, 2, 3, 4]), (113, [0, 1, 2, 3, 4])] 6 (D + 6) 84 _ κ (hT.1 [] 6 (D + 5) 27 _ _ (And.intro (z_ixL rfl) (hT.1 [(7, [0, 1, 2, 3]), (32, [0, 1, 2, 3]), (39, [0, 1, 2, 3, 4]), (113, [0, 1, 2, 3, 4])] 6 (D + 6) 84 _ _ (o1))))
theorem zb84_0 (hT : zRules T) {D : Nat} {κ : Option zA → zM → Prop} {m : zM}  (hB : zB m) 
    (k1 : T (D + 6) 84 (7, [(0, zr 52), (1, zr 17), (2, zi (m 24 0)), (3, zi 0)], [], m) κ) :
    T (D + 6) 84 (0, [(0, zr 52), (1, zr 17)], [], m) κ := by
  have hb0 : 0 ≤ (m 24 0) ∧ (m 24 0) ≤ 9 := hB 24 0
  have he0 : wr (m 24 0) = (m 24 0) := wr_id (by omega) (by omega)
  have key := @zb84_0r T hT D κ m 
  simp only [he0, Int.toNat_natCast] at key
  exact key
    k1
theorem zb84_7r (hT : zRules T) {D : Nat} {κ : Option zA → zM → Prop} {m : zM} {h : Nat} {i : Nat} {lo : zL} (hlo : z_keep [0, 1, 2, 3] lo = [(0, zr 52), (1, zr 17), (2, zi (h : Int)), (3, zi (i : Int))]) 
    (o1 : wr (h : Int) < wr (i : Int) → T (D + 6) 84 (32, [(0, zr 52), (1, zr 17), (2, zi (h : Int)), (3, zi ((m 52 1) - 2))], [], m) κ)
    (o2 : ¬ wr (h : Int) < wr (i : Int) → (0 ≤ wr (i : Int) ∧ wr (i : Int) < 10))
    (o3 : ¬ wr (h : Int) < wr (i : Int) → T (D + 6) 84 (7, [(0, zr 52), (1, zr 17), (2, zi (h : Int)), (3, zi ((i : Int) + 1))], [], (zu m 55 ((wr (i : Int)).toNat) 0)) κ) :
    T (D + 6) 84 (7, lo, [], m) κ :=
  zkeep hT hlo (hT.1 [(7, [0, 1, 2, 3]), (32, [0, 1, 2, 3]), (39, [0, 1, 2, 3, 4]), (113, [0, 1, 2, 3, 4])] 6 (D + 6) 84 _ κ (And.intro (fun a1 => (hT.1 [(7, [0, 1, 2, 3]), (32, [0, 1, 2, 3]), (39, [0, 1, 2, 3, 4]), (113, [0, 1, 2, 3, 4])] 6 (D + 6) 84 (30, [(0, zr 52), (1, zr 17), (2, zi (h : Int)), (3, zi (i : Int))], [zi 2, zi (m 52 1)], m) _ (o1 a1))) (fun a2 => (hT.1 [(7, [0, 1, 2, 3]), (32, [0, 1, 2, 3]), (39, [0, 1, 2, 3, 4]), (113, [0, 1, 2, 3, 4])] 6 (D + 6) 84 (17, [(0, zr 52), (1, zr 17), (2, zi (h : Int)), (3, zi (i : Int))], [zi (i : Int), zr 55], m) _ (And.intro (And.intro (o2 a2) trivial) (o3 a2))))))
theorem zb84_7 (hT : zRules T) {D : Nat} {κ : Option zA → zM → Prop} {m : zM} {h : Nat} {i : Nat} {lo : zL} (hlo : z_keep [0, 1, 2, 3] lo = [(0, zr 52), (1, zr 17), (2, zi (h : Int)), (3, zi (i : Int))])  (hB : zB m) (h_h : h ≤ 9) (h_i : i ≤ 10) 
    (k1 : (h : Int) < (i : Int) → T (D + 6) 84 (32, [(0, zr 52), (1, zr 17), (2, zi (h : Int)), (3, zi ((m 52 1) - 2))], [], m) κ)
    (k2 : ¬ (h : Int) < (i : Int) → zB (zu m 55 i 0) → T (D + 6) 84 (7, [(0, zr 52), (1, zr 17), (2, zi (h : Int)), (3, zi ((i : Int) + 1))], [], (zu m 55 i 0)) κ) :
    T (D + 6) 84 (7, lo, [], m) κ := by
  have hb2 : 0 ≤ (m 52 1) ∧ (m 52 1) ≤ 60 := hB 52 1
  have he0 : wr (h : Int) = (h : Int) := wr_id (by omega) (by omega)
  have he1 : wr (i : Int) = (i : Int) := wr_id (by omega) (by omega)
  have he2 : (i : Int).toNat = i := by omega
  have key := @zb84_7r T hT D κ m h i lo hlo
  simp only [he0, he1, he2, Int.toNat_natCast] at key
  exact key
    k1
    (fun x0 => by refine ⟨?_, ?_⟩ <;> omega)
    (fun x0 => k2 x0 (zB_u hB trivial))
theorem zb84_32r (hT : zRules T) {D : Nat} {κ : Option zA → zM → Prop} {m : zM} {h : Nat} {i : Int} {lo : zL} (hlo : z_keep [0, 1, 2, 3] lo = [(0, zr 52), (1, zr 17), (2, zi (h : Int)), (3, zi i)]) 
    (o1 : wr i < 0 → T (D + 6) 84 (113, [(0, zr 52), (1, zr 17), (2, zi (h : Int)), (3, zi 0), (4, zi 0)], [], m) κ)
    (o2 : ¬ wr i < 0 → T (D + 6) 84 (39, [(0, zr 52), (1, zr 17), (2, zi (h : Int)), (3, zi i), (4, zi 0)], [], m) κ) :
    T (D + 6) 84 (32, lo, [], m) κ :=
  zkeep hT hlo (hT.1 [(7, [0, 1, 2, 3]), (32, [0, 1, 2, 3]), (39, [0, 1, 2, 3, 4]), (113, [0, 1, 2, 3, 4])] 6 (D + 6) 84 _ κ (And.intro (fun a1 => (o1 a1)) (fun a2 => (o2 a2))))
theorem zb84_32 (hT : zRules T) {D : Nat} {κ : Option zA → zM → Prop} {m : zM} {h : Nat} {i : Int} {lo : zL} (hlo : z_keep [0, 1, 2, 3] lo = [(0, zr 52), (1, zr 17), (2, zi (h : Int)), (3, zi i)])  (hB : zB m) (h_h : h ≤ 9) (h_i : (-2) ≤ i ∧ i ≤ 58) 
    (k1 : i < 0 → T (D + 6) 84 (113, [(0, zr 52), (1, zr 17), (2, zi (h : Int)), (3, zi 0), (4, zi 0)], [], m) κ)
    (k2 : ¬ i < 0 → T (D + 6) 84 (39, [(0, zr 52), (1, zr 17), (2, zi (h : Int)), (3, zi i), (4, zi 0)], [], m) κ) :
    T (D + 6) 84 (32, lo, [], m) κ := by
  have he0 : wr i = i := wr_id (by omega) (by omega)
  have key := @zb84_32r T hT D κ m h i lo hlo
  simp only [he0, Int.toNat_natCast] at key
  exact key
    k1
    k2
theorem zb84_39r (hT : zRules T) {D : Nat} {κ : Option zA → zM → Prop} {m : zM} {h : Nat} {i : Nat} {k : Nat} {lo : zL} (hlo : z_keep [0, 1, 2, 3, 4] lo = [(0, zr 52), (1, zr 17), (2, zi (h : Int)), (3, zi (i : Int)), (4, zi (k : Int))]) 
    (o1 : wr (h : Int) < wr (k : Int) → ((0 : Int) ≤ 0 ∧ (0 : Int) ≤ 0 ∧ (0 : Int) ≤ wr ((h : Int) + 1) ∧ 0 + wr ((h : Int) + 1) ≤ 10 ∧ 0 + wr ((h : Int) + 1) ≤ 10))
    (o2 : wr (h : Int) < wr (k : Int) → T (D + 6) 84 (32, [(0, zr 52), (1, zr 17), (2, zi (h : Int)), (3, zi ((i : Int) + (-1)))], [], (z_cp m 56 55 0 0 ((wr ((h : Int) + 1)).toNat))) κ)
    (o3 : ¬ wr (h : Int) < wr (k : Int) → (0 ≤ wr (i : Int) ∧ wr (i : Int) < 60))
    (o4 : ¬ wr (h : Int) < wr (k : Int) → (0 ≤ wr (i : Int) ∧ wr (i : Int) < 60))
    (o5 : ¬ wr (h : Int) < wr (k : Int) → (0 ≤ wr ((i : Int) + 1) ∧ wr ((i : Int) + 1) < 60))
    (o6 : ¬ wr (h : Int) < wr (k : Int) → T (D + 5) 86 (0, [(0, zr 52), (1, zr 17), (2, zi (m 53 ((wr (i : Int)).toNat))), (3, zi ((m 53 ((wr (i : Int)).toNat)) + (k : Int))), (4, zi (m 53 ((wr ((i : Int) + 1)).toNat)))], [], m) (fun r m1 => T (D + 6) 84 (79, [(0, zr 52), (1, zr 17), (2, zi (h : Int)), (3, zi (i : Int)), (4, zi (k : Int))], r.toList ++ [zi (k : Int), zr 56], m1) κ)) :
    T (D + 6) 84 (39, lo, [], m) κ :=
  zkeep hT hlo (hT.1 [(7, [0, 1, 2, 3]), (32, [0, 1, 2, 3]), (39, [0, 1, 2, 3, 4]), (113, [0, 1, 2, 3, 4])] 6 (D + 6) 84 _ κ (And.intro (fun a1 => (hT.1 [(7, [0, 1, 2, 3]), (32, [0, 1, 2, 3]), (39, [0, 1, 2, 3, 4]), (113, [0, 1, 2, 3, 4])] 6 (D + 6) 84 (91, [(0, zr 52), (1, zr 17), (2, zi (h : Int)), (3, zi (i : Int)), (4, zi (k : Int))], [zi 0, zr 56], m) _ (hT.1 [(7, [0, 1, 2, 3]), (32, [0, 1, 2, 3]), (39, [0, 1, 2, 3, 4]), (113, [0, 1, 2, 3, 4])] 6 (D + 6) 84 (99, [(0, zr 52), (1, zr 17), (2, zi (h : Int)), (3, zi (i : Int)), (4, zi (k : Int))], [zi ((h : Int) + 1), zi 0, zr 55, zi 0, zr 56], m) _ (And.intro (o1 a1) (o2 a1))))) (fun a2 => (hT.1 [(7, [0, 1, 2, 3]), (32, [0, 1, 2, 3]), (39, [0, 1, 2, 3, 4]), (113, [0, 1, 2, 3, 4])] 6 (D + 6) 84 (51, [(0, zr 52), (1, zr 17), (2, zi (h : Int)), (3, zi (i : Int)), (4, zi (k : Int))], [zi (k : Int), zr 56], m) _ (And.intro (o3 a2) (hT.1 [(7, [0, 1, 2, 3]), (32, [0, 1, 2, 3]), (39, [0, 1, 2, 3, 4]), (113, [0, 1, 2, 3, 4])] 6 (D + 6) 84 (59, [(0, zr 52), (1, zr 17), (2, zi (h : Int)), (3, zi (i : Int)), (4, zi (k : Int))], [zi (m 53 ((wr (i : Int)).toNat)), zr 17, zr 52, zi (k : Int), zr 56], m) _ (And.intro (o4 a2) (hT.1 [(7, [0, 1, 2, 3]), (32, [0, 1, 2, 3]), (39, [0, 1, 2, 3, 4]), (113, [0, 1, 2, 3, 4])] 6 (D + 6) 84 (68, [(0, zr 52), (1, zr 17), (2, zi (h : Int)), (3, zi (i : Int)), (4, zi (k : Int))], [zi ((m 53 ((wr (i : Int)).toNat)) + (k : Int)), zi (m 53 ((wr (i : Int)).toNat)), zr 17, zr 52, zi (k : Int), zr 56], m) _ (And.intro (o5 a2) (hT.1 [(7, [0, 1, 2, 3]), (32, [0, 1, 2, 3]), (39, [0, 1, 2, 3, 4]), (113, [0, 1, 2, 3, 4])] 6 (D + 6) 84 (76, [(0, zr 52), (1, zr 17), (2, zi (h : Int)), (3, zi (i : Int)), (4, zi (k : Int))], [zi (m 53 ((wr ((i : Int) + 1)).toNat)), zi ((m 53 ((wr (i : Int)).toNat)) + (k : Int)), zi (m 53 ((wr (i : Int)).toNat)), zr 17, zr 52, zi (k : Int), zr 56], m) _ (o6 a2)))))))))))
theorem zb84_39 (hT : zRules T) {D : Nat} {κ : Option zA → zM → Prop} {m : zM} {h : Nat} {i : Nat} {k : Nat} {lo : zL} (hlo : z_keep [0, 1, 2, 3, 4] lo = [(0, zr 52), (1, zr 17), (2, zi (h : Int)), (3, zi (i : Int)), (4, zi (k : Int))])  (hB : zB m) (h_h : h ≤ 9) (h_i : i ≤ 58) (h_k : k ≤ 10) 
    (k1 : (h : Int) < (k : Int) → zB (z_cp m 56 55 0 0 (h + 1)) → T (D + 6) 84 (32, [(0, zr 52), (1, zr 17), (2, zi (h : Int)), (3, zi ((i : Int) + (-1)))], [], (z_cp m 56 55 0 0 (h + 1))) κ)
    (k2 : ¬ (h : Int) < (k : Int) → T (D + 5) 86 (0, [(0, zr 52), (1, zr 17), (2, zi (m 53 i)), (3, zi ((m 53 i) + (k : Int))), (4, zi (m 53 (i + 1)))], [], m) (fun r m1 => T (D + 6) 84 (79, [(0, zr 52), (1, zr 17), (2, zi (h : Int)), (3, zi (i : Int)), (4, zi (k : Int))], r.toList ++ [zi (k : Int), zr 56], m1) κ)) :
    T (D + 6) 84 (39, lo, [], m) κ := by
  have hb3 : 0 ≤ (m 53 i) ∧ (m 53 i) ≤ 99 := hB 53 i
  have hb4 : 0 ≤ (m 53 (i + 1)) ∧ (m 53 (i + 1)) ≤ 99 := hB 53 (i + 1)
  have he0 : wr (h : Int) = (h : Int) := wr_id (by omega) (by omega)
  have he1 : wr (k : Int) = (k : Int) := wr_id (by omega) (by omega)
  have he2 : wr ((h : Int) + 1) = ((h : Int) + 1) := wr_id (by omega) (by omega)
  have he3 : ((h : Int) + 1).toNat = h + 1 := by omega
  have he4 : wr (i : Int) = (i : Int) := wr_id (by omega) (by omega)
  have he5 : (i : Int).toNat = i := by omega
  have he6 : wr ((i : Int) + 1) = ((i : Int) + 1) := wr_id (by omega) (by omega)
  have he7 : ((i : Int) + 1).toNat = i + 1 := by omega
  have key := @zb84_39r T hT D κ m h i k lo hlo
  simp only [he0, he1, he2, he3, he4, he5, he6, he7, Int.toNat_natCast] at key
  exact key
    (fun x0 => by refine ⟨?_, ?_, ?_, ?_, ?_⟩ <;> omega)
    (fun x0 => k1 x0 (zB_cp hB (fun _ _ _ => trivial)))
    (fun x0 => by refine ⟨?_, ?_⟩ <;> omega)
    (fun x0 => by refine ⟨?_, ?_⟩ <;> omega)
    (fun x0 => by refine ⟨?_, ?_⟩ <;> omega)
    k2
theorem zb84_79r (hT : zRules T) {D : Nat} {κ : Option zA → zM → Prop} {m : zM} {h : Nat} {i : Nat} {k : Nat} {v : Int} {lo : zL} (hlo : z_keep [0, 1, 2, 3, 4] lo = [(0, zr 52), (1, zr 17), (2, zi (h : Int)), (3, zi (i : Int)), (4, zi (k : Int))]) 
    (o1 : (0 ≤ wr (k : Int) ∧ wr (k : Int) < 10))
    (o2 : T (D + 6) 84 (39, [(0, zr 52), (1, zr 17), (2, zi (h : Int)), (3, zi (i : Int)), (4, zi ((k : Int) + 1))], [], (zu m 56 ((wr (k : Int)).toNat) v)) κ) :
    T (D + 6) 84 (79, lo, [zi v, zi (k : Int), zr 56], m) κ :=
  zkeep hT hlo (hT.1 [(7, [0, 1, 2, 3]), (32, [0, 1, 2, 3]), (39, [0, 1, 2, 3, 4]), (113, [0, 1, 2, 3, 4])] 6 (D + 6) 84 _ κ (And.intro (And.intro (o1) trivial) (o2)))
theorem zb84_79 (hT : zRules T) {D : Nat} {κ : Option zA → zM → Prop} {m : zM} {h : Nat} {i : Nat} {k : Nat} {v : Int} {lo : zL} (hlo : z_keep [0, 1, 2, 3, 4] lo = [(0, zr 52), (1, zr 17), (2, zi (h : Int)), (3, zi (i : Int)), (4, zi (k : Int))])  (hB : zB m) (h_h : h ≤ 9) (h_i : i ≤ 58) (h_k : k ≤ 9) (h_v : (-2147483648) ≤ v ∧ v ≤ 2147483647) 
    (k1 : zB (zu m 56 k v) → T (D + 6) 84 (39, [(0, zr 52), (1, zr 17), (2, zi (h : Int)), (3, zi (i : Int)), (4, zi ((k : Int) + 1))], [], (zu m 56 k v)) κ) :
    T (D + 6) 84 (79, lo, [zi v, zi (k : Int), zr 56], m) κ := by
  have he0 : wr (k : Int) = (k : Int) := wr_id (by omega) (by omega)
  have he1 : (k : Int).toNat = k := by omega
  have key := @zb84_79r T hT D κ m h i k v lo hlo
  simp only [he0, he1, Int.toNat_natCast] at key
  exact key
    (by refine ⟨?_, ?_⟩ <;> omega)
    (k1  (zB_u hB trivial))
theorem zb84_113r (hT : zRules T) {D : Nat} {κ : Option zA → zM → Prop} {m : zM} {h : Nat} {b : Int} {k : Nat} {lo : zL} (hlo : z_keep [0, 1, 2, 3, 4] lo = [(0, zr 52), (1, zr 17), (2, zi (h : Int)), (3, zi b), (4, zi (k : Int))]) 
    (o1 : wr (h : Int) < wr (k : Int) → κ (some (zi (wr (Int.tdiv (wr b) 4096)))) (zu m 52 5 (Int.tmod (wr b) 4096)))
    (o2 : ¬ wr (h : Int) < wr (k : Int) → (0 ≤ wr (k : Int) ∧ wr (k : Int) < 10))
    (o3 : ¬ wr (h : Int) < wr (k : Int) → wr (k : Int) = 0 → T (D + 6) 84 (113, [(0, zr 52), (1, zr 17), (2, zi (h : Int)), (3, zi ((m 55 ((wr (k : Int)).toNat)) + wr ((wr ((((m 53 0) + (k : Int)) * (m 24 1)) + (0 * (m 24 2))) * 4096) + ((m 53 0) + (k : Int))))), (4, zi ((k : Int) + 1))], [], (zu m 52 6 (k : Int))) κ)
    (o4 : ¬ wr (h : Int) < wr (k : Int) → ¬ wr (k : Int) = 0 → ¬ wr ((m 55 ((wr (k : Int)).toNat)) + wr ((wr ((((m 53 0) + (k : Int)) * (m 24 1)) + (0 * (m 24 2))) * 4096) + ((m 53 0) + (k : Int)))) < wr b → T (D + 6) 84 (113, [(0, zr 52), (1, zr 17), (2, zi (h : Int)), (3, zi b), (4, zi ((k : Int) + 1))], [], m) κ)
    (o5 : ¬ wr (h : Int) < wr (k : Int) → ¬ wr (k : Int) = 0 → wr ((m 55 ((wr (k : Int)).toNat)) + wr ((wr ((((m 53 0) + (k : Int)) * (m 24 1)) + (0 * (m 24 2))) * 4096) + ((m 53 0) + (k : Int)))) < wr b → T (D + 6) 84 (113, [(0, zr 52), (1, zr 17), (2, zi (h : Int)), (3, zi ((m 55 ((wr (k : Int)).toNat)) + wr ((wr ((((m 53 0) + (k : Int)) * (m 24 1)) + (0 * (m 24 2))) * 4096) + ((m 53 0) + (k : Int))))), (4, zi ((k : Int) + 1))], [], (zu m 52 6 (k : Int))) κ) :
    T (D + 6) 84 (113, lo, [], m) κ :=
  zkeep hT hlo (hT.1 [(7, [0, 1, 2, 3]), (32, [0, 1, 2, 3]), (39, [0, 1, 2, 3, 4]), (113, [0, 1, 2, 3, 4])] 6 (D + 6) 84 _ κ (And.intro (fun a1 => (hT.1 [(7, [0, 1, 2, 3]), (32, [0, 1, 2, 3]), (39, [0, 1, 2, 3, 4]), (113, [0, 1, 2, 3, 4])] 6 (D + 6) 84 (174, [(0, zr 52), (1, zr 17), (2, zi (h : Int)), (3, zi b), (4, zi (k : Int))], [zi 4096, zi b, zr 52], m) _ (And.intro (z_neL rfl) (And.intro trivial (And.intro (z_neL rfl) (o1 a1)))))) (fun a2 => (hT.1 [(7, [0, 1, 2, 3]), (32, [0, 1, 2, 3]), (39, [0, 1, 2, 3, 4]), (113, [0, 1, 2, 3, 4])] 6 (D + 6) 84 (125, [(0, zr 52), (1, zr 17), (2, zi (h : Int)), (3, zi b), (4, zi (k : Int))], [zi (k : Int), zr 55], m) _ (And.intro (o2 a2) (And.intro (z_ixL rfl) (hT.1 [(7, [0, 1, 2, 3]), (32, [0, 1, 2, 3]), (39, [0, 1, 2, 3, 4]), (113, [0, 1, 2, 3, 4])] 6 (D + 6) 84 (133, [(0, zr 52), (1, zr 17), (2, zi (h : Int)), (3, zi b), (4, zi (k : Int))], [zi (m 53 0), zr 17, zi (m 55 ((wr (k : Int)).toNat))], m) _ (hT.1 [] 6 (D + 5) 85 _ _ (hT.1 [] 6 (D + 4) 33 _ _ (And.intro (z_ixL rfl) (hT.1 [] 6 (D + 4) 33 (8, [(0, zr 17), (1, zi ((m 53 0) + (k : Int))), (2, zi 0)], [zi (((m 53 0) + (k : Int)) * (m 24 1))], m) _ (And.intro (z_ixL rfl) (hT.1 [] 6 (D + 4) 33 (16, [(0, zr 17), (1, zi ((m 53 0) + (k : Int))), (2, zi 0)], [zi (0 * (m 24 2)), zi (((m 53 0) + (k : Int)) * (m 24 1))], m) _ (hT.1 [] 6 (D + 5) 85 _ _ (hT.1 [(7, [0, 1, 2, 3]), (32, [0, 1, 2, 3]), (39, [0, 1, 2, 3, 4]), (113, [0, 1, 2, 3, 4])] 6 (D + 6) 84 _ _ (And.intro (fun a3 => (hT.1 [(7, [0, 1, 2, 3]), (32, [0, 1, 2, 3]), (39, [0, 1, 2, 3, 4]), (113, [0, 1, 2, 3, 4])] 6 (D + 6) 84 (157, [(0, zr 52), (1, zr 17), (2, zi (h : Int)), (3, zi ((m 55 ((wr (k : Int)).toNat)) + wr ((wr ((((m 53 0) + (k : Int)) * (m 24 1)) + (0 * (m 24 2))) * 4096) + ((m 53 0) + (k : Int))))), (4, zi (k : Int)), (5, zi ((m 55 ((wr (k : Int)).toNat)) + wr ((wr ((((m 53 0) + (k : Int)) * (m 24 1)) + (0 * (m 24 2))) * 4096) + ((m 53 0) + (k : Int)))))], [], m) _ (And.intro trivial (o3 a2 a3)))) (fun a4 => (hT.1 [(7, [0, 1, 2, 3]), (32, [0, 1, 2, 3]), (39, [0, 1, 2, 3, 4]), (113, [0, 1, 2, 3, 4])] 6 (D + 6) 84 (151, [(0, zr 52), (1, zr 17), (2, zi (h : Int)), (3, zi b), (4, zi (k : Int)), (5, zi ((m 55 ((wr (k : Int)).toNat)) + wr ((wr ((((m 53 0) + (k : Int)) * (m 24 1)) + (0 * (m 24 2))) * 4096) + ((m 53 0) + (k : Int)))))], [zi b, zi ((m 55 ((wr (k : Int)).toNat)) + wr ((wr ((((m 53 0) + (k : Int)) * (m 24 1)) + (0 * (m 24 2))) * 4096) + ((m 53 0) + (k : Int))))], m) _ (And.intro (fun a5 => (o4 a2 a4 a5)) (fun a6 => (And.intro trivial (hT.1 [(7, [0, 1, 2, 3]), (32, [0, 1, 2, 3]), (39, [0, 1, 2, 3, 4]), (113, [0, 1, 2, 3, 4])] 6 (D + 6) 84 (163, [(0, zr 52), (1, zr 17), (2, zi (h : Int)), (3, zi ((m 55 ((wr (k : Int)).toNat)) + wr ((wr ((((m 53 0) + (k : Int)) * (m 24 1)) + (0 * (m 24 2))) * 4096) + ((m 53 0) + (k : Int))))), (4, zi (k : Int)), (5, zi ((m 55 ((wr (k : Int)).toNat)) + wr ((wr ((((m 53 0) + (k : Int)) * (m 24 1)) + (0 * (m 24 2))) * 4096) + ((m 53 0) + (k : Int)))))], [], (zu m 52 6 (k : Int))) _ (o5 a2 a4 (Classical.byContradiction a6))))))))))))))))))))))))
theorem zb84_113 (hT : zRules T) {D : Nat} {κ : Option zA → zM → Prop} {m : zM} {h : Nat} {b : Int} {k : Nat} {lo : zL} (hlo : z_keep [0, 1, 2, 3, 4] lo = [(0, zr 52), (1, zr 17), (2, zi (h : Int)), (3, zi b), (4, zi (k : Int))])  (hB : zB m) (h_h : h ≤ 9) (h_b : (-2147483648) ≤ b ∧ b ≤ 2147483647) (h_k : k ≤ 10) 
    (k1 : (h : Int) < (k : Int) → zB (zu m 52 5 (Int.tmod b 4096)) → κ (some (zi (wr (Int.tdiv b 4096)))) (zu m 52 5 (Int.tmod b 4096)))
    (k2 : ¬ (h : Int) < (k : Int) → (k : Int) = 0 → zB (zu m 52 6 (k : Int)) → T (D + 6) 84 (113, [(0, zr 52), (1, zr 17), (2, zi (h : Int)), (3, zi ((m 55 k) + ((((((m 53 0) + (k : Int)) * (m 24 1)) + (0 * (m 24 2))) * 4096) + ((m 53 0) + (k : Int))))), (4, zi ((k : Int) + 1))], [], (zu m 52 6 (k : Int))) κ)
    (k3 : ¬ (h : Int) < (k : Int) → ¬ (k : Int) = 0 → ¬ wr ((m 55 k) + ((((((m 53 0) + (k : Int)) * (m 24 1)) + (0 * (m 24 2))) * 4096) + ((m 53 0) + (k : Int)))) < b → T (D + 6) 84 (113, [(0, zr 52), (1, zr 17), (2, zi (h : Int)), (3, zi b), (4, zi ((k : Int) + 1))], [], m) κ)
    (k4 : ¬ (h : Int) < (k : Int) → ¬ (k : Int) = 0 → wr ((m 55 k) + ((((((m 53 0) + (k : Int)) * (m 24 1)) + (0 * (m 24 2))) * 4096) + ((m 53 0) + (k : Int)))) < b → zB (zu m 52 6 (k : Int)) → T (D + 6) 84 (113, [(0, zr 52), (1, zr 17), (2, zi (h : Int)), (3, zi ((m 55 k) + ((((((m 53 0) + (k : Int)) * (m 24 1)) + (0 * (m 24 2))) * 4096) + ((m 53 0) + (k : Int))))), (4, zi ((k : Int) + 1))], [], (zu m 52 6 (k : Int))) κ) :
    T (D + 6) 84 (113, lo, [], m) κ := by
  have hb3 : (-2147483648) ≤ wr (Int.tdiv b 4096) ∧ wr (Int.tdiv b 4096) ≤ 2147483647 := wrB (Int.tdiv b 4096)
  have hb4 : 0 ≤ (m 53 0) ∧ (m 53 0) ≤ 99 := hB 53 0
  have hb5 : 0 ≤ (m 24 1) ∧ (m 24 1) ≤ 9 := hB 24 1
  have hb6 : 0 ≤ (((m 53 0) + (k : Int)) * (m 24 1)) ∧ (((m 53 0) + (k : Int)) * (m 24 1)) ≤ 981 := z_mulB ((m 53 0) + (k : Int)) (m 24 1) 109 9 981 (by omega) (by omega) (by omega) (by omega) rfl
  have hb7 : 0 ≤ (m 24 2) ∧ (m 24 2) ≤ 9 := hB 24 2
  have hb8 : (-2147483648) ≤ wr ((m 55 k) + ((((((m 53 0) + (k : Int)) * (m 24 1)) + (0 * (m 24 2))) * 4096) + ((m 53 0) + (k : Int)))) ∧ wr ((m 55 k) + ((((((m 53 0) + (k : Int)) * (m 24 1)) + (0 * (m 24 2))) * 4096) + ((m 53 0) + (k : Int)))) ≤ 2147483647 := wrB ((m 55 k) + ((((((m 53 0) + (k : Int)) * (m 24 1)) + (0 * (m 24 2))) * 4096) + ((m 53 0) + (k : Int))))
  have he0 : wr (h : Int) = (h : Int) := wr_id (by omega) (by omega)
  have he1 : wr (k : Int) = (k : Int) := wr_id (by omega) (by omega)
  have he2 : wr b = b := wr_id (by omega) (by omega)
  have he3 : (k : Int).toNat = k := by omega
  have he4 : wr ((((m 53 0) + (k : Int)) * (m 24 1)) + (0 * (m 24 2))) = ((((m 53 0) + (k : Int)) * (m 24 1)) + (0 * (m 24 2))) := wr_id (by omega) (by omega)
  have he5 : wr ((((((m 53 0) + (k : Int)) * (m 24 1)) + (0 * (m 24 2))) * 4096) + ((m 53 0) + (k : Int))) = ((((((m 53 0) + (k : Int)) * (m 24 1)) + (0 * (m 24 2))) * 4096) + ((m 53 0) + (k : Int))) := wr_id (by omega) (by omega)
  have key := @zb84_113r T hT D κ m h b k lo hlo
  simp only [he0, he1, he2, he3, he4, he5, Int.toNat_natCast] at key
  exact key
    (fun x0 => k1 x0 (zB_u hB trivial))
    (fun x0 => by refine ⟨?_, ?_⟩ <;> omega)
    (fun x0 x1 => k2 x0 x1 (zB_u hB (show 0 ≤ (k : Int) ∧ (k : Int) ≤ 9 from ⟨by omega, by omega⟩)))
    k3
    (fun x0 x1 x2 => k4 x0 x1 x2 (zB_u hB (show 0 ≤ (k : Int) ∧ (k : Int) ≤ 9 from ⟨by omega, by omega⟩)))
theorem zb86_0r (hT : zRules T) {D : Nat} {κ : Option zA → zM → Prop} {m : zM} {a : Int} {l : Int} {x : Int} 
    (o1 : ¬ wr a = wr x → ¬ wr l < wr x → wr (x + wr (m 24 0)) < wr l → T (D + 5) 86 (56, [(0, zr 52), (1, zr 17), (3, zi l), (4, zi x), (5, zi 2), (7, zi 0), (8, zi 0)], [], m) κ)
    (o2 : ¬ wr a = wr x → ¬ wr l < wr x → ¬ wr (x + wr (m 24 0)) < wr l → wr (l - x) < 0 → False)
    (o3 : ¬ wr a = wr x → ¬ wr l < wr x → ¬ wr (x + wr (m 24 0)) < wr l → ¬ wr (l - x) < 0 → 9 < wr (l - x) → False)
    (o4 : ¬ wr a = wr x → ¬ wr l < wr x → ¬ wr (x + wr (m 24 0)) < wr l → ¬ wr (l - x) < 0 → ¬ 9 < wr (l - x) → (0 ≤ wr (l - x) ∧ wr (l - x) < 10))
    (o5 : ¬ wr a = wr x → ¬ wr l < wr x → ¬ wr (x + wr (m 24 0)) < wr l → ¬ wr (l - x) < 0 → ¬ 9 < wr (l - x) → κ (some (zi (wr ((m 55 ((wr (l - x)).toNat)) + wr ((wr ((0 * (m 24 1)) + (1 * (m 24 2))) * 4096) + 0))))) m)
    (o6 : ¬ wr a = wr x → wr l < wr x → T (D + 5) 86 (56, [(0, zr 52), (1, zr 17), (3, zi l), (4, zi x), (5, zi 3), (7, zi 0), (8, zi 0)], [], m) κ)
    (o7 : wr a = wr x → wr (l - x) < 0 → T (D + 5) 86 (56, [(0, zr 52), (1, zr 17), (3, zi l), (4, zi x), (5, zi 0), (7, zi 0), (8, zi 0)], [], m) κ)
    (o8 : wr a = wr x → ¬ wr (l - x) < 0 → 9 < wr (l - x) → T (D + 5) 86 (56, [(0, zr 52), (1, zr 17), (3, zi l), (4, zi x), (5, zi 0), (7, zi 0), (8, zi 0)], [], m) κ)
    (o9 : wr a = wr x → ¬ wr (l - x) < 0 → ¬ 9 < wr (l - x) → (0 ≤ wr (l - x) ∧ wr (l - x) < 10))
    (o10 : wr a = wr x → ¬ wr (l - x) < 0 → ¬ 9 < wr (l - x) → κ (some (zi (wr ((m 55 ((wr (l - x)).toNat)) + wr ((wr ((0 * (m 24 1)) + (0 * (m 24 2))) * 4096) + 0))))) m) :
    T (D + 5) 86 (0, [(0, zr 52), (1, zr 17), (2, zi a), (3, zi l), (4, zi x)], [], m) κ :=
  hT.1 [(56, [0, 1, 3, 4, 5, 7, 8])] 6 (D + 5) 86 _ κ (hT.1 [] 6 (D + 4) 32 _ _ (And.intro (fun a1 => (And.intro (fun a3 => (hT.1 [] 6 (D + 4) 32 (14, [(0, zr 17), (1, zi a), (2, zi l), (3, zi x)], [], m) _ (hT.1 [] 6 (D + 3) 27 _ _ (And.intro (z_ixL rfl) (hT.1 [] 6 (D + 4) 32 _ _ (And.intro (fun a5 => (hT.1 [(56, [0, 1, 3, 4, 5, 7, 8])] 6 (D + 5) 86 _ _ (hT.1 [(56, [0, 1, 3, 4, 5, 7, 8])] 6 (D + 5) 86 (18, [(0, zr 52), (1, zr 17), (2, zi a), (3, zi l), (4, zi x), (5, zi 2), (6, zi (l - x))], [zi 2], m) _ (And.intro (fun _ => (o1 a1 a3 a5)) (fun a7 => (a7 (z_litT rfl)).elim))))) (fun a6 => (hT.1 [(56, [0, 1, 3, 4, 5, 7, 8])] 6 (D + 5) 86 _ _ (hT.1 [(56, [0, 1, 3, 4, 5, 7, 8])] 6 (D + 5) 86 (18, [(0, zr 52), (1, zr 17), (2, zi a), (3, zi l), (4, zi x), (5, zi 1), (6, zi (l - x))], [zi 1], m) _ (And.intro (fun a8 => (z_litF a8 rfl).elim) (fun _ => (And.intro (fun a9 => (o2 a1 a3 a6 a9).elim) (fun a10 => (hT.1 [(56, [0, 1, 3, 4, 5, 7, 8])] 6 (D + 5) 86 (31, [(0, zr 52), (1, zr 17), (2, zi a), (3, zi l), (4, zi x), (5, zi 1), (6, zi (l - x))], [zi 9, zi (l - x)], m) _ (And.intro (fun a11 => (o3 a1 a3 a6 a10 a11).elim) (fun a12 => (And.intro (o4 a1 a3 a6 a10 a12) (hT.1 [(56, [0, 1, 3, 4, 5, 7, 8])] 6 (D + 5) 86 (42, [(0, zr 52), (1, zr 17), (2, zi a), (3, zi l), (4, zi x), (5, zi 1), (6, zi (l - x))], [zr 17, zi (m 55 ((wr (l - x)).toNat))], m) _ (hT.1 [] 6 (D + 4) 85 _ _ (hT.1 [] 6 (D + 3) 33 _ _ (And.intro (z_ixL rfl) (hT.1 [] 6 (D + 3) 33 (8, [(0, zr 17), (1, zi 0), (2, zi 1)], [zi (0 * (m 24 1))], m) _ (And.intro (z_ixL rfl) (hT.1 [] 6 (D + 3) 33 (16, [(0, zr 17), (1, zi 0), (2, zi 1)], [zi (1 * (m 24 2)), zi (0 * (m 24 1))], m) _ (hT.1 [] 6 (D + 4) 85 _ _ (hT.1 [(56, [0, 1, 3, 4, 5, 7, 8])] 6 (D + 5) 86 _ _ (o5 a1 a3 a6 a10 a12))))))))))))))))))))))))))) (fun a4 => (hT.1 [] 6 (D + 4) 32 (12, [(0, zr 17), (1, zi a), (2, zi l), (3, zi x)], [], m) _ (hT.1 [(56, [0, 1, 3, 4, 5, 7, 8])] 6 (D + 5) 86 _ _ (hT.1 [(56, [0, 1, 3, 4, 5, 7, 8])] 6 (D + 5) 86 (18, [(0, zr 52), (1, zr 17), (2, zi a), (3, zi l), (4, zi x), (5, zi 3), (6, zi (l - x))], [zi 3], m) _ (And.intro (fun _ => (o6 a1 (Classical.byContradiction a4))) (fun a13 => (a13 (z_litT rfl)).elim)))))))) (fun a2 => (hT.1 [(56, [0, 1, 3, 4, 5, 7, 8])] 6 (D + 5) 86 _ _ (hT.1 [(56, [0, 1, 3, 4, 5, 7, 8])] 6 (D + 5) 86 (18, [(0, zr 52), (1, zr 17), (2, zi a), (3, zi l), (4, zi x), (5, zi 0), (6, zi (l - x))], [zi 0], m) _ (And.intro (fun a14 => (z_litF a14 rfl).elim) (fun _ => (And.intro (fun a15 => (hT.1 [(56, [0, 1, 3, 4, 5, 7, 8])] 6 (D + 5) 86 (53, [(0, zr 52), (1, zr 17), (2, zi a), (3, zi l), (4, zi x), (5, zi 0), (6, zi (l - x)), (7, zi 0)], [], m) _ (o7 (Classical.byContradiction a2) a15))) (fun a16 => (hT.1 [(56, [0, 1, 3, 4, 5, 7, 8])] 6 (D + 5) 86 (31, [(0, zr 52), (1, zr 17), (2, zi a), (3, zi l), (4, zi x), (5, zi 0), (6, zi (l - x))], [zi 9, zi (l - x)], m) _ (And.intro (fun a17 => (o8 (Classical.byContradiction a2) a16 a17)) (fun a18 => (And.intro (o9 (Classical.byContradiction a2) a16 a18) (hT.1 [(56, [0, 1, 3, 4, 5, 7, 8])] 6 (D + 5) 86 (42, [(0, zr 52), (1, zr 17), (2, zi a), (3, zi l), (4, zi x), (5, zi 0), (6, zi (l - x))], [zr 17, zi (m 55 ((wr (l - x)).toNat))], m) _ (hT.1 [] 6 (D + 4) 85 _ _ (hT.1 [] 6 (D + 3) 33 _ _ (And.intro (z_ixL rfl) (hT.1 [] 6 (D + 3) 33 (8, [(0, zr 17), (1, zi 0), (2, zi 0)], [zi (0 * (m 24 1))], m) _ (And.intro (z_ixL rfl) (hT.1 [] 6 (D + 3) 33 (16, [(0, zr 17), (1, zi 0), (2, zi 0)], [zi (0 * (m 24 2)), zi (0 * (m 24 1))], m) _ (hT.1 [] 6 (D + 4) 85 _ _ (hT.1 [(56, [0, 1, 3, 4, 5, 7, 8])] 6 (D + 5) 86 _ _ (o10 (Classical.byContradiction a2) a16 a18)))))))))))))))))))))))
theorem zb86_0 (hT : zRules T) {D : Nat} {κ : Option zA → zM → Prop} {m : zM} {a : Int} {l : Int} {x : Int}  (hB : zB m) (h_a : 0 ≤ a ∧ a ≤ 99) (h_l : 0 ≤ l ∧ l ≤ 108) (h_x : 0 ≤ x ∧ x ≤ 99) 
    (k1 : ¬ a = x → ¬ l < x → (x + (m 24 0)) < l → T (D + 5) 86 (56, [(0, zr 52), (1, zr 17), (3, zi l), (4, zi x), (5, zi 2), (7, zi 0), (8, zi 0)], [], m) κ)
    (k2 : ¬ a = x → ¬ l < x → ¬ (x + (m 24 0)) < l → κ (some (zi (wr ((m 55 ((l - x).toNat)) + ((((0 * (m 24 1)) + (1 * (m 24 2))) * 4096) + 0))))) m)
    (k3 : ¬ a = x → l < x → T (D + 5) 86 (56, [(0, zr 52), (1, zr 17), (3, zi l), (4, zi x), (5, zi 3), (7, zi 0), (8, zi 0)], [], m) κ)
    (k4 : a = x → (l - x) < 0 → T (D + 5) 86 (56, [(0, zr 52), (1, zr 17), (3, zi l), (4, zi x), (5, zi 0), (7, zi 0), (8, zi 0)], [], m) κ)
    (k5 : a = x → ¬ (l - x) < 0 → 9 < (l - x) → T (D + 5) 86 (56, [(0, zr 52), (1, zr 17), (3, zi l), (4, zi x), (5, zi 0), (7, zi 0), (8, zi 0)], [], m) κ)
    (k6 : a = x → ¬ (l - x) < 0 → ¬ 9 < (l - x) → κ (some (zi (wr ((m 55 ((l - x).toNat)) + ((((0 * (m 24 1)) + (0 * (m 24 2))) * 4096) + 0))))) m) :
    T (D + 5) 86 (0, [(0, zr 52), (1, zr 17), (2, zi a), (3, zi l), (4, zi x)], [], m) κ := by
  have hb3 : 0 ≤ (m 24 1) ∧ (m 24 1) ≤ 9 := hB 24 1
  have hb4 : 0 ≤ (m 24 2) ∧ (m 24 2) ≤ 9 := hB 24 2
  have hb5 : (-2147483648) ≤ wr ((m 55 ((l - x).toNat)) + ((((0 * (m 24 1)) + (0 * (m 24 2))) * 4096) + 0)) ∧ wr ((m 55 ((l - x).toNat)) + ((((0 * (m 24 1)) + (0 * (m 24 2))) * 4096) + 0)) ≤ 2147483647 := wrB ((m 55 ((l - x).toNat)) + ((((0 * (m 24 1)) + (0 * (m 24 2))) * 4096) + 0))
  have hb6 : 0 ≤ (m 24 0) ∧ (m 24 0) ≤ 9 := hB 24 0
  have hb7 : (-2147483648) ≤ wr ((m 55 ((l - x).toNat)) + ((((0 * (m 24 1)) + (1 * (m 24 2))) * 4096) + 0)) ∧ wr ((m 55 ((l - x).toNat)) + ((((0 * (m 24 1)) + (1 * (m 24 2))) * 4096) + 0)) ≤ 2147483647 := wrB ((m 55 ((l - x).toNat)) + ((((0 * (m 24 1)) + (1 * (m 24 2))) * 4096) + 0))
  have he0 : wr a = a := wr_id (by omega) (by omega)
  have he1 : wr x = x := wr_id (by omega) (by omega)
  have he2 : wr (l - x) = (l - x) := wr_id (by omega) (by omega)
  have he3 : wr ((0 * (m 24 1)) + (0 * (m 24 2))) = ((0 * (m 24 1)) + (0 * (m 24 2))) := wr_id (by omega) (by omega)
  have he4 : wr ((((0 * (m 24 1)) + (0 * (m 24 2))) * 4096) + 0) = ((((0 * (m 24 1)) + (0 * (m 24 2))) * 4096) + 0) := wr_id (by omega) (by omega)
  have he5 : wr l = l := wr_id (by omega) (by omega)
  have he6 : wr (m 24 0) = (m 24 0) := wr_id (by omega) (by omega)
  have he7 : wr (x + (m 24 0)) = (x + (m 24 0)) := wr_id (by omega) (by omega)
  have he8 : wr ((0 * (m 24 1)) + (1 * (m 24 2))) = ((0 * (m 24 1)) + (1 * (m 24 2))) := wr_id (by omega) (by omega)
  have he9 : wr ((((0 * (m 24 1)) + (1 * (m 24 2))) * 4096) + 0) = ((((0 * (m 24 1)) + (1 * (m 24 2))) * 4096) + 0) := wr_id (by omega) (by omega)
  have key := @zb86_0r T hT D κ m a l x
  simp only [he0, he1, he2, he3, he4, he5, he6, he7, he8, he9, Int.toNat_natCast] at key
  exact key
    k1
    (fun x0 x1 x2 x3 => by omega)
    (fun x0 x1 x2 x3 x4 => by omega)
    (fun x0 x1 x2 x3 x4 => by refine ⟨?_, ?_⟩ <;> omega)
    (fun x0 x1 x2 x3 x4 => k2 x0 x1 x2)
    k3
    k4
    k5
    (fun x0 x1 x2 => by refine ⟨?_, ?_⟩ <;> omega)
    k6
theorem zb86_56r (hT : zRules T) {D : Nat} {κ : Option zA → zM → Prop} {m : zM} {l : Int} {x : Int} {w : Int} {b : Int} {k : Nat} {lo : zL} (hlo : z_keep [0, 1, 3, 4, 5, 7, 8] lo = [(0, zr 52), (1, zr 17), (3, zi l), (4, zi x), (5, zi w), (7, zi b), (8, zi (k : Int))]) 
    (o1 : wr (wr (m 24 0)) < wr (k : Int) → κ (some (zi (wr b))) m)
    (o2 : ¬ wr (wr (m 24 0)) < wr (k : Int) → ¬ wr w = 3 → (0 ≤ wr (k : Int) ∧ wr (k : Int) < 10))
    (o3 : ¬ wr (wr (m 24 0)) < wr (k : Int) → ¬ wr w = 3 → wr (k : Int) = 0 → T (D + 5) 86 (56, [(0, zr 52), (1, zr 17), (3, zi l), (4, zi x), (5, zi w), (7, zi ((m 55 ((wr (k : Int)).toNat)) + wr ((wr ((0 * (m 24 1)) + (w * (m 24 2))) * 4096) + 0))), (8, zi ((k : Int) + 1))], [], m) κ)
    (o4 : ¬ wr (wr (m 24 0)) < wr (k : Int) → ¬ wr w = 3 → ¬ wr (k : Int) = 0 → ¬ wr ((m 55 ((wr (k : Int)).toNat)) + wr ((wr ((0 * (m 24 1)) + (w * (m 24 2))) * 4096) + 0)) < wr b → T (D + 5) 86 (56, [(0, zr 52), (1, zr 17), (3, zi l), (4, zi x), (5, zi w), (7, zi b), (8, zi ((k : Int) + 1))], [], m) κ)
    (o5 : ¬ wr (wr (m 24 0)) < wr (k : Int) → ¬ wr w = 3 → ¬ wr (k : Int) = 0 → wr ((m 55 ((wr (k : Int)).toNat)) + wr ((wr ((0 * (m 24 1)) + (w * (m 24 2))) * 4096) + 0)) < wr b → T (D + 5) 86 (56, [(0, zr 52), (1, zr 17), (3, zi l), (4, zi x), (5, zi w), (7, zi ((m 55 ((wr (k : Int)).toNat)) + wr ((wr ((0 * (m 24 1)) + (w * (m 24 2))) * 4096) + 0))), (8, zi ((k : Int) + 1))], [], m) κ)
    (o6 : ¬ wr (wr (m 24 0)) < wr (k : Int) → wr w = 3 → (0 ≤ wr (k : Int) ∧ wr (k : Int) < 10))
    (o7 : ¬ wr (wr (m 24 0)) < wr (k : Int) → wr w = 3 → wr (k : Int) = 0 → T (D + 5) 86 (56, [(0, zr 52), (1, zr 17), (3, zi l), (4, zi x), (5, zi w), (7, zi ((m 55 ((wr (k : Int)).toNat)) + wr ((wr ((((x - l) + (k : Int)) * (m 24 1)) + (w * (m 24 2))) * 4096) + ((x - l) + (k : Int))))), (8, zi ((k : Int) + 1))], [], m) κ)
    (o8 : ¬ wr (wr (m 24 0)) < wr (k : Int) → wr w = 3 → ¬ wr (k : Int) = 0 → ¬ wr ((m 55 ((wr (k : Int)).toNat)) + wr ((wr ((((x - l) + (k : Int)) * (m 24 1)) + (w * (m 24 2))) * 4096) + ((x - l) + (k : Int)))) < wr b → T (D + 5) 86 (56, [(0, zr 52), (1, zr 17), (3, zi l), (4, zi x), (5, zi w), (7, zi b), (8, zi ((k : Int) + 1))], [], m) κ)
    (o9 : ¬ wr (wr (m 24 0)) < wr (k : Int) → wr w = 3 → ¬ wr (k : Int) = 0 → wr ((m 55 ((wr (k : Int)).toNat)) + wr ((wr ((((x - l) + (k : Int)) * (m 24 1)) + (w * (m 24 2))) * 4096) + ((x - l) + (k : Int)))) < wr b → T (D + 5) 86 (56, [(0, zr 52), (1, zr 17), (3, zi l), (4, zi x), (5, zi w), (7, zi ((m 55 ((wr (k : Int)).toNat)) + wr ((wr ((((x - l) + (k : Int)) * (m 24 1)) + (w * (m 24 2))) * 4096) + ((x - l) + (k : Int))))), (8, zi ((k : Int) + 1))], [], m) κ) :
    T (D + 5) 86 (56, lo, [], m) κ :=
  zkeep hT hlo (hT.1 [(56, [0, 1, 3, 4, 5, 7, 8])] 6 (D + 5) 86 _ κ (hT.1 [] 6 (D + 4) 27 _ _ (And.intro (z_ixL rfl) (hT.1 [(56, [0, 1, 3, 4, 5, 7, 8])] 6 (D + 5) 86 _ _ (And.intro (fun a1 => (o1 a1)) (fun a2 => (And.intro (fun a3 => (hT.1 [(56, [0, 1, 3, 4, 5, 7, 8])] 6 (D + 5) 86 (84, [(0, zr 52), (1, zr 17), (3, zi l), (4, zi x), (5, zi w), (7, zi b), (8, zi (k : Int)), (9, zi 0)], [], m) _ (And.intro (o2 a2 a3) (hT.1 [(56, [0, 1, 3, 4, 5, 7, 8])] 6 (D + 5) 86 (94, [(0, zr 52), (1, zr 17), (3, zi l), (4, zi x), (5, zi w), (7, zi b), (8, zi (k : Int)), (9, zi 0)], [zi 0, zr 17, zi (m 55 ((wr (k : Int)).toNat))], m) _ (hT.1 [] 6 (D + 4) 85 _ _ (hT.1 [] 6 (D + 3) 33 _ _ (And.intro (z_ixL rfl) (hT.1 [] 6 (D + 3) 33 (8, [(0, zr 17), (1, zi 0), (2, zi w)], [zi (0 * (m 24 1))], m) _ (And.intro (z_ixL rfl) (hT.1 [] 6 (D + 3) 33 (16, [(0, zr 17), (1, zi 0), (2, zi w)], [zi (w * (m 24 2)), zi (0 * (m 24 1))], m) _ (hT.1 [] 6 (D + 4) 85 _ _ (hT.1 [(56, [0, 1, 3, 4, 5, 7, 8])] 6 (D + 5) 86 _ _ (And.intro (fun a5 => (hT.1 [(56, [0, 1, 3, 4, 5, 7, 8])] 6 (D + 5) 86 (118, [(0, zr 52), (1, zr 17), (3, zi l), (4, zi x), (5, zi w), (7, zi ((m 55 ((wr (k : Int)).toNat)) + wr ((wr ((0 * (m 24 1)) + (w * (m 24 2))) * 4096) + 0))), (8, zi (k : Int)), (9, zi 0), (10, zi ((m 55 ((wr (k : Int)).toNat)) + wr ((wr ((0 * (m 24 1)) + (w * (m 24 2))) * 4096) + 0)))], [], m) _ (o3 a2 a3 a5))) (fun a6 => (hT.1 [(56, [0, 1, 3, 4, 5, 7, 8])] 6 (D + 5) 86 (111, [(0, zr 52), (1, zr 17), (3, zi l), (4, zi x), (5, zi w), (7, zi b), (8, zi (k : Int)), (9, zi 0), (10, zi ((m 55 ((wr (k : Int)).toNat)) + wr ((wr ((0 * (m 24 1)) + (w * (m 24 2))) * 4096) + 0)))], [zi b, zi ((m 55 ((wr (k : Int)).toNat)) + wr ((wr ((0 * (m 24 1)) + (w * (m 24 2))) * 4096) + 0))], m) _ (And.intro (fun a7 => (o4 a2 a3 a6 a7)) (fun a8 => (o5 a2 a3 a6 (Classical.byContradiction a8))))))))))))))))))) (fun a4 => (hT.1 [(56, [0, 1, 3, 4, 5, 7, 8])] 6 (D + 5) 86 (74, [(0, zr 52), (1, zr 17), (3, zi l), (4, zi x), (5, zi w), (7, zi b), (8, zi (k : Int))], [zi l, zi x], m) _ (hT.1 [(56, [0, 1, 3, 4, 5, 7, 8])] 6 (D + 5) 86 (85, [(0, zr 52), (1, zr 17), (3, zi l), (4, zi x), (5, zi w), (7, zi b), (8, zi (k : Int)), (9, zi ((x - l) + (k : Int)))], [zr 52], m) _ (And.intro (o6 a2 (Classical.byContradiction a4)) (hT.1 [(56, [0, 1, 3, 4, 5, 7, 8])] 6 (D + 5) 86 (96, [(0, zr 52), (1, zr 17), (3, zi l), (4, zi x), (5, zi w), (7, zi b), (8, zi (k : Int)), (9, zi ((x - l) + (k : Int)))], [zi w, zi ((x - l) + (k : Int)), zr 17, zi (m 55 ((wr (k : Int)).toNat))], m) _ (hT.1 [] 6 (D + 4) 85 _ _ (hT.1 [] 6 (D + 3) 33 _ _ (And.intro (z_ixL rfl) (hT.1 [] 6 (D + 3) 33 (8, [(0, zr 17), (1, zi ((x - l) + (k : Int))), (2, zi w)], [zi (((x - l) + (k : Int)) * (m 24 1))], m) _ (And.intro (z_ixL rfl) (hT.1 [] 6 (D + 3) 33 (16, [(0, zr 17), (1, zi ((x - l) + (k : Int))), (2, zi w)], [zi (w * (m 24 2)), zi (((x - l) + (k : Int)) * (m 24 1))], m) _ (hT.1 [] 6 (D + 4) 85 _ _ (hT.1 [(56, [0, 1, 3, 4, 5, 7, 8])] 6 (D + 5) 86 _ _ (And.intro (fun a9 => (hT.1 [(56, [0, 1, 3, 4, 5, 7, 8])] 6 (D + 5) 86 (118, [(0, zr 52), (1, zr 17), (3, zi l), (4, zi x), (5, zi w), (7, zi ((m 55 ((wr (k : Int)).toNat)) + wr ((wr ((((x - l) + (k : Int)) * (m 24 1)) + (w * (m 24 2))) * 4096) + ((x - l) + (k : Int))))), (8, zi (k : Int)), (9, zi ((x - l) + (k : Int))), (10, zi ((m 55 ((wr (k : Int)).toNat)) + wr ((wr ((((x - l) + (k : Int)) * (m 24 1)) + (w * (m 24 2))) * 4096) + ((x - l) + (k : Int)))))], [], m) _ (o7 a2 (Classical.byContradiction a4) a9))) (fun a10 => (hT.1 [(56, [0, 1, 3, 4, 5, 7, 8])] 6 (D + 5) 86 (111, [(0, zr 52), (1, zr 17), (3, zi l), (4, zi x), (5, zi w), (7, zi b), (8, zi (k : Int)), (9, zi ((x - l) + (k : Int))), (10, zi ((m 55 ((wr (k : Int)).toNat)) + wr ((wr ((((x - l) + (k : Int)) * (m 24 1)) + (w * (m 24 2))) * 4096) + ((x - l) + (k : Int)))))], [zi b, zi ((m 55 ((wr (k : Int)).toNat)) + wr ((wr ((((x - l) + (k : Int)) * (m 24 1)) + (w * (m 24 2))) * 4096) + ((x - l) + (k : Int))))], m) _ (And.intro (fun a11 => (o8 a2 (Classical.byContradiction a4) a10 a11)) (fun a12 => (o9 a2 (Classical.byContradiction a4) a10 (Classical.byContradiction a12)))))))))))))))))))))))))))
theorem zb86_56 (hT : zRules T) {D : Nat} {κ : Option zA → zM → Prop} {m : zM} {l : Int} {x : Int} {w : Int} {b : Int} {k : Nat} {lo : zL} (hlo : z_keep [0, 1, 3, 4, 5, 7, 8] lo = [(0, zr 52), (1, zr 17), (3, zi l), (4, zi x), (5, zi w), (7, zi b), (8, zi (k : Int))])  (hB : zB m) (h_l : 0 ≤ l ∧ l ≤ 108) (h_x : 0 ≤ x ∧ x ≤ 99) (h_w : 0 ≤ w ∧ w ≤ 3) (h_b : (-2147483648) ≤ b ∧ b ≤ 2147483647) (h_k : k ≤ 10) 
    (k1 : (m 24 0) < (k : Int) → κ (some (zi b)) m)
    (k2 : ¬ (m 24 0) < (k : Int) → ¬ w = 3 → (k : Int) = 0 → T (D + 5) 86 (56, [(0, zr 52), (1, zr 17), (3, zi l), (4, zi x), (5, zi w), (7, zi ((m 55 k) + ((((0 * (m 24 1)) + (w * (m 24 2))) * 4096) + 0))), (8, zi ((k : Int) + 1))], [], m) κ)
    (k3 : ¬ (m 24 0) < (k : Int) → ¬ w = 3 → ¬ (k : Int) = 0 → ¬ wr ((m 55 k) + ((((0 * (m 24 1)) + (w * (m 24 2))) * 4096) + 0)) < b → T (D + 5) 86 (56, [(0, zr 52), (1, zr 17), (3, zi l), (4, zi x), (5, zi w), (7, zi b), (8, zi ((k : Int) + 1))], [], m) κ)
    (k4 : ¬ (m 24 0) < (k : Int) → ¬ w = 3 → ¬ (k : Int) = 0 → wr ((m 55 k) + ((((0 * (m 24 1)) + (w * (m 24 2))) * 4096) + 0)) < b → T (D + 5) 86 (56, [(0, zr 52), (1, zr 17), (3, zi l), (4, zi x), (5, zi w), (7, zi ((m 55 k) + ((((0 * (m 24 1)) + (w * (m 24 2))) * 4096) + 0))), (8, zi ((k : Int) + 1))], [], m) κ)
    (k5 : ¬ (m 24 0) < (k : Int) → w = 3 → (k : Int) = 0 → T (D + 5) 86 (56, [(0, zr 52), (1, zr 17), (3, zi l), (4, zi x), (5, zi w), (7, zi ((m 55 k) + wr ((wr ((((x - l) + (k : Int)) * (m 24 1)) + (w * (m 24 2))) * 4096) + ((x - l) + (k : Int))))), (8, zi ((k : Int) + 1))], [], m) κ)
    (k6 : ¬ (m 24 0) < (k : Int) → w = 3 → ¬ (k : Int) = 0 → ¬ wr ((m 55 k) + wr ((wr ((((x - l) + (k : Int)) * (m 24 1)) + (w * (m 24 2))) * 4096) + ((x - l) + (k : Int)))) < b → T (D + 5) 86 (56, [(0, zr 52), (1, zr 17), (3, zi l), (4, zi x), (5, zi w), (7, zi b), (8, zi ((k : Int) + 1))], [], m) κ)
    (k7 : ¬ (m 24 0) < (k : Int) → w = 3 → ¬ (k : Int) = 0 → wr ((m 55 k) + wr ((wr ((((x - l) + (k : Int)) * (m 24 1)) + (w * (m 24 2))) * 4096) + ((x - l) + (k : Int)))) < b → T (D + 5) 86 (56, [(0, zr 52), (1, zr 17), (3, zi l), (4, zi x), (5, zi w), (7, zi ((m 55 k) + wr ((wr ((((x - l) + (k : Int)) * (m 24 1)) + (w * (m 24 2))) * 4096) + ((x - l) + (k : Int))))), (8, zi ((k : Int) + 1))], [], m) κ) :
    T (D + 5) 86 (56, lo, [], m) κ := by
  have hb5 : 0 ≤ (m 24 0) ∧ (m 24 0) ≤ 9 := hB 24 0
  have hb6 : 0 ≤ (m 24 1) ∧ (m 24 1) ≤ 9 := hB 24 1
  have hb7 : 0 ≤ (m 24 2) ∧ (m 24 2) ≤ 9 := hB 24 2
  have hb8 : 0 ≤ (w * (m 24 2)) ∧ (w * (m 24 2)) ≤ 27 := z_mulB w (m 24 2) 3 9 27 (by omega) (by omega) (by omega) (by omega) rfl
  have hb9 : (-2147483648) ≤ wr ((((x - l) + (k : Int)) * (m 24 1)) + (w * (m 24 2))) ∧ wr ((((x - l) + (k : Int)) * (m 24 1)) + (w * (m 24 2))) ≤ 2147483647 := wrB ((((x - l) + (k : Int)) * (m 24 1)) + (w * (m 24 2)))
  have hb10 : (-2147483648) ≤ wr ((wr ((((x - l) + (k : Int)) * (m 24 1)) + (w * (m 24 2))) * 4096) + ((x - l) + (k : Int))) ∧ wr ((wr ((((x - l) + (k : Int)) * (m 24 1)) + (w * (m 24 2))) * 4096) + ((x - l) + (k : Int))) ≤ 2147483647 := wrB ((wr ((((x - l) + (k : Int)) * (m 24 1)) + (w * (m 24 2))) * 4096) + ((x - l) + (k : Int)))
  have hb11 : (-2147483648) ≤ wr ((m 55 k) + wr ((wr ((((x - l) + (k : Int)) * (m 24 1)) + (w * (m 24 2))) * 4096) + ((x - l) + (k : Int)))) ∧ wr ((m 55 k) + wr ((wr ((((x - l) + (k : Int)) * (m 24 1)) + (w * (m 24 2))) * 4096) + ((x - l) + (k : Int)))) ≤ 2147483647 := wrB ((m 55 k) + wr ((wr ((((x - l) + (k : Int)) * (m 24 1)) + (w * (m 24 2))) * 4096) + ((x - l) + (k : Int))))
  have hb12 : (-2147483648) ≤ wr ((m 55 k) + ((((0 * (m 24 1)) + (w * (m 24 2))) * 4096) + 0)) ∧ wr ((m 55 k) + ((((0 * (m 24 1)) + (w * (m 24 2))) * 4096) + 0)) ≤ 2147483647 := wrB ((m 55 k) + ((((0 * (m 24 1)) + (w * (m 24 2))) * 4096) + 0))
  have he0 : wr (m 24 0) = (m 24 0) := wr_id (by omega) (by omega)
  have he1 : wr (k : Int) = (k : Int) := wr_id (by omega) (by omega)
  have he2 : wr b = b := wr_id (by omega) (by omega)
  have he3 : wr w = w := wr_id (by omega) (by omega)
  have he4 : (k : Int).toNat = k := by omega
  have he5 : wr ((0 * (m 24 1)) + (w * (m 24 2))) = ((0 * (m 24 1)) + (w * (m 24 2))) := wr_id (by omega) (by omega)
  have he6 : wr ((((0 * (m 24 1)) + (w * (m 24 2))) * 4096) + 0) = ((((0 * (m 24 1)) + (w * (m 24 2))) * 4096) + 0) := wr_id (by omega) (by omega)
  have key := @zb86_56r T hT D κ m l x w b k lo hlo
  simp only [he0, he1, he2, he3, he4, he5, he6, Int.toNat_natCast] at key
  exact key
    k1
    (fun x0 x1 => by refine ⟨?_, ?_⟩ <;> omega)
    k2
    k3
    k4
    (fun x0 x1 => by refine ⟨?_, ?_⟩ <;> omega)
    k5
    k6
    k7
theorem zb258_0r (hT : zRules T) {D : Nat} {κ : Option zA → zM → Prop} {m : zM} {p : Int} {n : Int} 
    (o1 : wr p < 0 → κ (some (zi (-1))) (zu m 74 12 0))
    (o2 : ¬ wr p < 0 → wr ((m 74 4) - 1) < wr p → κ (some (zi (-1))) (zu m 74 12 0))
    (o3 : ¬ wr p < 0 → ¬ wr ((m 74 4) - 1) < wr p → wr n < 1 → κ (some (zi (-1))) (zu m 74 12 0))
    (o4 : ¬ wr p < 0 → ¬ wr ((m 74 4) - 1) < wr p → ¬ wr n < 1 → 20 < wr n → κ (some (zi (-1))) (zu m 74 12 0))
    (o5 : ¬ wr p < 0 → ¬ wr ((m 74 4) - 1) < wr p → ¬ wr n < 1 → ¬ 20 < wr n → T (D + 5) 258 (27, [(0, zr 74), (1, zi p), (2, zi n), (3, zi 0)], [], (zu m 74 12 0)) κ) :
    T (D + 5) 258 (0, [(0, zr 74), (1, zi p), (2, zi n)], [], m) κ :=
  hT.1 [(27, [0, 1, 2, 3]), (57, [0, 1, 3]), (64, [0, 1, 3, 4]), (125, [0, 1, 3, 5, 6])] 6 (D + 5) 258 _ κ (And.intro trivial (hT.1 [] 6 (D + 4) 190 _ _ (hT.1 [] 6 (D + 4) 190 (8, [(0, zr 74), (1, zi p)], [zi ((m 74 4) - 1), zi 0, zi p], (zu m 74 12 0)) _ (hT.1 [] 6 (D + 3) 186 _ _ (And.intro (fun a1 => (And.intro (z_b01L rfl) (hT.1 [] 6 (D + 4) 190 _ _ (And.intro (z_b01L rfl) (hT.1 [(27, [0, 1, 2, 3]), (57, [0, 1, 3]), (64, [0, 1, 3, 4]), (125, [0, 1, 3, 5, 6])] 6 (D + 5) 258 _ _ (And.intro (fun _ => (o1 a1)) (fun a3 => (a3 (z_litT rfl)).elim))))))) (fun a2 => (And.intro (fun a4 => (hT.1 [] 6 (D + 3) 186 (14, [(0, zi p), (1, zi 0), (2, zi ((m 74 4) - 1))], [], (zu m 74 12 0)) _ (And.intro (z_b01L rfl) (hT.1 [] 6 (D + 4) 190 _ _ (And.intro (z_b01L rfl) (hT.1 [(27, [0, 1, 2, 3]), (57, [0, 1, 3]), (64, [0, 1, 3, 4]), (125, [0, 1, 3, 5, 6])] 6 (D + 5) 258 _ _ (And.intro (fun _ => (o2 a2 a4)) (fun a6 => (a6 (z_litT rfl)).elim)))))))) (fun a5 => (hT.1 [] 6 (D + 3) 186 (10, [(0, zi p), (1, zi 0), (2, zi ((m 74 4) - 1))], [], (zu m 74 12 0)) _ (And.intro (z_b01L rfl) (hT.1 [] 6 (D + 4) 190 _ _ (And.intro (z_b01L rfl) (hT.1 [(27, [0, 1, 2, 3]), (57, [0, 1, 3]), (64, [0, 1, 3, 4]), (125, [0, 1, 3, 5, 6])] 6 (D + 5) 258 _ _ (And.intro (fun a7 => (z_litF a7 rfl).elim) (fun _ => (hT.1 [] 6 (D + 4) 186 _ _ (And.intro (fun a8 => (And.intro (z_b01L rfl) (hT.1 [(27, [0, 1, 2, 3]), (57, [0, 1, 3]), (64, [0, 1, 3, 4]), (125, [0, 1, 3, 5, 6])] 6 (D + 5) 258 _ _ (And.intro (fun a10 => (z_litF a10 rfl).elim) (fun _ => (o3 a2 a5 a8)))))) (fun a9 => (And.intro (fun a11 => (hT.1 [] 6 (D + 4) 186 (14, [(0, zi n), (1, zi 1), (2, zi 20)], [], (zu m 74 12 0)) _ (And.intro (z_b01L rfl) (hT.1 [(27, [0, 1, 2, 3]), (57, [0, 1, 3]), (64, [0, 1, 3, 4]), (125, [0, 1, 3, 5, 6])] 6 (D + 5) 258 _ _ (And.intro (fun a13 => (z_litF a13 rfl).elim) (fun _ => (o4 a2 a5 a9 a11))))))) (fun a12 => (hT.1 [] 6 (D + 4) 186 (10, [(0, zi n), (1, zi 1), (2, zi 20)], [], (zu m 74 12 0)) _ (And.intro (z_b01L rfl) (hT.1 [(27, [0, 1, 2, 3]), (57, [0, 1, 3]), (64, [0, 1, 3, 4]), (125, [0, 1, 3, 5, 6])] 6 (D + 5) 258 _ _ (And.intro (fun _ => (o5 a2 a5 a9 a12)) (fun a14 => (a14 (z_litT rfl)).elim)))))))))))))))))))))))))
theorem zb258_0 (hT : zRules T) {D : Nat} {κ : Option zA → zM → Prop} {m : zM} {p : Int} {n : Int}  (hB : zB m) (h_p : (-2147483648) ≤ p ∧ p ≤ 2147483647) (h_n : (-2147483648) ≤ n ∧ n ≤ 2147483647) 
    (k1 : p < 0 → zB (zu m 74 12 0) → κ (some (zi (-1))) (zu m 74 12 0))
    (k2 : ¬ p < 0 → ((m 74 4) - 1) < p → zB (zu m 74 12 0) → κ (some (zi (-1))) (zu m 74 12 0))
    (k3 : ¬ p < 0 → ¬ ((m 74 4) - 1) < p → n < 1 → zB (zu m 74 12 0) → κ (some (zi (-1))) (zu m 74 12 0))
    (k4 : ¬ p < 0 → ¬ ((m 74 4) - 1) < p → ¬ n < 1 → 20 < n → zB (zu m 74 12 0) → κ (some (zi (-1))) (zu m 74 12 0))
    (k5 : ¬ p < 0 → ¬ ((m 74 4) - 1) < p → ¬ n < 1 → ¬ 20 < n → zB (zu m 74 12 0) → T (D + 5) 258 (27, [(0, zr 74), (1, zi p), (2, zi n), (3, zi 0)], [], (zu m 74 12 0)) κ) :
    T (D + 5) 258 (0, [(0, zr 74), (1, zi p), (2, zi n)], [], m) κ := by
  have hb2 : 0 ≤ (m 74 4) ∧ (m 74 4) ≤ 6 := hB 74 4
  have he0 : wr p = p := wr_id (by omega) (by omega)
  have he1 : wr ((m 74 4) - 1) = ((m 74 4) - 1) := wr_id (by omega) (by omega)
  have he2 : wr n = n := wr_id (by omega) (by omega)
  have key := @zb258_0r T hT D κ m p n
  simp only [he0, he1, he2, Int.toNat_natCast] at key
  exact key
    (fun x0 => k1 x0 (zB_u hB trivial))
    (fun x0 x1 => k2 x0 x1 (zB_u hB trivial))
    (fun x0 x1 x2 => k3 x0 x1 x2 (zB_u hB trivial))
    (fun x0 x1 x2 x3 => k4 x0 x1 x2 x3 (zB_u hB trivial))
    (fun x0 x1 x2 x3 => k5 x0 x1 x2 x3 (zB_u hB trivial))
theorem zb258_27r (hT : zRules T) {D : Nat} {κ : Option zA → zM → Prop} {m : zM} {p : Nat} {n : Nat} {i : Nat} {lo : zL} (hlo : z_keep [0, 1, 2, 3] lo = [(0, zr 74), (1, zi (p : Int)), (2, zi (n : Int)), (3, zi (i : Int))]) 
    (o1 : ¬ wr (i : Int) < 10 → T (D + 5) 258 (57, [(0, zr 74), (1, zi (p : Int)), (3, zi ((n : Int) - 2))], [], m) κ)
    (o2 : wr (i : Int) < 10 → (0 ≤ wr ((10 * ((n : Int) - 1)) + (i : Int)) ∧ wr ((10 * ((n : Int) - 1)) + (i : Int)) < 210))
    (o3 : wr (i : Int) < 10 → T (D + 5) 258 (27, [(0, zr 74), (1, zi (p : Int)), (2, zi (n : Int)), (3, zi ((i : Int) + 1))], [], (zu m 93 ((wr ((10 * ((n : Int) - 1)) + (i : Int))).toNat) 0)) κ) :
    T (D + 5) 258 (27, lo, [], m) κ :=
  zkeep hT hlo (hT.1 [(27, [0, 1, 2, 3]), (57, [0, 1, 3]), (64, [0, 1, 3, 4]), (125, [0, 1, 3, 5, 6])] 6 (D + 5) 258 _ κ (And.intro (fun a1 => (hT.1 [(27, [0, 1, 2, 3]), (57, [0, 1, 3]), (64, [0, 1, 3, 4]), (125, [0, 1, 3, 5, 6])] 6 (D + 5) 258 (56, [(0, zr 74), (1, zi (p : Int)), (2, zi (n : Int)), (3, zi (i : Int))], [zi ((n : Int) - 2)], m) _ (o1 a1))) (fun a2 => (hT.1 [(27, [0, 1, 2, 3]), (57, [0, 1, 3]), (64, [0, 1, 3, 4]), (125, [0, 1, 3, 5, 6])] 6 (D + 5) 258 (39, [(0, zr 74), (1, zi (p : Int)), (2, zi (n : Int)), (3, zi (i : Int))], [zi 10, zr 93], m) _ (hT.1 [(27, [0, 1, 2, 3]), (57, [0, 1, 3]), (64, [0, 1, 3, 4]), (125, [0, 1, 3, 5, 6])] 6 (D + 5) 258 (45, [(0, zr 74), (1, zi (p : Int)), (2, zi (n : Int)), (3, zi (i : Int))], [zi ((10 * ((n : Int) - 1)) + (i : Int)), zr 93], m) _ (And.intro (o2 (Classical.byContradiction a2)) (o3 (Classical.byContradiction a2))))))))
theorem zb258_27 (hT : zRules T) {D : Nat} {κ : Option zA → zM → Prop} {m : zM} {p : Nat} {n : Nat} {i : Nat} {lo : zL} (hlo : z_keep [0, 1, 2, 3] lo = [(0, zr 74), (1, zi (p : Int)), (2, zi (n : Int)), (3, zi (i : Int))])  (hB : zB m) (h_p : p ≤ 5) (h_n : n ≤ 20) (h_i : i ≤ 10) 
    (k1 : ¬ (i : Int) < 10 → T (D + 5) 258 (57, [(0, zr 74), (1, zi (p : Int)), (3, zi ((n : Int) - 2))], [], m) κ)
    (k2 : (i : Int) < 10 → (0 ≤ ((10 * ((n : Int) - 1)) + (i : Int)) ∧ ((10 * ((n : Int) - 1)) + (i : Int)) < 210))
    (k3 : (i : Int) < 10 → zB (zu m 93 (((10 * ((n : Int) - 1)) + (i : Int)).toNat) 0) → T (D + 5) 258 (27, [(0, zr 74), (1, zi (p : Int)), (2, zi (n : Int)), (3, zi ((i : Int) + 1))], [], (zu m 93 (((10 * ((n : Int) - 1)) + (i : Int)).toNat) 0)) κ) :
    T (D + 5) 258 (27, lo, [], m) κ := by
  have he0 : wr (i : Int) = (i : Int) := wr_id (by omega) (by omega)
  have he1 : wr ((10 * ((n : Int) - 1)) + (i : Int)) = ((10 * ((n : Int) - 1)) + (i : Int)) := wr_id (by omega) (by omega)
  have key := @zb258_27r T hT D κ m p n i lo hlo
  simp only [he0, he1, Int.toNat_natCast] at key
  exact key
    k1
    k2
    (fun x0 => k3 x0 (zB_u hB trivial))
theorem zb258_57r (hT : zRules T) {D : Nat} {κ : Option zA → zM → Prop} {m : zM} {p : Nat} {i : Int} {lo : zL} (hlo : z_keep [0, 1, 3] lo = [(0, zr 74), (1, zi (p : Int)), (3, zi i)]) 
    (o1 : wr i < 0 → T (D + 5) 258 (125, [(0, zr 74), (1, zi (p : Int)), (3, zl 9223372036854775807), (5, zi 0), (6, zi 0)], [], m) κ)
    (o2 : ¬ wr i < 0 → T (D + 5) 258 (64, [(0, zr 74), (1, zi (p : Int)), (3, zi i), (4, zi 0)], [], m) κ) :
    T (D + 5) 258 (57, lo, [], m) κ :=
  zkeep hT hlo (hT.1 [(27, [0, 1, 2, 3]), (57, [0, 1, 3]), (64, [0, 1, 3, 4]), (125, [0, 1, 3, 5, 6])] 6 (D + 5) 258 _ κ (And.intro (fun a1 => (hT.1 [(27, [0, 1, 2, 3]), (57, [0, 1, 3]), (64, [0, 1, 3, 4]), (125, [0, 1, 3, 5, 6])] 6 (D + 5) 258 (122, [(0, zr 74), (1, zi (p : Int)), (3, zl 9223372036854775807), (5, zi 0)], [], m) _ (o1 a1))) (fun a2 => (o2 a2))))
theorem zb258_57 (hT : zRules T) {D : Nat} {κ : Option zA → zM → Prop} {m : zM} {p : Nat} {i : Int} {lo : zL} (hlo : z_keep [0, 1, 3] lo = [(0, zr 74), (1, zi (p : Int)), (3, zi i)])  (hB : zB m) (h_p : p ≤ 5) (h_i : (-1) ≤ i ∧ i ≤ 18) 
    (k1 : i < 0 → T (D + 5) 258 (125, [(0, zr 74), (1, zi (p : Int)), (3, zl 9223372036854775807), (5, zi 0), (6, zi 0)], [], m) κ)
    (k2 : ¬ i < 0 → T (D + 5) 258 (64, [(0, zr 74), (1, zi (p : Int)), (3, zi i), (4, zi 0)], [], m) κ) :
    T (D + 5) 258 (57, lo, [], m) κ := by
  have he0 : wr i = i := wr_id (by omega) (by omega)
  have key := @zb258_57r T hT D κ m p i lo hlo
  simp only [he0, Int.toNat_natCast] at key
  exact key
    k1
    k2
theorem zb258_64r (hT : zRules T) {D : Nat} {κ : Option zA → zM → Prop} {m : zM} {p : Nat} {i : Nat} {k : Nat} {lo : zL} (hlo : z_keep [0, 1, 3, 4] lo = [(0, zr 74), (1, zi (p : Int)), (3, zi (i : Int)), (4, zi (k : Int))]) 
    (o1 : wr (m 79 0) < wr (k : Int) → T (D + 5) 258 (57, [(0, zr 74), (1, zi (p : Int)), (3, zi ((i : Int) + (-1)))], [], m) κ)
    (o2 : ¬ wr (m 79 0) < wr (k : Int) → T (D + 4) 216 (0, [(0, zr 74), (1, zi (p : Int)), (2, zi (i : Int))], [], m) (fun r m1 => T (D + 5) 258 (97, [(0, zr 74), (1, zi (p : Int)), (3, zi (i : Int)), (4, zi (k : Int))], r.toList ++ [zi ((i : Int) + 1), zi (p : Int), zr 74, zi ((10 * (i : Int)) + (k : Int)), zr 93], m1) κ)) :
    T (D + 5) 258 (64, lo, [], m) κ :=
  zkeep hT hlo (hT.1 [(27, [0, 1, 2, 3]), (57, [0, 1, 3]), (64, [0, 1, 3, 4]), (125, [0, 1, 3, 5, 6])] 6 (D + 5) 258 _ κ (And.intro (z_ixL rfl) (And.intro (fun a1 => (hT.1 [(27, [0, 1, 2, 3]), (57, [0, 1, 3]), (64, [0, 1, 3, 4]), (125, [0, 1, 3, 5, 6])] 6 (D + 5) 258 (109, [(0, zr 74), (1, zi (p : Int)), (3, zi (i : Int)), (4, zi (k : Int))], [], m) _ (o1 a1))) (fun a2 => (hT.1 [(27, [0, 1, 2, 3]), (57, [0, 1, 3]), (64, [0, 1, 3, 4]), (125, [0, 1, 3, 5, 6])] 6 (D + 5) 258 (75, [(0, zr 74), (1, zi (p : Int)), (3, zi (i : Int)), (4, zi (k : Int))], [], m) _ (hT.1 [(27, [0, 1, 2, 3]), (57, [0, 1, 3]), (64, [0, 1, 3, 4]), (125, [0, 1, 3, 5, 6])] 6 (D + 5) 258 (85, [(0, zr 74), (1, zi (p : Int)), (3, zi (i : Int)), (4, zi (k : Int))], [zi (k : Int), zi (10 * (i : Int)), zr 93], m) _ (hT.1 [(27, [0, 1, 2, 3]), (57, [0, 1, 3]), (64, [0, 1, 3, 4]), (125, [0, 1, 3, 5, 6])] 6 (D + 5) 258 (91, [(0, zr 74), (1, zi (p : Int)), (3, zi (i : Int)), (4, zi (k : Int))], [zi ((i : Int) + 1), zi (p : Int), zr 74, zi ((10 * (i : Int)) + (k : Int)), zr 93], m) _ (o2 a2))))))))
theorem zb258_64 (hT : zRules T) {D : Nat} {κ : Option zA → zM → Prop} {m : zM} {p : Nat} {i : Nat} {k : Nat} {lo : zL} (hlo : z_keep [0, 1, 3, 4] lo = [(0, zr 74), (1, zi (p : Int)), (3, zi (i : Int)), (4, zi (k : Int))])  (hB : zB m) (h_p : p ≤ 5) (h_i : i ≤ 18) (h_k : k ≤ 10) 
    (k1 : (m 79 0) < (k : Int) → T (D + 5) 258 (57, [(0, zr 74), (1, zi (p : Int)), (3, zi ((i : Int) + (-1)))], [], m) κ)
    (k2 : ¬ (m 79 0) < (k : Int) → T (D + 4) 216 (0, [(0, zr 74), (1, zi (p : Int)), (2, zi (i : Int))], [], m) (fun r m1 => T (D + 5) 258 (97, [(0, zr 74), (1, zi (p : Int)), (3, zi (i : Int)), (4, zi (k : Int))], r.toList ++ [zi ((i : Int) + 1), zi (p : Int), zr 74, zi ((10 * (i : Int)) + (k : Int)), zr 93], m1) κ)) :
    T (D + 5) 258 (64, lo, [], m) κ := by
  have hb3 : 0 ≤ (m 79 0) ∧ (m 79 0) ≤ 9 := hB 79 0
  have he0 : wr (m 79 0) = (m 79 0) := wr_id (by omega) (by omega)
  have he1 : wr (k : Int) = (k : Int) := wr_id (by omega) (by omega)
  have key := @zb258_64r T hT D κ m p i k lo hlo
  simp only [he0, he1, Int.toNat_natCast] at key
  exact key
    k1
    k2
theorem zb258_97r (hT : zRules T) {D : Nat} {κ : Option zA → zM → Prop} {m : zM} {p : Nat} {i : Nat} {k : Nat} {v : Int} {e : Nat} {d : Nat} {lo : zL} (hlo : z_keep [0, 1, 3, 4] lo = [(0, zr 74), (1, zi (p : Int)), (3, zi (i : Int)), (4, zi (k : Int))]) 
    (o1 : T (D + 4) 257 (0, [(0, zr 74), (1, zi (p : Int)), (2, zi (e : Int)), (3, zi v), (4, zi (k : Int))], [], m) (fun r m1 => T (D + 5) 258 (102, [(0, zr 74), (1, zi (p : Int)), (3, zi (i : Int)), (4, zi (k : Int))], r.toList ++ [zi (d : Int), zr 93], m1) κ)) :
    T (D + 5) 258 (97, lo, [zi v, zi (e : Int), zi (p : Int), zr 74, zi (d : Int), zr 93], m) κ :=
  zkeep hT hlo (hT.1 [(27, [0, 1, 2, 3]), (57, [0, 1, 3]), (64, [0, 1, 3, 4]), (125, [0, 1, 3, 5, 6])] 6 (D + 5) 258 _ κ (o1))
theorem zb258_97 (hT : zRules T) {D : Nat} {κ : Option zA → zM → Prop} {m : zM} {p : Nat} {i : Nat} {k : Nat} {v : Int} {e : Nat} {d : Nat} {lo : zL} (hlo : z_keep [0, 1, 3, 4] lo = [(0, zr 74), (1, zi (p : Int)), (3, zi (i : Int)), (4, zi (k : Int))])  (hB : zB m) (h_p : p ≤ 5) (h_i : i ≤ 18) (h_k : k ≤ 9) (h_v : 0 ≤ v ∧ v ≤ 99) (h_e : e ≤ 19) (h_d : d ≤ 198) 
    (k1 : T (D + 4) 257 (0, [(0, zr 74), (1, zi (p : Int)), (2, zi (e : Int)), (3, zi v), (4, zi (k : Int))], [], m) (fun r m1 => T (D + 5) 258 (102, [(0, zr 74), (1, zi (p : Int)), (3, zi (i : Int)), (4, zi (k : Int))], r.toList ++ [zi (d : Int), zr 93], m1) κ)) :
    T (D + 5) 258 (97, lo, [zi v, zi (e : Int), zi (p : Int), zr 74, zi (d : Int), zr 93], m) κ := by
  exact zb258_97r hT hlo
    k1
theorem zb258_102r (hT : zRules T) {D : Nat} {κ : Option zA → zM → Prop} {m : zM} {p : Nat} {i : Nat} {k : Nat} {v : Int} {d : Nat} {lo : zL} (hlo : z_keep [0, 1, 3, 4] lo = [(0, zr 74), (1, zi (p : Int)), (3, zi (i : Int)), (4, zi (k : Int))]) 
    (o1 : (0 ≤ wr (d : Int) ∧ wr (d : Int) < 210))
    (o2 : T (D + 5) 258 (64, [(0, zr 74), (1, zi (p : Int)), (3, zi (i : Int)), (4, zi ((k : Int) + 1))], [], (zu m 93 ((wr (d : Int)).toNat) v)) κ) :
    T (D + 5) 258 (102, lo, [zl v, zi (d : Int), zr 93], m) κ :=
  zkeep hT hlo (hT.1 [(27, [0, 1, 2, 3]), (57, [0, 1, 3]), (64, [0, 1, 3, 4]), (125, [0, 1, 3, 5, 6])] 6 (D + 5) 258 _ κ (And.intro (o1) (o2)))
theorem zb258_102 (hT : zRules T) {D : Nat} {κ : Option zA → zM → Prop} {m : zM} {p : Nat} {i : Nat} {k : Nat} {v : Int} {d : Nat} {lo : zL} (hlo : z_keep [0, 1, 3, 4] lo = [(0, zr 74), (1, zi (p : Int)), (3, zi (i : Int)), (4, zi (k : Int))])  (hB : zB m) (h_p : p ≤ 5) (h_i : i ≤ 18) (h_k : k ≤ 9) (h_v : (-9223372036854775808) ≤ v ∧ v ≤ 9223372036854775807) (h_d : d ≤ 198) 
    (k1 : zB (zu m 93 d v) → T (D + 5) 258 (64, [(0, zr 74), (1, zi (p : Int)), (3, zi (i : Int)), (4, zi ((k : Int) + 1))], [], (zu m 93 d v)) κ) :
    T (D + 5) 258 (102, lo, [zl v, zi (d : Int), zr 93], m) κ := by
  have he0 : wr (d : Int) = (d : Int) := wr_id (by omega) (by omega)
  have he1 : (d : Int).toNat = d := by omega
  have key := @zb258_102r T hT D κ m p i k v d lo hlo
  simp only [he0, he1, Int.toNat_natCast] at key
  exact key
    (by refine ⟨?_, ?_⟩ <;> omega)
    (k1  (zB_u hB trivial))
theorem zb258_125r (hT : zRules T) {D : Nat} {κ : Option zA → zM → Prop} {m : zM} {p : Nat} {b : Int} {f : Nat} {k : Nat} {lo : zL} (hlo : z_keep [0, 1, 3, 5, 6] lo = [(0, zr 74), (1, zi (p : Int)), (3, zl b), (5, zi (f : Int)), (6, zi (k : Int))]) 
    (o1 : wr (m 79 0) < wr (k : Int) → κ (some (zi (wr (wl (Int.tdiv (wl b) 1000000))))) (zu (zu (zu (zu (zu m 74 11 0) 81 0 (wl (Int.tmod (wl b) 1000000))) 74 11 1) 81 1 (f : Int)) 74 11 2))
    (o2 : ¬ wr (m 79 0) < wr (k : Int) → T (D + 4) 216 (0, [(0, zr 74), (1, zi (p : Int)), (2, zi 0)], [], m) (fun r m1 => T (D + 5) 258 (143, [(0, zr 74), (1, zi (p : Int)), (3, zl b), (5, zi (f : Int)), (6, zi (k : Int))], r.toList ++ [zr 74], m1) κ)) :
    T (D + 5) 258 (125, lo, [], m) κ :=
  zkeep hT hlo (hT.1 [(27, [0, 1, 2, 3]), (57, [0, 1, 3]), (64, [0, 1, 3, 4]), (125, [0, 1, 3, 5, 6])] 6 (D + 5) 258 _ κ (And.intro (z_ixL rfl) (And.intro (fun a1 => (hT.1 [(27, [0, 1, 2, 3]), (57, [0, 1, 3]), (64, [0, 1, 3, 4]), (125, [0, 1, 3, 5, 6])] 6 (D + 5) 258 (183, [(0, zr 74), (1, zi (p : Int)), (3, zl b), (5, zi (f : Int)), (6, zi (k : Int))], [], m) _ (And.intro trivial (hT.1 [(27, [0, 1, 2, 3]), (57, [0, 1, 3]), (64, [0, 1, 3, 4]), (125, [0, 1, 3, 5, 6])] 6 (D + 5) 258 (193, [(0, zr 74), (1, zi (p : Int)), (3, zl b), (5, zi (f : Int)), (6, zi (k : Int))], [zl 1000000, zl b, zr 74], (zu m 74 11 0)) _ (And.intro (z_lneL rfl) (hT.1 [] 6 (D + 4) 189 _ _ (And.intro (And.intro (z_ixL rfl) trivial) (hT.1 [] 6 (D + 4) 189 (10, [(0, zr 74), (1, zi (wl (Int.tmod (wl b) 1000000)))], [], (zu (zu m 74 11 0) 81 0 (wl (Int.tmod (wl b) 1000000)))) _ (And.intro trivial (hT.1 [] 6 (D + 4) 189 (20, [(0, zr 74), (1, zi (wl (Int.tmod (wl b) 1000000)))], [], (zu (zu (zu m 74 11 0) 81 0 (wl (Int.tmod (wl b) 1000000))) 74 11 1)) _ (hT.1 [(27, [0, 1, 2, 3]), (57, [0, 1, 3]), (64, [0, 1, 3, 4]), (125, [0, 1, 3, 5, 6])] 6 (D + 5) 258 _ _ (hT.1 [] 6 (D + 4) 189 _ _ (And.intro (And.intro (z_ixL rfl) trivial) (hT.1 [] 6 (D + 4) 189 (10, [(0, zr 74), (1, zi (f : Int))], [], (zu (zu (zu (zu m 74 11 0) 81 0 (wl (Int.tmod (wl b) 1000000))) 74 11 1) 81 1 (f : Int))) _ (And.intro trivial (hT.1 [] 6 (D + 4) 189 (20, [(0, zr 74), (1, zi (f : Int))], [], (zu (zu (zu (zu (zu m 74 11 0) 81 0 (wl (Int.tmod (wl b) 1000000))) 74 11 1) 81 1 (f : Int)) 74 11 2)) _ (hT.1 [(27, [0, 1, 2, 3]), (57, [0, 1, 3]), (64, [0, 1, 3, 4]), (125, [0, 1, 3, 5, 6])] 6 (D + 5) 258 _ _ (And.intro (z_lneL rfl) (o1 a1))))))))))))))))))) (fun a2 => (hT.1 [(27, [0, 1, 2, 3]), (57, [0, 1, 3]), (64, [0, 1, 3, 4]), (125, [0, 1, 3, 5, 6])] 6 (D + 5) 258 (136, [(0, zr 74), (1, zi (p : Int)), (3, zl b), (5, zi (f : Int)), (6, zi (k : Int))], [], m) _ (o2 a2))))))
theorem zb258_125 (hT : zRules T) {D : Nat} {κ : Option zA → zM → Prop} {m : zM} {p : Nat} {b : Int} {f : Nat} {k : Nat} {lo : zL} (hlo : z_keep [0, 1, 3, 5, 6] lo = [(0, zr 74), (1, zi (p : Int)), (3, zl b), (5, zi (f : Int)), (6, zi (k : Int))])  (hB : zB m) (h_p : p ≤ 5) (h_b : (-9223372036854775808) ≤ b ∧ b ≤ 9223372036854775807) (h_f : f ≤ 9) (h_k : k ≤ 10) 
    (k1 : (m 79 0) < (k : Int) → zB (zu (zu (zu (zu (zu m 74 11 0) 81 0 (wl (Int.tmod b 1000000))) 74 11 1) 81 1 (f : Int)) 74 11 2) → κ (some (zi (wr (wl (Int.tdiv b 1000000))))) (zu (zu (zu (zu (zu m 74 11 0) 81 0 (wl (Int.tmod b 1000000))) 74 11 1) 81 1 (f : Int)) 74 11 2))
    (k2 : ¬ (m 79 0) < (k : Int) → T (D + 4) 216 (0, [(0, zr 74), (1, zi (p : Int)), (2, zi 0)], [], m) (fun r m1 => T (D + 5) 258 (143, [(0, zr 74), (1, zi (p : Int)), (3, zl b), (5, zi (f : Int)), (6, zi (k : Int))], r.toList ++ [zr 74], m1) κ)) :
    T (D + 5) 258 (125, lo, [], m) κ := by
  have hb4 : 0 ≤ (m 79 0) ∧ (m 79 0) ≤ 9 := hB 79 0
  have hb5 : (-2147483648) ≤ wr (wl (Int.tdiv b 1000000)) ∧ wr (wl (Int.tdiv b 1000000)) ≤ 2147483647 := wrB (wl (Int.tdiv b 1000000))
  have he0 : wr (m 79 0) = (m 79 0) := wr_id (by omega) (by omega)
  have he1 : wr (k : Int) = (k : Int) := wr_id (by omega) (by omega)
  have he2 : wl b = b := wl_id (by omega) (by omega)
  have key := @zb258_125r T hT D κ m p b f k lo hlo
  simp only [he0, he1, he2, Int.toNat_natCast] at key
  exact key
    (fun x0 => k1 x0 (zB_u (zB_u (zB_u (zB_u (zB_u hB (show 0 ≤ 0 ∧ 0 ≤ 32 from ⟨by omega, by omega⟩)) trivial) (show 0 ≤ 1 ∧ 1 ≤ 32 from ⟨by omega, by omega⟩)) trivial) (show 0 ≤ 2 ∧ 2 ≤ 32 from ⟨by omega, by omega⟩)))
    k2
theorem zb258_143r (hT : zRules T) {D : Nat} {κ : Option zA → zM → Prop} {m : zM} {p : Nat} {b : Int} {f : Nat} {k : Nat} {v : Int} {lo : zL} (hlo : z_keep [0, 1, 3, 5, 6] lo = [(0, zr 74), (1, zi (p : Int)), (3, zl b), (5, zi (f : Int)), (6, zi (k : Int))]) 
    (o1 : (0 ≤ wr (k : Int) ∧ wr (k : Int) < 210))
    (o2 : wr (z_lc (((1000000 * (wr (((m 79 1) * (v + (k : Int))) + ((m 79 2) * 0)))) + (wr (v + (k : Int)))) + (m 93 ((wr (k : Int)).toNat))) b) < 0 → T (D + 5) 258 (125, [(0, zr 74), (1, zi (p : Int)), (3, zl (((1000000 * (wr (((m 79 1) * (v + (k : Int))) + ((m 79 2) * 0)))) + (wr (v + (k : Int)))) + (m 93 ((wr (k : Int)).toNat)))), (5, zi (k : Int)), (6, zi ((k : Int) + 1))], [], m) κ)
    (o3 : ¬ wr (z_lc (((1000000 * (wr (((m 79 1) * (v + (k : Int))) + ((m 79 2) * 0)))) + (wr (v + (k : Int)))) + (m 93 ((wr (k : Int)).toNat))) b) < 0 → T (D + 5) 258 (125, [(0, zr 74), (1, zi (p : Int)), (3, zl b), (5, zi (f : Int)), (6, zi ((k : Int) + 1))], [], m) κ) :
    T (D + 5) 258 (143, lo, [zi v, zr 74], m) κ :=
  zkeep hT hlo (hT.1 [(27, [0, 1, 2, 3]), (57, [0, 1, 3]), (64, [0, 1, 3, 4]), (125, [0, 1, 3, 5, 6])] 6 (D + 5) 258 _ κ (hT.1 [] 6 (D + 4) 256 _ _ (And.intro (z_ixL rfl) (hT.1 [] 6 (D + 4) 256 (10, [(0, zr 74), (1, zi (v + (k : Int))), (2, zi 0)], [zi (v + (k : Int)), zi (m 79 1), zl 1000000], m) _ (And.intro (z_ixL rfl) (hT.1 [] 6 (D + 4) 256 (18, [(0, zr 74), (1, zi (v + (k : Int))), (2, zi 0)], [zi 0, zi (m 79 2), zi ((m 79 1) * (v + (k : Int))), zl 1000000], m) _ (hT.1 [] 6 (D + 4) 256 (24, [(0, zr 74), (1, zi (v + (k : Int))), (2, zi 0)], [zl (wr (v + (k : Int))), zl (1000000 * (wr (((m 79 1) * (v + (k : Int))) + ((m 79 2) * 0))))], m) _ (hT.1 [(27, [0, 1, 2, 3]), (57, [0, 1, 3]), (64, [0, 1, 3, 4]), (125, [0, 1, 3, 5, 6])] 6 (D + 5) 258 _ _ (And.intro (o1) (hT.1 [(27, [0, 1, 2, 3]), (57, [0, 1, 3]), (64, [0, 1, 3, 4]), (125, [0, 1, 3, 5, 6])] 6 (D + 5) 258 (160, [(0, zr 74), (1, zi (p : Int)), (3, zl b), (5, zi (f : Int)), (6, zi (k : Int)), (7, zl (((1000000 * (wr (((m 79 1) * (v + (k : Int))) + ((m 79 2) * 0)))) + (wr (v + (k : Int)))) + (m 93 ((wr (k : Int)).toNat))))], [], m) _ (And.intro (fun a1 => (hT.1 [(27, [0, 1, 2, 3]), (57, [0, 1, 3]), (64, [0, 1, 3, 4]), (125, [0, 1, 3, 5, 6])] 6 (D + 5) 258 (173, [(0, zr 74), (1, zi (p : Int)), (3, zl (((1000000 * (wr (((m 79 1) * (v + (k : Int))) + ((m 79 2) * 0)))) + (wr (v + (k : Int)))) + (m 93 ((wr (k : Int)).toNat)))), (5, zi (f : Int)), (6, zi (k : Int)), (7, zl (((1000000 * (wr (((m 79 1) * (v + (k : Int))) + ((m 79 2) * 0)))) + (wr (v + (k : Int)))) + (m 93 ((wr (k : Int)).toNat))))], [], m) _ (o2 a1))) (fun a2 => (hT.1 [(27, [0, 1, 2, 3]), (57, [0, 1, 3]), (64, [0, 1, 3, 4]), (125, [0, 1, 3, 5, 6])] 6 (D + 5) 258 (180, [(0, zr 74), (1, zi (p : Int)), (3, zl b), (5, zi (f : Int)), (6, zi ((k : Int) + 1)), (7, zl (((1000000 * (wr (((m 79 1) * (v + (k : Int))) + ((m 79 2) * 0)))) + (wr (v + (k : Int)))) + (m 93 ((wr (k : Int)).toNat))))], [], m) _ (o3 a2))))))))))))))
theorem zb258_143 (hT : zRules T) {D : Nat} {κ : Option zA → zM → Prop} {m : zM} {p : Nat} {b : Int} {f : Nat} {k : Nat} {v : Int} {lo : zL} (hlo : z_keep [0, 1, 3, 5, 6] lo = [(0, zr 74), (1, zi (p : Int)), (3, zl b), (5, zi (f : Int)), (6, zi (k : Int))])  (hB : zB m) (h_p : p ≤ 5) (h_b : (-9223372036854775808) ≤ b ∧ b ≤ 9223372036854775807) (h_f : f ≤ 9) (h_k : k ≤ 9) (h_v : 0 ≤ v ∧ v ≤ 99) 
    (k1 : (z_lc (((1000000 * ((((m 79 1) * (v + (k : Int))) + ((m 79 2) * 0)))) + ((v + (k : Int)))) + (m 93 k)) b) < 0 → T (D + 5) 258 (125, [(0, zr 74), (1, zi (p : Int)), (3, zl (((1000000 * ((((m 79 1) * (v + (k : Int))) + ((m 79 2) * 0)))) + ((v + (k : Int)))) + (m 93 k))), (5, zi (k : Int)), (6, zi ((k : Int) + 1))], [], m) κ)
    (k2 : ¬ (z_lc (((1000000 * ((((m 79 1) * (v + (k : Int))) + ((m 79 2) * 0)))) + ((v + (k : Int)))) + (m 93 k)) b) < 0 → T (D + 5) 258 (125, [(0, zr 74), (1, zi (p : Int)), (3, zl b), (5, zi (f : Int)), (6, zi ((k : Int) + 1))], [], m) κ) :
    T (D + 5) 258 (143, lo, [zi v, zr 74], m) κ := by
  have hb5 : 0 ≤ (m 79 1) ∧ (m 79 1) ≤ 9 := hB 79 1
  have hb6 : 0 ≤ ((m 79 1) * (v + (k : Int))) ∧ ((m 79 1) * (v + (k : Int))) ≤ 972 := z_mulB (m 79 1) (v + (k : Int)) 9 108 972 (by omega) (by omega) (by omega) (by omega) rfl
  have hb7 : 0 ≤ (m 79 2) ∧ (m 79 2) ≤ 9 := hB 79 2
  have hb8 : (-1) ≤ (z_lc (((1000000 * ((((m 79 1) * (v + (k : Int))) + ((m 79 2) * 0)))) + ((v + (k : Int)))) + (m 93 k)) b) ∧ (z_lc (((1000000 * ((((m 79 1) * (v + (k : Int))) + ((m 79 2) * 0)))) + ((v + (k : Int)))) + (m 93 k)) b) ≤ 1 := z_lcB (((1000000 * ((((m 79 1) * (v + (k : Int))) + ((m 79 2) * 0)))) + ((v + (k : Int)))) + (m 93 k)) b
  have he0 : wr (((m 79 1) * (v + (k : Int))) + ((m 79 2) * 0)) = (((m 79 1) * (v + (k : Int))) + ((m 79 2) * 0)) := wr_id (by omega) (by omega)
  have he1 : wr (v + (k : Int)) = (v + (k : Int)) := wr_id (by omega) (by omega)
  have he2 : wr (k : Int) = (k : Int) := wr_id (by omega) (by omega)
  have he3 : (k : Int).toNat = k := by omega
  have he4 : wr (z_lc (((1000000 * ((((m 79 1) * (v + (k : Int))) + ((m 79 2) * 0)))) + ((v + (k : Int)))) + (m 93 k)) b) = (z_lc (((1000000 * ((((m 79 1) * (v + (k : Int))) + ((m 79 2) * 0)))) + ((v + (k : Int)))) + (m 93 k)) b) := wr_id (by omega) (by omega)
  have key := @zb258_143r T hT D κ m p b f k v lo hlo
  simp only [he0, he1, he2, he3, he4, Int.toNat_natCast] at key
  exact key
    (by refine ⟨?_, ?_⟩ <;> omega)
    k1
    k2
theorem zb257_0r (hT : zRules T) {D : Nat} {κ : Option zA → zM → Prop} {m : zM} {p : Nat} {i : Nat} {a : Int} {k : Nat} 
    (o1 : T (D + 3) 216 (0, [(0, zr 74), (1, zi (p : Int)), (2, zi (i : Int))], [], m) (fun r m1 => T (D + 4) 257 (6, [(0, zr 74), (1, zi (p : Int)), (2, zi (i : Int)), (3, zi a), (4, zi (k : Int))], r.toList ++ [], m1) κ)) :
    T (D + 4) 257 (0, [(0, zr 74), (1, zi (p : Int)), (2, zi (i : Int)), (3, zi a), (4, zi (k : Int))], [], m) κ :=
  hT.1 [(85, [0, 2, 5, 6, 7, 9])] 6 (D + 4) 257 _ κ (o1)
theorem zb257_0 (hT : zRules T) {D : Nat} {κ : Option zA → zM → Prop} {m : zM} {p : Nat} {i : Nat} {a : Int} {k : Nat}  (hB : zB m) (h_p : p ≤ 5) (h_i : i ≤ 19) (h_a : 0 ≤ a ∧ a ≤ 99) (h_k : k ≤ 9) 
    (k1 : T (D + 3) 216 (0, [(0, zr 74), (1, zi (p : Int)), (2, zi (i : Int))], [], m) (fun r m1 => T (D + 4) 257 (6, [(0, zr 74), (1, zi (p : Int)), (2, zi (i : Int)), (3, zi a), (4, zi (k : Int))], r.toList ++ [], m1) κ)) :
    T (D + 4) 257 (0, [(0, zr 74), (1, zi (p : Int)), (2, zi (i : Int)), (3, zi a), (4, zi (k : Int))], [], m) κ := by
  exact zb257_0r hT
    k1
theorem zb257_6r (hT : zRules T) {D : Nat} {κ : Option zA → zM → Prop} {m : zM} {i : Nat} {a : Int} {k : Nat} {v : Int} {lo : zL} (hlo : z_keep [0, 2, 3, 4] lo = [(0, zr 74), (2, zi (i : Int)), (3, zi a), (4, zi (k : Int))]) 
    (o1 : ¬ wr v = wr a → wr (a + (k : Int)) < wr v → T (D + 4) 257 (85, [(0, zr 74), (2, zi (i : Int)), (5, zi v), (6, zi (a + (k : Int))), (7, zl 9223372036854775807), (9, zi 0)], [], m) κ)
    (o2 : ¬ wr v = wr a → ¬ wr (a + (k : Int)) < wr v → wr (v + (m 79 0)) < wr (a + (k : Int)) → T (D + 4) 257 (85, [(0, zr 74), (2, zi (i : Int)), (5, zi v), (6, zi (a + (k : Int))), (7, zl 9223372036854775807), (9, zi 0)], [], m) κ)
    (o3 : ¬ wr v = wr a → ¬ wr (a + (k : Int)) < wr v → ¬ wr (v + (m 79 0)) < wr (a + (k : Int)) → (0 ≤ wr (((10 * (i : Int)) + (a + (k : Int))) - v) ∧ wr (((10 * (i : Int)) + (a + (k : Int))) - v) < 210))
    (o4 : ¬ wr v = wr a → ¬ wr (a + (k : Int)) < wr v → ¬ wr (v + (m 79 0)) < wr (a + (k : Int)) → κ (some (zl (((1000000 * (wr (((m 79 1) * 0) + ((m 79 2) * 1)))) + 0) + (m 93 ((wr (((10 * (i : Int)) + (a + (k : Int))) - v)).toNat))))) m)
    (o5 : wr v = wr a → (0 ≤ wr ((10 * (i : Int)) + (k : Int)) ∧ wr ((10 * (i : Int)) + (k : Int)) < 210))
    (o6 : wr v = wr a → κ (some (zl (m 93 ((wr ((10 * (i : Int)) + (k : Int))).toNat)))) m) :
    T (D + 4) 257 (6, lo, [zi v], m) κ :=
  zkeep hT hlo (hT.1 [(85, [0, 2, 5, 6, 7, 9])] 6 (D + 4) 257 _ κ (hT.1 [(85, [0, 2, 5, 6, 7, 9])] 6 (D + 4) 257 (16, [(0, zr 74), (2, zi (i : Int)), (3, zi a), (4, zi (k : Int)), (5, zi v), (6, zi (a + (k : Int)))], [zi v], m) _ (And.intro (fun a1 => (And.intro (fun a3 => (hT.1 [(85, [0, 2, 5, 6, 7, 9])] 6 (D + 4) 257 (80, [(0, zr 74), (2, zi (i : Int)), (3, zi a), (4, zi (k : Int)), (5, zi v), (6, zi (a + (k : Int)))], [zl 9223372036854775807], m) _ (o1 a1 a3))) (fun a4 => (hT.1 [(85, [0, 2, 5, 6, 7, 9])] 6 (D + 4) 257 (42, [(0, zr 74), (2, zi (i : Int)), (3, zi a), (4, zi (k : Int)), (5, zi v), (6, zi (a + (k : Int)))], [zi (a + (k : Int))], m) _ (And.intro (z_ixL rfl) (hT.1 [(85, [0, 2, 5, 6, 7, 9])] 6 (D + 4) 257 (51, [(0, zr 74), (2, zi (i : Int)), (3, zi a), (4, zi (k : Int)), (5, zi v), (6, zi (a + (k : Int)))], [zi (v + (m 79 0)), zi (a + (k : Int))], m) _ (And.intro (fun a5 => (o2 a1 a4 a5)) (fun a6 => (hT.1 [] 6 (D + 3) 256 _ _ (And.intro (z_ixL rfl) (hT.1 [] 6 (D + 3) 256 (10, [(0, zr 74), (1, zi 0), (2, zi 1)], [zi 0, zi (m 79 1), zl 1000000], m) _ (And.intro (z_ixL rfl) (hT.1 [] 6 (D + 3) 256 (18, [(0, zr 74), (1, zi 0), (2, zi 1)], [zi 1, zi (m 79 2), zi ((m 79 1) * 0), zl 1000000], m) _ (hT.1 [] 6 (D + 3) 256 (24, [(0, zr 74), (1, zi 0), (2, zi 1)], [zl 0, zl (1000000 * (wr (((m 79 1) * 0) + ((m 79 2) * 1))))], m) _ (hT.1 [(85, [0, 2, 5, 6, 7, 9])] 6 (D + 4) 257 _ _ (hT.1 [(85, [0, 2, 5, 6, 7, 9])] 6 (D + 4) 257 (70, [(0, zr 74), (2, zi (i : Int)), (3, zi a), (4, zi (k : Int)), (5, zi v), (6, zi (a + (k : Int)))], [zi (a + (k : Int)), zi (10 * (i : Int)), zr 93, zl ((1000000 * (wr (((m 79 1) * 0) + ((m 79 2) * 1)))) + 0)], m) _ (And.intro (o3 a1 a4 a6) (o4 a1 a4 a6)))))))))))))))))) (fun a2 => (hT.1 [(85, [0, 2, 5, 6, 7, 9])] 6 (D + 4) 257 (27, [(0, zr 74), (2, zi (i : Int)), (3, zi a), (4, zi (k : Int)), (5, zi v), (6, zi (a + (k : Int)))], [zi (i : Int), zi 10, zr 93], m) _ (And.intro (o5 (Classical.byContradiction a2)) (o6 (Classical.byContradiction a2))))))))
theorem zb257_6 (hT : zRules T) {D : Nat} {κ : Option zA → zM → Prop} {m : zM} {i : Nat} {a : Int} {k : Nat} {v : Int} {lo : zL} (hlo : z_keep [0, 2, 3, 4] lo = [(0, zr 74), (2, zi (i : Int)), (3, zi a), (4, zi (k : Int))])  (hB : zB m) (h_i : i ≤ 19) (h_a : 0 ≤ a ∧ a ≤ 99) (h_k : k ≤ 9) (h_v : 0 ≤ v ∧ v ≤ 99) 
    (k1 : ¬ v = a → (a + (k : Int)) < v → T (D + 4) 257 (85, [(0, zr 74), (2, zi (i : Int)), (5, zi v), (6, zi (a + (k : Int))), (7, zl 9223372036854775807), (9, zi 0)], [], m) κ)
    (k2 : ¬ v = a → ¬ (a + (k : Int)) < v → (v + (m 79 0)) < (a + (k : Int)) → T (D + 4) 257 (85, [(0, zr 74), (2, zi (i : Int)), (5, zi v), (6, zi (a + (k : Int))), (7, zl 9223372036854775807), (9, zi 0)], [], m) κ)
    (k3 : ¬ v = a → ¬ (a + (k : Int)) < v → ¬ (v + (m 79 0)) < (a + (k : Int)) → κ (some (zl (((1000000 * ((((m 79 1) * 0) + ((m 79 2) * 1)))) + 0) + (m 93 ((((10 * (i : Int)) + (a + (k : Int))) - v).toNat))))) m)
    (k4 : v = a → κ (some (zl (m 93 (10 * i + k)))) m) :
    T (D + 4) 257 (6, lo, [zi v], m) κ := by
  have hb4 : 0 ≤ (m 79 0) ∧ (m 79 0) ≤ 9 := hB 79 0
  have hb5 : 0 ≤ (m 79 1) ∧ (m 79 1) ≤ 9 := hB 79 1
  have hb6 : 0 ≤ (m 79 2) ∧ (m 79 2) ≤ 9 := hB 79 2
  have he0 : wr v = v := wr_id (by omega) (by omega)
  have he1 : wr a = a := wr_id (by omega) (by omega)
  have he2 : wr ((10 * (i : Int)) + (k : Int)) = ((10 * (i : Int)) + (k : Int)) := wr_id (by omega) (by omega)
  have he3 : ((10 * (i : Int)) + (k : Int)).toNat = 10 * i + k := by omega
  have he4 : wr (a + (k : Int)) = (a + (k : Int)) := wr_id (by omega) (by omega)
  have he5 : wr (v + (m 79 0)) = (v + (m 79 0)) := wr_id (by omega) (by omega)
  have he6 : wr (((m 79 1) * 0) + ((m 79 2) * 1)) = (((m 79 1) * 0) + ((m 79 2) * 1)) := wr_id (by omega) (by omega)
  have he7 : wr (((10 * (i : Int)) + (a + (k : Int))) - v) = (((10 * (i : Int)) + (a + (k : Int))) - v) := wr_id (by omega) (by omega)
  have key := @zb257_6r T hT D κ m i a k v lo hlo
  simp only [he0, he1, he2, he3, he4, he5, he6, he7, Int.toNat_natCast] at key
  exact key
    k1
    k2
    (fun x0 x1 x2 => by refine ⟨?_, ?_⟩ <;> omega)
    k3
    (fun x0 => by refine ⟨?_, ?_⟩ <;> omega)
    k4
theorem zb257_85r (hT : zRules T) {D : Nat} {κ : Option zA → zM → Prop} {m : zM} {i : Nat} {x : Int} {y : Int} {b : Int} {q : Nat} {lo : zL} (hlo : z_keep [0, 2, 5, 6, 7, 9] lo = [(0, zr 74), (2, zi (i : Int)), (5, zi x), (6, zi y), (7, zl b), (9, zi (q : Int))]) 
    (o1 : wr (m 79 0) < wr (q : Int) → κ (some (zl b)) m)
    (o2 : ¬ wr (m 79 0) < wr (q : Int) → ¬ wr x < wr y → (0 ≤ wr ((10 * (i : Int)) + (q : Int)) ∧ wr ((10 * (i : Int)) + (q : Int)) < 210))
    (o3 : ¬ wr (m 79 0) < wr (q : Int) → ¬ wr x < wr y → T (D + 3) 296 (0, [(0, zl b), (2, zl (((1000000 * (wr (((m 79 1) * ((x - y) + (q : Int))) + ((m 79 2) * 3)))) + (wr ((x - y) + (q : Int)))) + (m 93 ((wr ((10 * (i : Int)) + (q : Int))).toNat))))], [], m) (fun r m1 => T (D + 4) 257 (143, [(0, zr 74), (2, zi (i : Int)), (5, zi x), (6, zi y), (7, zl b), (9, zi (q : Int))], r.toList ++ [], m1) κ))
    (o4 : ¬ wr (m 79 0) < wr (q : Int) → wr x < wr y → (0 ≤ wr ((10 * (i : Int)) + (q : Int)) ∧ wr ((10 * (i : Int)) + (q : Int)) < 210))
    (o5 : ¬ wr (m 79 0) < wr (q : Int) → wr x < wr y → T (D + 3) 296 (0, [(0, zl b), (2, zl (((1000000 * (wr (((m 79 1) * 0) + ((m 79 2) * 2)))) + 0) + (m 93 ((wr ((10 * (i : Int)) + (q : Int))).toNat))))], [], m) (fun r m1 => T (D + 4) 257 (143, [(0, zr 74), (2, zi (i : Int)), (5, zi x), (6, zi y), (7, zl b), (9, zi (q : Int))], r.toList ++ [], m1) κ)) :
    T (D + 4) 257 (85, lo, [], m) κ :=
  zkeep hT hlo (hT.1 [(85, [0, 2, 5, 6, 7, 9])] 6 (D + 4) 257 _ κ (And.intro (z_ixL rfl) (And.intro (fun a1 => (hT.1 [(85, [0, 2, 5, 6, 7, 9])] 6 (D + 4) 257 (151, [(0, zr 74), (2, zi (i : Int)), (5, zi x), (6, zi y), (7, zl b), (9, zi (q : Int))], [], m) _ (o1 a1))) (fun a2 => (hT.1 [(85, [0, 2, 5, 6, 7, 9])] 6 (D + 4) 257 (96, [(0, zr 74), (2, zi (i : Int)), (5, zi x), (6, zi y), (7, zl b), (9, zi (q : Int))], [], m) _ (And.intro (fun a3 => (hT.1 [(85, [0, 2, 5, 6, 7, 9])] 6 (D + 4) 257 (117, [(0, zr 74), (2, zi (i : Int)), (5, zi x), (6, zi y), (7, zl b), (9, zi (q : Int))], [zi x, zr 74, zl b], m) _ (hT.1 [] 6 (D + 3) 256 _ _ (And.intro (z_ixL rfl) (hT.1 [] 6 (D + 3) 256 (10, [(0, zr 74), (1, zi ((x - y) + (q : Int))), (2, zi 3)], [zi ((x - y) + (q : Int)), zi (m 79 1), zl 1000000], m) _ (And.intro (z_ixL rfl) (hT.1 [] 6 (D + 3) 256 (18, [(0, zr 74), (1, zi ((x - y) + (q : Int))), (2, zi 3)], [zi 3, zi (m 79 2), zi ((m 79 1) * ((x - y) + (q : Int))), zl 1000000], m) _ (hT.1 [] 6 (D + 3) 256 (24, [(0, zr 74), (1, zi ((x - y) + (q : Int))), (2, zi 3)], [zl (wr ((x - y) + (q : Int))), zl (1000000 * (wr (((m 79 1) * ((x - y) + (q : Int))) + ((m 79 2) * 3))))], m) _ (hT.1 [(85, [0, 2, 5, 6, 7, 9])] 6 (D + 4) 257 _ _ (hT.1 [(85, [0, 2, 5, 6, 7, 9])] 6 (D + 4) 257 (137, [(0, zr 74), (2, zi (i : Int)), (5, zi x), (6, zi y), (7, zl b), (9, zi (q : Int))], [zi (q : Int), zi (10 * (i : Int)), zr 93, zl ((1000000 * (wr (((m 79 1) * ((x - y) + (q : Int))) + ((m 79 2) * 3)))) + (wr ((x - y) + (q : Int)))), zl b], m) _ (And.intro (o2 a2 a3) (o3 a2 a3)))))))))))) (fun a4 => (hT.1 [(85, [0, 2, 5, 6, 7, 9])] 6 (D + 4) 257 (107, [(0, zr 74), (2, zi (i : Int)), (5, zi x), (6, zi y), (7, zl b), (9, zi (q : Int))], [zi 0, zr 74, zl b], m) _ (hT.1 [] 6 (D + 3) 256 _ _ (And.intro (z_ixL rfl) (hT.1 [] 6 (D + 3) 256 (10, [(0, zr 74), (1, zi 0), (2, zi 2)], [zi 0, zi (m 79 1), zl 1000000], m) _ (And.intro (z_ixL rfl) (hT.1 [] 6 (D + 3) 256 (18, [(0, zr 74), (1, zi 0), (2, zi 2)], [zi 2, zi (m 79 2), zi ((m 79 1) * 0), zl 1000000], m) _ (hT.1 [] 6 (D + 3) 256 (24, [(0, zr 74), (1, zi 0), (2, zi 2)], [zl 0, zl (1000000 * (wr (((m 79 1) * 0) + ((m 79 2) * 2))))], m) _ (hT.1 [(85, [0, 2, 5, 6, 7, 9])] 6 (D + 4) 257 _ _ (hT.1 [(85, [0, 2, 5, 6, 7, 9])] 6 (D + 4) 257 (135, [(0, zr 74), (2, zi (i : Int)), (5, zi x), (6, zi y), (7, zl b), (9, zi (q : Int))], [zi (10 * (i : Int)), zr 93, zl ((1000000 * (wr (((m 79 1) * 0) + ((m 79 2) * 2)))) + 0), zl b], m) _ (And.intro (o4 a2 (Classical.byContradiction a4)) (o5 a2 (Classical.byContradiction a4)))))))))))))))))))
theorem zb257_85 (hT : zRules T) {D : Nat} {κ : Option zA → zM → Prop} {m : zM} {i : Nat} {x : Int} {y : Int} {b : Int} {q : Nat} {lo : zL} (hlo : z_keep [0, 2, 5, 6, 7, 9] lo = [(0, zr 74), (2, zi (i : Int)), (5, zi x), (6, zi y), (7, zl b), (9, zi (q : Int))])  (hB : zB m) (h_i : i ≤ 19) (h_x : 0 ≤ x ∧ x ≤ 99) (h_y : 0 ≤ y ∧ y ≤ 108) (h_b : (-9223372036854775808) ≤ b ∧ b ≤ 9223372036854775807) (h_q : q ≤ 10) 
    (k1 : (m 79 0) < (q : Int) → κ (some (zl b)) m)
    (k2 : ¬ (m 79 0) < (q : Int) → ¬ x < y → T (D + 3) 296 (0, [(0, zl b), (2, zl (((1000000 * (wr (((m 79 1) * ((x - y) + (q : Int))) + ((m 79 2) * 3)))) + (((x - y) + (q : Int)))) + (m 93 (10 * i + q))))], [], m) (fun r m1 => T (D + 4) 257 (143, [(0, zr 74), (2, zi (i : Int)), (5, zi x), (6, zi y), (7, zl b), (9, zi (q : Int))], r.toList ++ [], m1) κ))
    (k3 : ¬ (m 79 0) < (q : Int) → x < y → T (D + 3) 296 (0, [(0, zl b), (2, zl (((1000000 * ((((m 79 1) * 0) + ((m 79 2) * 2)))) + 0) + (m 93 (10 * i + q))))], [], m) (fun r m1 => T (D + 4) 257 (143, [(0, zr 74), (2, zi (i : Int)), (5, zi x), (6, zi y), (7, zl b), (9, zi (q : Int))], r.toList ++ [], m1) κ)) :
    T (D + 4) 257 (85, lo, [], m) κ := by
  have hb5 : 0 ≤ (m 79 0) ∧ (m 79 0) ≤ 9 := hB 79 0
  have hb6 : 0 ≤ (m 79 1) ∧ (m 79 1) ≤ 9 := hB 79 1
  have hb7 : 0 ≤ (m 79 2) ∧ (m 79 2) ≤ 9 := hB 79 2
  have hb8 : (-2147483648) ≤ wr (((m 79 1) * ((x - y) + (q : Int))) + ((m 79 2) * 3)) ∧ wr (((m 79 1) * ((x - y) + (q : Int))) + ((m 79 2) * 3)) ≤ 2147483647 := wrB (((m 79 1) * ((x - y) + (q : Int))) + ((m 79 2) * 3))
  have he0 : wr (m 79 0) = (m 79 0) := wr_id (by omega) (by omega)
  have he1 : wr (q : Int) = (q : Int) := wr_id (by omega) (by omega)
  have he2 : wr x = x := wr_id (by omega) (by omega)
  have he3 : wr y = y := wr_id (by omega) (by omega)
  have he4 : wr (((m 79 1) * 0) + ((m 79 2) * 2)) = (((m 79 1) * 0) + ((m 79 2) * 2)) := wr_id (by omega) (by omega)
  have he5 : wr ((10 * (i : Int)) + (q : Int)) = ((10 * (i : Int)) + (q : Int)) := wr_id (by omega) (by omega)
  have he6 : ((10 * (i : Int)) + (q : Int)).toNat = 10 * i + q := by omega
  have he7 : wr ((x - y) + (q : Int)) = ((x - y) + (q : Int)) := wr_id (by omega) (by omega)
  have key := @zb257_85r T hT D κ m i x y b q lo hlo
  simp only [he0, he1, he2, he3, he4, he5, he6, he7, Int.toNat_natCast] at key
  exact key
    k1
    (fun x0 x1 => by refine ⟨?_, ?_⟩ <;> omega)
    k2
    (fun x0 x1 => by refine ⟨?_, ?_⟩ <;> omega)
    k3
theorem zb257_143r (hT : zRules T) {D : Nat} {κ : Option zA → zM → Prop} {m : zM} {i : Nat} {x : Int} {y : Int} {v : Int} {q : Nat} {lo : zL} (hlo : z_keep [0, 2, 5, 6, 9] lo = [(0, zr 74), (2, zi (i : Int)), (5, zi x), (6, zi y), (9, zi (q : Int))]) 
    (o1 : T (D + 4) 257 (85, [(0, zr 74), (2, zi (i : Int)), (5, zi x), (6, zi y), (7, zl v), (9, zi ((q : Int) + 1))], [], m) κ) :
    T (D + 4) 257 (143, lo, [zl v], m) κ :=
  zkeep hT hlo (hT.1 [(85, [0, 2, 5, 6, 7, 9])] 6 (D + 4) 257 _ κ (o1))
theorem zb257_143 (hT : zRules T) {D : Nat} {κ : Option zA → zM → Prop} {m : zM} {i : Nat} {x : Int} {y : Int} {v : Int} {q : Nat} {lo : zL} (hlo : z_keep [0, 2, 5, 6, 9] lo = [(0, zr 74), (2, zi (i : Int)), (5, zi x), (6, zi y), (9, zi (q : Int))])  (hB : zB m) (h_i : i ≤ 19) (h_x : 0 ≤ x ∧ x ≤ 99) (h_y : 0 ≤ y ∧ y ≤ 108) (h_v : (-9223372036854775808) ≤ v ∧ v ≤ 9223372036854775807) (h_q : q ≤ 9) 
    (k1 : T (D + 4) 257 (85, [(0, zr 74), (2, zi (i : Int)), (5, zi x), (6, zi y), (7, zl v), (9, zi ((q : Int) + 1))], [], m) κ) :
    T (D + 4) 257 (143, lo, [zl v], m) κ := by
  exact zb257_143r hT hlo
    k1
theorem zb296_0r (hT : zRules T) {D : Nat} {κ : Option zA → zM → Prop} {m : zM} {a : Int} {b : Int} 
    (o1 : 0 < wr (z_lc a b) → κ (some (zl b)) m)
    (o2 : ¬ 0 < wr (z_lc a b) → κ (some (zl a)) m) :
    T (D + 3) 296 (0, [(0, zl a), (2, zl b)], [], m) κ :=
  hT.1 [] 6 (D + 3) 296 _ κ (And.intro (fun a1 => (o1 a1)) (fun a2 => (hT.1 [] 6 (D + 3) 296 (11, [(0, zl a), (2, zl b)], [zl a], m) _ (o2 a2))))
theorem zb296_0 (hT : zRules T) {D : Nat} {κ : Option zA → zM → Prop} {m : zM} {a : Int} {b : Int}  (h_a : (-9223372036854775808) ≤ a ∧ a ≤ 9223372036854775807) (h_b : (-9223372036854775808) ≤ b ∧ b ≤ 9223372036854775807) 
    (k1 : 0 < (z_lc a b) → κ (some (zl b)) m)
    (k2 : ¬ 0 < (z_lc a b) → κ (some (zl a)) m) :
    T (D + 3) 296 (0, [(0, zl a), (2, zl b)], [], m) κ := by
  have hb2 : (-1) ≤ (z_lc a b) ∧ (z_lc a b) ≤ 1 := z_lcB a b
  have he0 : wr (z_lc a b) = (z_lc a b) := wr_id (by omega) (by omega)
  have key := @zb296_0r T hT D κ m a b
  simp only [he0, Int.toNat_natCast] at key
  exact key
    k1
    k2
end ZBlocks
