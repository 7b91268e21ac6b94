-- 65.b8.lean.txt
section
section ZBlocks
variable {T : Nat → Nat → zG → (Option zA → zM → Prop) → Prop}
theorem zb3_0r (hT : zRules T) {D : Nat} {κ : Option zA → zM → Prop} {m : zM} {f : Nat} 
    (o1 : T (D + 3) 3 (2, [(0, zr 4), (1, zr 2), (2, zi (f : Int)), (3, zi 0)], [], m) κ) :
    T (D + 3) 3 (0, [(0, zr 4), (1, zr 2), (2, zi (f : Int))], [], m) κ :=
  hT.1 [(2, [0, 1, 2, 3])] 6 (D + 3) 3 _ κ (o1)
theorem zb3_0 (hT : zRules T) {D : Nat} {κ : Option zA → zM → Prop} {m : zM} {f : Nat}  (h_f : f ≤ 78) 
    (k1 : T (D + 3) 3 (2, [(0, zr 4), (1, zr 2), (2, zi (f : Int)), (3, zi 0)], [], m) κ) :
    T (D + 3) 3 (0, [(0, zr 4), (1, zr 2), (2, zi (f : Int))], [], m) κ := by
  exact zb3_0r hT
    k1
theorem zb3_2r (hT : zRules T) {D : Nat} {κ : Option zA → zM → Prop} {m : zM} {f : Nat} {k : Nat} {lo : zL} (hlo : z_keep [0, 1, 2, 3] lo = [(0, zr 4), (1, zr 2), (2, zi (f : Int)), (3, zi (k : Int))]) 
    (o1 : ¬ wr (k : Int) < 26 → κ (some (zi 26)) m)
    (o2 : wr (k : Int) < 26 → ∀ j, zbd 3 j (m 3 j))
    (o3 : wr (k : Int) < 26 → (0 ≤ (m 2 3) ∧ (m 2 3) ≤ 1000))
    (o4 : wr (k : Int) < 26 → (0 ≤ (m 2 2) ∧ (m 2 2) ≤ 80))
    (o5 : wr (k : Int) < 26 → wr (nxC m) < 48 → κ (some (zi (wr (k : Int)))) m)
    (o6 : wr (k : Int) < 26 → ¬ wr (nxC m) < 48 → ¬ 57 < wr (nxC m) → ¬ wr (wr ((nxC m) - 48)) = (-1) → (0 ≤ wr ((f : Int) + (k : Int)) ∧ wr ((f : Int) + (k : Int)) < 104))
    (o7 : wr (k : Int) < 26 → ¬ wr (nxC m) < 48 → ¬ 57 < wr (nxC m) → ¬ wr (wr ((nxC m) - 48)) = (-1) → T (D + 3) 3 (2, [(0, zr 4), (1, zr 2), (2, zi (f : Int)), (3, zi ((k : Int) + 1))], [], (zu (zu m 2 3 ((m 2 3) + 1)) 7 ((wr ((f : Int) + (k : Int))).toNat) (wr ((nxC m) - 48)))) κ)
    (o8 : wr (k : Int) < 26 → ¬ wr (nxC m) < 48 → ¬ 57 < wr (nxC m) → wr (wr ((nxC m) - 48)) = (-1) → False)
    (o9 : wr (k : Int) < 26 → ¬ wr (nxC m) < 48 → 57 < wr (nxC m) → κ (some (zi (wr (k : Int)))) m) :
    T (D + 3) 3 (2, lo, [], m) κ :=
  zkeep hT hlo (hT.1 [(2, [0, 1, 2, 3])] 6 (D + 3) 3 _ κ (And.intro (fun a1 => (o1 a1)) (fun a2 => (hT.1 [(2, [0, 1, 2, 3])] 6 (D + 3) 3 (12, [(0, zr 4), (1, zr 2), (2, zi (f : Int)), (3, zi (k : Int))], [zi 9, zi 0, zr 2], m) _ (hT.1 [] 6 (D + 2) 71 _ _ (z_next hT (o2 (Classical.byContradiction a2)) (o3 (Classical.byContradiction a2)) (o4 (Classical.byContradiction a2)) (hT.1 [] 6 (D + 2) 71 _ _ (And.intro (fun a3 => (hT.1 [] 6 (D + 2) 71 (21, [(0, zr 2), (1, zi 0), (2, zi 9), (3, zi (nxC m))], [], m) _ (hT.1 [(2, [0, 1, 2, 3])] 6 (D + 3) 3 _ _ (And.intro (fun a5 => (z_litF a5 rfl).elim) (fun _ => (o5 (Classical.byContradiction a2) a3)))))) (fun a4 => (hT.1 [] 6 (D + 2) 71 (13, [(0, zr 2), (1, zi 0), (2, zi 9), (3, zi (nxC m))], [], m) _ (And.intro (fun a6 => (hT.1 [] 6 (D + 2) 71 (24, [(0, zr 2), (1, zi 0), (2, zi 9), (3, zi (nxC m))], [zr 2], m) _ (And.intro trivial (hT.1 [] 6 (D + 2) 71 (34, [(0, zr 2), (1, zi 0), (2, zi 9), (3, zi (nxC m))], [zi (nxC m)], (zu m 2 3 ((m 2 3) + 1))) _ (hT.1 [(2, [0, 1, 2, 3])] 6 (D + 3) 3 _ _ (And.intro (fun a8 => (hT.1 [(2, [0, 1, 2, 3])] 6 (D + 3) 3 (29, [(0, zr 4), (1, zr 2), (2, zi (f : Int)), (3, zi (k : Int)), (4, zi (wr ((nxC m) - 48)))], [zr 7], (zu m 2 3 ((m 2 3) + 1))) _ (And.intro (And.intro (o6 (Classical.byContradiction a2) a4 a6 a8) trivial) (hT.1 [(2, [0, 1, 2, 3])] 6 (D + 3) 3 (38, [(0, zr 4), (1, zr 2), (2, zi (f : Int)), (3, zi ((k : Int) + 1)), (4, zi (wr ((nxC m) - 48)))], [], (zu (zu m 2 3 ((m 2 3) + 1)) 7 ((wr ((f : Int) + (k : Int))).toNat) (wr ((nxC m) - 48)))) _ (o7 (Classical.byContradiction a2) a4 a6 a8))))) (fun a9 => (o8 (Classical.byContradiction a2) a4 a6 (Classical.byContradiction a9)).elim))))))) (fun a7 => (hT.1 [] 6 (D + 2) 71 (22, [(0, zr 2), (1, zi 0), (2, zi 9), (3, zi (nxC m))], [zi (-1)], m) _ (hT.1 [(2, [0, 1, 2, 3])] 6 (D + 3) 3 _ _ (And.intro (fun a10 => (z_litF a10 rfl).elim) (fun _ => (o9 (Classical.byContradiction a2) a4 (Classical.byContradiction a7))))))))))))))))))
theorem zb3_2 (hT : zRules T) {D : Nat} {κ : Option zA → zM → Prop} {m : zM} {f : Nat} {k : Nat} {lo : zL} (hlo : z_keep [0, 1, 2, 3] lo = [(0, zr 4), (1, zr 2), (2, zi (f : Int)), (3, zi (k : Int))])  (hB : zB m) (h_f : f ≤ 78) (h_k : k ≤ 26) (hf0 : 0 ≤ m 2 3 ∧ m 2 3 ≤ 80) 
    (k1 : ¬ (k : Int) < 26 → κ (some (zi 26)) m)
    (k2 : (k : Int) < 26 → (nxC m) < 48 → κ (some (zi (k : Int))) m)
    (k3 : (k : Int) < 26 → ¬ (nxC m) < 48 → ¬ 57 < (nxC m) → zB (zu (zu m 2 3 ((m 2 3) + 1)) 7 (f + k) ((nxC m) - 48)) → T (D + 3) 3 (2, [(0, zr 4), (1, zr 2), (2, zi (f : Int)), (3, zi ((k : Int) + 1))], [], (zu (zu m 2 3 ((m 2 3) + 1)) 7 (f + k) ((nxC m) - 48))) κ)
    (k4 : (k : Int) < 26 → ¬ (nxC m) < 48 → 57 < (nxC m) → κ (some (zi (k : Int))) m) :
    T (D + 3) 3 (2, lo, [], m) κ := by
  have hb3 : 0 ≤ (m 2 2) ∧ (m 2 2) ≤ 80 := hB 2 2
  have hb4 : (-1) ≤ (nxC m) ∧ (nxC m) ≤ 65535 := nxCBo m (fun j => hB 3 j)
  have he0 : wr (k : Int) = (k : Int) := wr_id (by omega) (by omega)
  have he1 : wr (nxC m) = (nxC m) := wr_id (by omega) (by omega)
  have he2 : wr ((nxC m) - 48) = ((nxC m) - 48) := wr_id (by omega) (by omega)
  have he3 : wr ((f : Int) + (k : Int)) = ((f : Int) + (k : Int)) := wr_id (by omega) (by omega)
  have he4 : ((f : Int) + (k : Int)).toNat = f + k := by omega
  have key := @zb3_2r T hT D κ m f k lo hlo
  simp only [he0, he1, he2, he3, he4, Int.toNat_natCast] at key
  exact key
    k1
    (fun x0 => fun j => hB 3 j)
    (fun x0 => by refine ⟨?_, ?_⟩ <;> omega)
    (fun x0 => by refine ⟨?_, ?_⟩ <;> omega)
    k2
    (fun x0 x1 x2 x3 => by refine ⟨?_, ?_⟩ <;> omega)
    (fun x0 x1 x2 x3 => k3 x0 x1 x2 (zB_u (zB_u hB (show (-1) ≤ ((m 2 3) + 1) ∧ ((m 2 3) + 1) ≤ 100 from ⟨by omega, by omega⟩)) (show 0 ≤ ((nxC m) - 48) ∧ ((nxC m) - 48) ≤ 9 from ⟨by omega, by omega⟩)))
    (fun x0 x1 x2 x3 => by omega)
    k4
theorem zb4_0r (hT : zRules T) {D : Nat} {κ : Option zA → zM → Prop} {m : zM} {n : Nat} 
    (o1 : ((0 : Int) ≤ 0 ∧ (0 : Int) ≤ 0 ∧ (0 : Int) ≤ wr ((n : Int) * 26) ∧ 0 + wr ((n : Int) * 26) ≤ 104 ∧ 0 + wr ((n : Int) * 26) ≤ 104))
    (o2 : ((0 : Int) ≤ 0 ∧ (0 : Int) ≤ 0 ∧ (0 : Int) ≤ wr (n : Int) ∧ 0 + wr (n : Int) ≤ 4 ∧ 0 + wr (n : Int) ≤ 4))
    (o3 : κ (none) (zu (z_cp (z_cp m 7 5 0 0 ((wr ((n : Int) * 26)).toNat)) 8 6 0 0 ((wr (n : Int)).toNat)) 4 4 (n : Int))) :
    T (D + 2) 4 (0, [(0, zr 4), (1, zi (n : Int))], [], m) κ :=
  hT.1 [] 6 (D + 2) 4 _ κ (hT.1 [] 6 (D + 2) 4 (10, [(0, zr 4), (1, zi (n : Int))], [zi 0, zr 5, zi 0, zr 7], m) _ (And.intro (o1) (hT.1 [] 6 (D + 2) 4 (21, [(0, zr 4), (1, zi (n : Int))], [zr 8], (z_cp m 7 5 0 0 ((wr ((n : Int) * 26)).toNat))) _ (And.intro (o2) (hT.1 [] 6 (D + 2) 4 (31, [(0, zr 4), (1, zi (n : Int))], [], (z_cp (z_cp m 7 5 0 0 ((wr ((n : Int) * 26)).toNat)) 8 6 0 0 ((wr (n : Int)).toNat))) _ (And.intro trivial (o3)))))))
theorem zb4_0 (hT : zRules T) {D : Nat} {κ : Option zA → zM → Prop} {m : zM} {n : Nat}  (hB : zB m) (h_n : n ≤ 4) 
    (k1 : κ (none) (zu (z_cp (z_cp m 7 5 0 0 (26 * n)) 8 6 0 0 n) 4 4 (n : Int))) :
    T (D + 2) 4 (0, [(0, zr 4), (1, zi (n : Int))], [], m) κ := by
  have he0 : wr ((n : Int) * 26) = ((n : Int) * 26) := wr_id (by omega) (by omega)
  have he1 : ((n : Int) * 26).toNat = 26 * n := by omega
  have he2 : wr (n : Int) = (n : Int) := wr_id (by omega) (by omega)
  have he3 : (n : Int).toNat = n := by omega
  have key := @zb4_0r T hT D κ m n
  simp only [he0, he1, he2, he3, Int.toNat_natCast] at key
  exact key
    (by refine ⟨?_, ?_, ?_, ?_, ?_⟩ <;> omega)
    (by refine ⟨?_, ?_, ?_, ?_, ?_⟩ <;> omega)
    k1
theorem zb2_0r (hT : zRules T) {D : Nat} {κ : Option zA → zM → Prop} {m : zM} 
    (o1 : T (D + 4) 2 (2, [(0, zr 4), (1, zr 2), (2, zi 0)], [], m) κ) :
    T (D + 4) 2 (0, [(0, zr 4), (1, zr 2)], [], m) κ :=
  hT.1 [(2, [0, 1, 2])] 6 (D + 4) 2 _ κ (o1)
theorem zb2_0 (hT : zRules T) {D : Nat} {κ : Option zA → zM → Prop} {m : zM}  
    (k1 : T (D + 4) 2 (2, [(0, zr 4), (1, zr 2), (2, zi 0)], [], m) κ) :
    T (D + 4) 2 (0, [(0, zr 4), (1, zr 2)], [], m) κ := by
  exact zb2_0r hT
    k1
theorem zb2_2r (hT : zRules T) {D : Nat} {κ : Option zA → zM → Prop} {m : zM} {p : Nat} {lo : zL} (hlo : z_keep [0, 1, 2] lo = [(0, zr 4), (1, zr 2), (2, zi (p : Int))]) 
    (o1 : ¬ wr (p : Int) < 4 → κ (some (zi (-1))) m)
    (o2 : wr (p : Int) < 4 → T (D + 3) 3 (0, [(0, zr 4), (1, zr 2), (2, zi ((p : Int) * 26))], [], m) (fun r m1 => T (D + 4) 2 (21, [(0, zr 4), (1, zr 2), (2, zi (p : Int))], r.toList ++ [zi (p : Int), zr 8], m1) κ)) :
    T (D + 4) 2 (2, lo, [], m) κ :=
  zkeep hT hlo (hT.1 [(2, [0, 1, 2])] 6 (D + 4) 2 _ κ (And.intro (fun a1 => (o1 a1)) (fun a2 => (hT.1 [(2, [0, 1, 2])] 6 (D + 4) 2 (12, [(0, zr 4), (1, zr 2), (2, zi (p : Int))], [zi (p : Int), zr 8], m) _ (o2 (Classical.byContradiction a2))))))
theorem zb2_2 (hT : zRules T) {D : Nat} {κ : Option zA → zM → Prop} {m : zM} {p : Nat} {lo : zL} (hlo : z_keep [0, 1, 2] lo = [(0, zr 4), (1, zr 2), (2, zi (p : Int))])  (hB : zB m) (h_p : p ≤ 4) 
    (k1 : ¬ (p : Int) < 4 → κ (some (zi (-1))) m)
    (k2 : (p : Int) < 4 → T (D + 3) 3 (0, [(0, zr 4), (1, zr 2), (2, zi ((p : Int) * 26))], [], m) (fun r m1 => T (D + 4) 2 (21, [(0, zr 4), (1, zr 2), (2, zi (p : Int))], r.toList ++ [zi (p : Int), zr 8], m1) κ)) :
    T (D + 4) 2 (2, lo, [], m) κ := by
  have he0 : wr (p : Int) = (p : Int) := wr_id (by omega) (by omega)
  have key := @zb2_2r T hT D κ m p lo hlo
  simp only [he0, Int.toNat_natCast] at key
  exact key
    k1
    k2
theorem zb2_21r (hT : zRules T) {D : Nat} {κ : Option zA → zM → Prop} {m : zM} {p : Nat} {v : Nat} {lo : zL} (hlo : z_keep [0, 1, 2] lo = [(0, zr 4), (1, zr 2), (2, zi (p : Int))]) 
    (o1 : (0 ≤ wr (p : Int) ∧ wr (p : Int) < 4))
    (o2 : (0 ≤ wr (p : Int) ∧ wr (p : Int) < 4))
    (o3 : ¬ wr ((zu m 8 ((wr (p : Int)).toNat) (v : Int)) 8 ((wr (p : Int)).toNat)) < 1 → ¬ wr (m 2 3) = wr (m 2 1) → ∀ j, zbd 3 j ((zu m 8 ((wr (p : Int)).toNat) (v : Int)) 3 j))
    (o4 : ¬ wr ((zu m 8 ((wr (p : Int)).toNat) (v : Int)) 8 ((wr (p : Int)).toNat)) < 1 → ¬ wr (m 2 3) = wr (m 2 1) → (0 ≤ (m 2 3) ∧ (m 2 3) ≤ 1000))
    (o5 : ¬ wr ((zu m 8 ((wr (p : Int)).toNat) (v : Int)) 8 ((wr (p : Int)).toNat)) < 1 → ¬ wr (m 2 3) = wr (m 2 1) → (0 ≤ (m 2 2) ∧ (m 2 2) ≤ 80))
    (o6 : ¬ wr ((zu m 8 ((wr (p : Int)).toNat) (v : Int)) 8 ((wr (p : Int)).toNat)) < 1 → ¬ wr (m 2 3) = wr (m 2 1) → wr (nxC (zu m 8 ((wr (p : Int)).toNat) (v : Int))) = 47 → T (D + 4) 2 (2, [(0, zr 4), (1, zr 2), (2, zi ((p : Int) + 1))], [], (zu (zu m 8 ((wr (p : Int)).toNat) (v : Int)) 2 3 ((m 2 3) + 1))) κ)
    (o7 : ¬ wr ((zu m 8 ((wr (p : Int)).toNat) (v : Int)) 8 ((wr (p : Int)).toNat)) < 1 → ¬ wr (m 2 3) = wr (m 2 1) → ¬ wr (nxC (zu m 8 ((wr (p : Int)).toNat) (v : Int))) = 47 → κ (some (zi (-1))) (zu m 8 ((wr (p : Int)).toNat) (v : Int)))
    (o8 : ¬ wr ((zu m 8 ((wr (p : Int)).toNat) (v : Int)) 8 ((wr (p : Int)).toNat)) < 1 → wr (m 2 3) = wr (m 2 1) → ((0 : Int) ≤ 0 ∧ (0 : Int) ≤ 0 ∧ (0 : Int) ≤ wr (((p : Int) + 1) * 26) ∧ 0 + wr (((p : Int) + 1) * 26) ≤ 104 ∧ 0 + wr (((p : Int) + 1) * 26) ≤ 104))
    (o9 : ¬ wr ((zu m 8 ((wr (p : Int)).toNat) (v : Int)) 8 ((wr (p : Int)).toNat)) < 1 → wr (m 2 3) = wr (m 2 1) → ((0 : Int) ≤ 0 ∧ (0 : Int) ≤ 0 ∧ (0 : Int) ≤ wr ((p : Int) + 1) ∧ 0 + wr ((p : Int) + 1) ≤ 4 ∧ 0 + wr ((p : Int) + 1) ≤ 4))
    (o10 : ¬ wr ((zu m 8 ((wr (p : Int)).toNat) (v : Int)) 8 ((wr (p : Int)).toNat)) < 1 → wr (m 2 3) = wr (m 2 1) → κ (some (zi (wr ((p : Int) + 1)))) (zu (z_cp (z_cp (zu m 8 ((wr (p : Int)).toNat) (v : Int)) 7 5 0 0 ((wr (((p : Int) + 1) * 26)).toNat)) 8 6 0 0 ((wr ((p : Int) + 1)).toNat)) 4 4 ((p : Int) + 1)))
    (o11 : wr ((zu m 8 ((wr (p : Int)).toNat) (v : Int)) 8 ((wr (p : Int)).toNat)) < 1 → κ (some (zi (-1))) (zu m 8 ((wr (p : Int)).toNat) (v : Int))) :
    T (D + 4) 2 (21, lo, [zi (v : Int), zi (p : Int), zr 8], m) κ :=
  zkeep hT hlo (hT.1 [(2, [0, 1, 2])] 6 (D + 4) 2 _ κ (And.intro (And.intro (o1) trivial) (And.intro (o2) (hT.1 [(2, [0, 1, 2])] 6 (D + 4) 2 (29, [(0, zr 4), (1, zr 2), (2, zi (p : Int))], [zi 1, zi ((zu m 8 ((wr (p : Int)).toNat) (v : Int)) 8 ((wr (p : Int)).toNat))], (zu m 8 ((wr (p : Int)).toNat) (v : Int))) _ (And.intro (fun a1 => (hT.1 [] 6 (D + 3) 68 _ _ (And.intro (fun a3 => (hT.1 [] 6 (D + 3) 68 (16, [(0, zr 2)], [zi 0], (zu m 8 ((wr (p : Int)).toNat) (v : Int))) _ (And.intro (z_b01L rfl) (hT.1 [(2, [0, 1, 2])] 6 (D + 4) 2 _ _ (And.intro (fun _ => (hT.1 [] 6 (D + 3) 70 _ _ (z_next hT (o3 a1 a3) (o4 a1 a3) (o5 a1 a3) (hT.1 [] 6 (D + 3) 70 _ _ (And.intro (fun a6 => (hT.1 [] 6 (D + 3) 70 (16, [(0, zr 2), (1, zi 47)], [zi 1, zi (m 2 3), zr 2], (zu m 8 ((wr (p : Int)).toNat) (v : Int))) _ (And.intro trivial (And.intro (z_b01L rfl) (hT.1 [(2, [0, 1, 2])] 6 (D + 4) 2 _ _ (And.intro (fun _ => (o6 a1 a3 a6)) (fun a8 => (a8 (z_litT rfl)).elim))))))) (fun a7 => (And.intro (z_b01L rfl) (hT.1 [(2, [0, 1, 2])] 6 (D + 4) 2 _ _ (And.intro (fun a9 => (z_litF a9 rfl).elim) (fun _ => (o7 a1 a3 a7))))))))))) (fun a5 => (a5 (z_litT rfl)).elim)))))) (fun a4 => (hT.1 [] 6 (D + 3) 68 (12, [(0, zr 2)], [zi 1], (zu m 8 ((wr (p : Int)).toNat) (v : Int))) _ (And.intro (z_b01L rfl) (hT.1 [(2, [0, 1, 2])] 6 (D + 4) 2 _ _ (And.intro (fun a10 => (z_litF a10 rfl).elim) (fun _ => (hT.1 [] 6 (D + 3) 4 _ _ (hT.1 [] 6 (D + 3) 4 (10, [(0, zr 4), (1, zi ((p : Int) + 1))], [zi 0, zr 5, zi 0, zr 7], (zu m 8 ((wr (p : Int)).toNat) (v : Int))) _ (And.intro (o8 a1 (Classical.byContradiction a4)) (hT.1 [] 6 (D + 3) 4 (21, [(0, zr 4), (1, zi ((p : Int) + 1))], [zr 8], (z_cp (zu m 8 ((wr (p : Int)).toNat) (v : Int)) 7 5 0 0 ((wr (((p : Int) + 1) * 26)).toNat))) _ (And.intro (o9 a1 (Classical.byContradiction a4)) (hT.1 [] 6 (D + 3) 4 (31, [(0, zr 4), (1, zi ((p : Int) + 1))], [], (z_cp (z_cp (zu m 8 ((wr (p : Int)).toNat) (v : Int)) 7 5 0 0 ((wr (((p : Int) + 1) * 26)).toNat)) 8 6 0 0 ((wr ((p : Int) + 1)).toNat))) _ (And.intro trivial (hT.1 [(2, [0, 1, 2])] 6 (D + 4) 2 _ _ (o10 a1 (Classical.byContradiction a4))))))))))))))))))) (fun a2 => (o11 (Classical.byContradiction a2))))))))
theorem zb2_21 (hT : zRules T) {D : Nat} {κ : Option zA → zM → Prop} {m : zM} {p : Nat} {v : Nat} {lo : zL} (hlo : z_keep [0, 1, 2] lo = [(0, zr 4), (1, zr 2), (2, zi (p : Int))])  (hB : zB m) (h_p : p ≤ 3) (h_v : v ≤ 26) (hf0 : 0 ≤ m 2 3 ∧ m 2 3 ≤ 80) 
    (k1 : ¬ (v : Int) < 1 → ¬ (m 2 3) = (m 2 1) → (nxC (zu m 8 p (v : Int))) = 47 → zB (zu (zu m 8 p (v : Int)) 2 3 ((m 2 3) + 1)) → T (D + 4) 2 (2, [(0, zr 4), (1, zr 2), (2, zi ((p : Int) + 1))], [], (zu (zu m 8 p (v : Int)) 2 3 ((m 2 3) + 1))) κ)
    (k2 : ¬ (v : Int) < 1 → ¬ (m 2 3) = (m 2 1) → ¬ (nxC (zu m 8 p (v : Int))) = 47 → zB (zu m 8 p (v : Int)) → κ (some (zi (-1))) (zu m 8 p (v : Int)))
    (k3 : ¬ (v : Int) < 1 → (m 2 3) = (m 2 1) → κ (some (zi ((p : Int) + 1))) (zu (z_cp (z_cp (zu m 8 p (v : Int)) 7 5 0 0 (26 * p + 26)) 8 6 0 0 (p + 1)) 4 4 ((p : Int) + 1)))
    (k4 : (v : Int) < 1 → zB (zu m 8 p (v : Int)) → κ (some (zi (-1))) (zu m 8 p (v : Int))) :
    T (D + 4) 2 (21, lo, [zi (v : Int), zi (p : Int), zr 8], m) κ := by
  have hb3 : 0 ≤ (m 2 1) ∧ (m 2 1) ≤ 80 := hB 2 1
  have hb4 : 0 ≤ (m 2 2) ∧ (m 2 2) ≤ 80 := hB 2 2
  have hb5 : (-1) ≤ (nxC (zu m 8 p (v : Int))) ∧ (nxC (zu m 8 p (v : Int))) ≤ 65535 := nxCBo (zu m 8 p (v : Int)) (fun j => hB 3 j)
  have he0 : wr (p : Int) = (p : Int) := wr_id (by omega) (by omega)
  have he1 : (p : Int).toNat = p := by omega
  have he2 : ((zu m 8 p (v : Int)) 8 p) = (v : Int) := (zu_sm (by omega))
  have he3 : wr (v : Int) = (v : Int) := wr_id (by omega) (by omega)
  have he4 : wr (m 2 3) = (m 2 3) := wr_id (by omega) (by omega)
  have he5 : wr (m 2 1) = (m 2 1) := wr_id (by omega) (by omega)
  have he6 : wr (((p : Int) + 1) * 26) = (((p : Int) + 1) * 26) := wr_id (by omega) (by omega)
  have he7 : (((p : Int) + 1) * 26).toNat = 26 * p + 26 := by omega
  have he8 : wr ((p : Int) + 1) = ((p : Int) + 1) := wr_id (by omega) (by omega)
  have he9 : ((p : Int) + 1).toNat = p + 1 := by omega
  have he10 : wr (nxC (zu m 8 p (v : Int))) = (nxC (zu m 8 p (v : Int))) := wr_id (by omega) (by omega)
  have key := @zb2_21r T hT D κ m p v lo hlo
  simp only [he0, he1, he2, he3, he4, he5, he6, he7, he8, he9, he10, Int.toNat_natCast] at key
  exact key
    (by refine ⟨?_, ?_⟩ <;> omega)
    (by refine ⟨?_, ?_⟩ <;> omega)
    (fun x0 x1 => fun j => hB 3 j)
    (fun x0 x1 => by refine ⟨?_, ?_⟩ <;> omega)
    (fun x0 x1 => by refine ⟨?_, ?_⟩ <;> omega)
    (fun x0 x1 x2 => k1 x0 x1 x2 (zB_u (zB_u hB (show 0 ≤ (v : Int) ∧ (v : Int) ≤ 26 from ⟨by omega, by omega⟩)) (show (-1) ≤ ((m 2 3) + 1) ∧ ((m 2 3) + 1) ≤ 100 from ⟨by omega, by omega⟩)))
    (fun x0 x1 x2 => k2 x0 x1 x2 (zB_u hB (show 0 ≤ (v : Int) ∧ (v : Int) ≤ 26 from ⟨by omega, by omega⟩)))
    (fun x0 x1 => by refine ⟨?_, ?_, ?_, ?_, ?_⟩ <;> omega)
    (fun x0 x1 => by refine ⟨?_, ?_, ?_, ?_, ?_⟩ <;> omega)
    k3
    (fun x0 => k4 x0 (zB_u hB (show 0 ≤ (v : Int) ∧ (v : Int) ≤ 26 from ⟨by omega, by omega⟩)))
theorem zb114_0r (hT : zRules T) {D : Nat} {κ : Option zA → zM → Prop} {m : zM} 
    (o1 : 80 < wr (m 2 1) → False)
    (o2 : ¬ 80 < wr (m 2 1) → T (D + 4) 2 (0, [(0, zr 4), (1, zr 2)], [], (zu (zu m 2 3 0) 2 2 (wr (m 2 1)))) (fun r m1 => T (D + 5) 114 (21, [(0, zr 1)], r.toList ++ [zr 1], m1) κ)) :
    T (D + 5) 114 (0, [(0, zr 1)], [], m) κ :=
  hT.1 [] 6 (D + 5) 114 _ κ (hT.1 [] 6 (D + 4) 66 _ _ (And.intro trivial (hT.1 [] 6 (D + 4) 66 (10, [(0, zr 2), (1, zi 80)], [zi (m 2 1), zr 2], (zu m 2 3 0)) _ (hT.1 [] 6 (D + 3) 294 _ _ (And.intro (fun a1 => (o1 a1).elim) (fun a2 => (hT.1 [] 6 (D + 4) 66 _ _ (And.intro trivial (hT.1 [] 6 (D + 5) 114 _ _ (o2 a2))))))))))
theorem zb114_0 (hT : zRules T) {D : Nat} {κ : Option zA → zM → Prop} {m : zM}  (hB : zB m) 
    (k1 : zB (zu (zu m 2 3 0) 2 2 (m 2 1)) → T (D + 4) 2 (0, [(0, zr 4), (1, zr 2)], [], (zu (zu m 2 3 0) 2 2 (m 2 1))) (fun r m1 => T (D + 5) 114 (21, [(0, zr 1)], r.toList ++ [zr 1], m1) κ)) :
    T (D + 5) 114 (0, [(0, zr 1)], [], m) κ := by
  have hb0 : 0 ≤ (m 2 1) ∧ (m 2 1) ≤ 80 := hB 2 1
  have he0 : wr (m 2 1) = (m 2 1) := wr_id (by omega) (by omega)
  have key := @zb114_0r T hT D κ m 
  simp only [he0, Int.toNat_natCast] at key
  exact key
    (fun x0 => by omega)
    (fun x0 => k1  (zB_u (zB_u hB (show (-1) ≤ 0 ∧ 0 ≤ 100 from ⟨by omega, by omega⟩)) (show 0 ≤ (m 2 1) ∧ (m 2 1) ≤ 80 from ⟨by omega, by omega⟩)))
theorem zb114_21r (hT : zRules T) {D : Nat} {κ : Option zA → zM → Prop} {m : zM} {v : Int} {lo : zL} (hlo : z_keep [] lo = []) 
    (o1 : ¬ wr v < 0 → κ (some (zi (wr (wr v)))) (zu m 2 1 0))
    (o2 : wr v < 0 → κ (some (zi (wr (wr ((-1) - (m 2 3)))))) (zu m 2 1 0)) :
    T (D + 5) 114 (21, lo, [zi v, zr 1], m) κ :=
  zkeep hT hlo (hT.1 [] 6 (D + 5) 114 _ κ (hT.1 [] 6 (D + 4) 168 _ _ (And.intro (fun a1 => (hT.1 [] 6 (D + 4) 168 (22, [(0, zr 1), (1, zi v), (2, zi v)], [zr 2], m) _ (And.intro trivial (hT.1 [] 6 (D + 5) 114 _ _ (o1 a1))))) (fun a2 => (hT.1 [] 6 (D + 4) 168 (12, [(0, zr 1), (1, zi v)], [zi (m 2 3), zi (-1)], m) _ (hT.1 [] 6 (D + 4) 168 (23, [(0, zr 1), (1, zi v), (2, zi ((-1) - (m 2 3)))], [zi 0, zr 2], m) _ (And.intro trivial (hT.1 [] 6 (D + 5) 114 _ _ (o2 (Classical.byContradiction a2))))))))))
theorem zb114_21 (hT : zRules T) {D : Nat} {κ : Option zA → zM → Prop} {m : zM} {v : Int} {lo : zL} (hlo : z_keep [] lo = [])  (hB : zB m) (h_v : (-1) ≤ v ∧ v ≤ 4) 
    (k1 : ¬ v < 0 → zB (zu m 2 1 0) → κ (some (zi v)) (zu m 2 1 0))
    (k2 : v < 0 → zB (zu m 2 1 0) → κ (some (zi ((-1) - (m 2 3)))) (zu m 2 1 0)) :
    T (D + 5) 114 (21, lo, [zi v, zr 1], m) κ := by
  have hb1 : (-1) ≤ (m 2 3) ∧ (m 2 3) ≤ 100 := hB 2 3
  have he0 : wr v = v := wr_id (by omega) (by omega)
  have he1 : wr ((-1) - (m 2 3)) = ((-1) - (m 2 3)) := wr_id (by omega) (by omega)
  have key := @zb114_21r T hT D κ m v lo hlo
  simp only [he0, he1, Int.toNat_natCast] at key
  exact key
    (fun x0 => k1 x0 (zB_u hB (show 0 ≤ 0 ∧ 0 ≤ 80 from ⟨by omega, by omega⟩)))
    (fun x0 => k2 x0 (zB_u hB (show 0 ≤ 0 ∧ 0 ≤ 80 from ⟨by omega, by omega⟩)))
theorem zb205_0r (hT : zRules T) {D : Nat} {κ : Option zA → zM → Prop} {m : zM} 
    (o1 : T (D + 3) 205 (28, [(0, zr 74), (1, zi 0), (2, zi 1)], [], (zu (zu (zu (zu (zu (zu (zu m 74 12 0) 74 13 80) 74 14 (m 74 9)) 74 15 80) 74 16 0) 74 17 (-1)) 74 9 0)) κ) :
    T (D + 3) 205 (0, [(0, zr 74)], [], m) κ :=
  hT.1 [(28, [0, 1, 2]), (54, [0, 1, 3]), (205, [0, 1, 3]), (225, [0, 1, 3, 4])] 6 (D + 3) 205 _ κ (And.intro trivial (hT.1 [(28, [0, 1, 2]), (54, [0, 1, 3]), (205, [0, 1, 3]), (225, [0, 1, 3, 4])] 6 (D + 3) 205 (10, [(0, zr 74)], [zr 80, zr 74], (zu m 74 12 0)) _ (hT.1 [] 6 (D + 2) 197 _ _ (And.intro trivial (hT.1 [] 6 (D + 2) 197 (10, [(0, zr 74), (1, zr 80), (2, zi (m 74 9)), (3, zi 80)], [], (zu (zu (zu m 74 12 0) 74 13 80) 74 14 (m 74 9))) _ (And.intro trivial (And.intro trivial (hT.1 [] 6 (D + 2) 197 (20, [(0, zr 74), (1, zr 80), (2, zi (m 74 9)), (3, zi 80)], [], (zu (zu (zu (zu (zu m 74 12 0) 74 13 80) 74 14 (m 74 9)) 74 15 80) 74 16 0)) _ (And.intro trivial (hT.1 [(28, [0, 1, 2]), (54, [0, 1, 3]), (205, [0, 1, 3]), (225, [0, 1, 3, 4])] 6 (D + 3) 205 _ _ (And.intro trivial (hT.1 [(28, [0, 1, 2]), (54, [0, 1, 3]), (205, [0, 1, 3]), (225, [0, 1, 3, 4])] 6 (D + 3) 205 (27, [(0, zr 74), (1, zi 0)], [zi 1], (zu (zu (zu (zu (zu (zu (zu m 74 12 0) 74 13 80) 74 14 (m 74 9)) 74 15 80) 74 16 0) 74 17 (-1)) 74 9 0)) _ (o1)))))))))))))
theorem zb205_0 (hT : zRules T) {D : Nat} {κ : Option zA → zM → Prop} {m : zM}  (hB : zB m) 
    (k1 : zB (zu (zu (zu (zu (zu (zu (zu m 74 12 0) 74 13 80) 74 14 (m 74 9)) 74 15 80) 74 16 0) 74 17 (-1)) 74 9 0) → T (D + 3) 205 (28, [(0, zr 74), (1, zi 0), (2, zi 1)], [], (zu (zu (zu (zu (zu (zu (zu m 74 12 0) 74 13 80) 74 14 (m 74 9)) 74 15 80) 74 16 0) 74 17 (-1)) 74 9 0)) κ) :
    T (D + 3) 205 (0, [(0, zr 74)], [], m) κ := by
  have hb0 : 0 ≤ (m 74 9) ∧ (m 74 9) ≤ 80 := hB 74 9
  exact zb205_0r hT
    (k1  (zB_u (zB_u (zB_u (zB_u (zB_u (zB_u (zB_u hB trivial) trivial) (show 0 ≤ (m 74 9) ∧ (m 74 9) ≤ 80 from ⟨by omega, by omega⟩)) (show 0 ≤ 80 ∧ 80 ≤ 80 from ⟨by omega, by omega⟩)) (show 0 ≤ 0 ∧ 0 ≤ 100 from ⟨by omega, by omega⟩)) trivial) (show 0 ≤ 0 ∧ 0 ≤ 80 from ⟨by omega, by omega⟩)))
theorem zb205_28ar (hT : zRules T) {D : Nat} {κ : Option zA → zM → Prop} {m : zM} {n : Nat} {lo : zL} (hlo : z_keep [0, 1, 2] lo = [(0, zr 74), (1, zi (n : Int)), (2, zi 0)]) 
    (o1 : ¬ wr (m 74 16) < wr (m 74 14) → ¬ wr (m 74 17) = (-1) → False)
    (o2 : ¬ wr (m 74 16) < wr (m 74 14) → wr (m 74 17) = (-1) → T (D + 3) 205 (205, [(0, zr 74), (1, zi (n : Int)), (3, zi 0)], [], (zu m 74 1 (n : Int))) κ)
    (o3 : wr (m 74 16) < wr (m 74 14) → ¬ wr (m 74 17) = (-1) → False)
    (o4 : wr (m 74 16) < wr (m 74 14) → wr (m 74 17) = (-1) → ¬ wr (m 74 16) = (-1) → κ (some (zi (wr ((-1) - (m 74 16))))) (zu m 74 17 (m 74 16)))
    (o5 : wr (m 74 16) < wr (m 74 14) → wr (m 74 17) = (-1) → wr (m 74 16) = (-1) → False) :
    T (D + 3) 205 (28, lo, [], m) κ :=
  zkeep hT hlo (hT.1 [(28, [0, 1, 2]), (54, [0, 1, 3]), (205, [0, 1, 3]), (225, [0, 1, 3, 4])] 6 (D + 3) 205 _ κ (And.intro (fun _ => (hT.1 [(28, [0, 1, 2]), (54, [0, 1, 3]), (205, [0, 1, 3]), (225, [0, 1, 3, 4])] 6 (D + 3) 205 (173, [(0, zr 74), (1, zi (n : Int)), (2, zi 0)], [zi (m 74 14), zi (m 74 16)], m) _ (And.intro (fun a2 => (hT.1 [] 6 (D + 2) 199 _ _ (And.intro (fun a4 => (o1 a2 a4).elim) (fun a5 => (hT.1 [] 6 (D + 2) 199 (13, [(0, zr 74)], [zi 1], m) _ (And.intro (z_b01L rfl) (hT.1 [(28, [0, 1, 2]), (54, [0, 1, 3]), (205, [0, 1, 3]), (225, [0, 1, 3, 4])] 6 (D + 3) 205 _ _ (And.intro (fun _ => (And.intro trivial (o2 a2 (Classical.byContradiction a5)))) (fun a6 => (a6 (z_litT rfl)).elim))))))))) (fun a3 => (hT.1 [] 6 (D + 2) 200 _ _ (hT.1 [] 6 (D + 1) 199 _ _ (And.intro (fun a7 => (o3 (Classical.byContradiction a3) a7).elim) (fun a8 => (hT.1 [] 6 (D + 1) 199 (13, [(0, zr 74)], [zi 1], m) _ (And.intro (z_b01L rfl) (hT.1 [] 6 (D + 2) 200 _ _ (And.intro (fun a9 => (z_litF a9 rfl).elim) (fun _ => (And.intro trivial (hT.1 [(28, [0, 1, 2]), (54, [0, 1, 3]), (205, [0, 1, 3]), (225, [0, 1, 3, 4])] 6 (D + 3) 205 _ _ (hT.1 [] 6 (D + 2) 199 _ _ (And.intro (fun a10 => (And.intro (z_b01L rfl) (hT.1 [(28, [0, 1, 2]), (54, [0, 1, 3]), (205, [0, 1, 3]), (225, [0, 1, 3, 4])] 6 (D + 3) 205 _ _ (And.intro (fun a12 => (z_litF a12 rfl).elim) (fun _ => (o4 (Classical.byContradiction a3) (Classical.byContradiction a8) a10)))))) (fun a11 => (o5 (Classical.byContradiction a3) (Classical.byContradiction a8) (Classical.byContradiction a11)).elim)))))))))))))))))) (fun a1 => (a1 (z_litT rfl)).elim)))
theorem zb205_28a (hT : zRules T) {D : Nat} {κ : Option zA → zM → Prop} {m : zM} {n : Nat} {lo : zL} (hlo : z_keep [0, 1, 2] lo = [(0, zr 74), (1, zi (n : Int)), (2, zi 0)])  (hB : zB m) (hrd : m 74 13 = 80) (h_n : n ≤ 4) (hf0 : (-1) ≤ m 74 17 ∧ m 74 17 ≤ (-1)) (hf1 : 0 ≤ m 74 16 ∧ m 74 16 ≤ 80) 
    (k1 : ¬ (m 74 16) < (m 74 14) → zB (zu m 74 1 (n : Int)) → T (D + 3) 205 (205, [(0, zr 74), (1, zi (n : Int)), (3, zi 0)], [], (zu m 74 1 (n : Int))) κ)
    (k2 : (m 74 16) < (m 74 14) → zB (zu m 74 17 (m 74 16)) → κ (some (zi ((-1) - (m 74 16)))) (zu m 74 17 (m 74 16))) :
    T (D + 3) 205 (28, lo, [], m) κ := by
  have hb3 : 0 ≤ (m 74 14) ∧ (m 74 14) ≤ 80 := hB 74 14
  have he0 : wr (m 74 16) = (m 74 16) := wr_id (by omega) (by omega)
  have he1 : wr (m 74 14) = (m 74 14) := wr_id (by omega) (by omega)
  have he2 : wr (m 74 17) = (m 74 17) := wr_id (by omega) (by omega)
  have he3 : wr ((-1) - (m 74 16)) = ((-1) - (m 74 16)) := wr_id (by omega) (by omega)
  have key := @zb205_28ar T hT D κ m n lo hlo
  simp only [he0, he1, he2, he3, Int.toNat_natCast] at key
  exact key
    (fun x0 x1 => by omega)
    (fun x0 x1 => k1 x0 (zB_u hB (show 0 ≤ (n : Int) ∧ (n : Int) ≤ 4 from ⟨by omega, by omega⟩)))
    (fun x0 x1 => by omega)
    (fun x0 x1 x2 => k2 x0 (zB_u hB trivial))
    (fun x0 x1 x2 => by omega)
theorem zb205_28br (hT : zRules T) {D : Nat} {κ : Option zA → zM → Prop} {m : zM} {n : Nat} {lo : zL} (hlo : z_keep [0, 1, 2] lo = [(0, zr 74), (1, zi (n : Int)), (2, zi 1)]) 
    (o1 : ¬ wr (m 74 17) = (-1) → False)
    (o2 : wr (m 74 17) = (-1) → ¬ wr (n : Int) = 4 → T (D + 3) 205 (54, [(0, zr 74), (1, zi (n : Int)), (3, zi 0)], [], m) κ)
    (o3 : wr (m 74 17) = (-1) → wr (n : Int) = 4 → False) :
    T (D + 3) 205 (28, lo, [], m) κ :=
  zkeep hT hlo (hT.1 [(28, [0, 1, 2]), (54, [0, 1, 3]), (205, [0, 1, 3]), (225, [0, 1, 3, 4])] 6 (D + 3) 205 _ κ (And.intro (fun a1 => (z_litF a1 rfl).elim) (fun _ => (hT.1 [] 6 (D + 2) 199 _ _ (And.intro (fun a2 => (o1 a2).elim) (fun a3 => (hT.1 [] 6 (D + 2) 199 (13, [(0, zr 74)], [zi 1], m) _ (And.intro (z_b01L rfl) (hT.1 [(28, [0, 1, 2]), (54, [0, 1, 3]), (205, [0, 1, 3]), (225, [0, 1, 3, 4])] 6 (D + 3) 205 _ _ (And.intro (fun a4 => (z_litF a4 rfl).elim) (fun _ => (And.intro (fun a5 => (o2 (Classical.byContradiction a3) a5)) (fun a6 => (o3 (Classical.byContradiction a3) (Classical.byContradiction a6)).elim)))))))))))))
theorem zb205_28b (hT : zRules T) {D : Nat} {κ : Option zA → zM → Prop} {m : zM} {n : Nat} {lo : zL} (hlo : z_keep [0, 1, 2] lo = [(0, zr 74), (1, zi (n : Int)), (2, zi 1)])  (hB : zB m) (hrd : m 74 13 = 80) (h_n : n ≤ 3) (hf0 : (-1) ≤ m 74 17 ∧ m 74 17 ≤ (-1)) (hf1 : 0 ≤ m 74 16 ∧ m 74 16 ≤ 80) 
    (k1 : T (D + 3) 205 (54, [(0, zr 74), (1, zi (n : Int)), (3, zi 0)], [], m) κ) :
    T (D + 3) 205 (28, lo, [], m) κ := by
  have he0 : wr (m 74 17) = (m 74 17) := wr_id (by omega) (by omega)
  have he1 : wr (n : Int) = (n : Int) := wr_id (by omega) (by omega)
  have key := @zb205_28br T hT D κ m n lo hlo
  simp only [he0, he1, Int.toNat_natCast] at key
  exact key
    (fun x0 => by omega)
    (fun x0 x1 => k1 )
    (fun x0 x1 => by omega)
theorem zb205_28cr (hT : zRules T) {D : Nat} {κ : Option zA → zM → Prop} {m : zM} {lo : zL} (hlo : z_keep [0, 1, 2] lo = [(0, zr 74), (1, zi 4), (2, zi 1)]) 
    (o1 : ¬ wr (m 74 17) = (-1) → False)
    (o2 : wr (m 74 17) = (-1) → ¬ wr (m 74 17) = (-1) → False)
    (o3 : wr (m 74 17) = (-1) → wr (m 74 17) = (-1) → T (D + 3) 205 (54, [(0, zr 74), (1, zi 4), (3, zi 0)], [], (zu m 74 17 (m 74 16))) κ) :
    T (D + 3) 205 (28, lo, [], m) κ :=
  zkeep hT hlo (hT.1 [(28, [0, 1, 2]), (54, [0, 1, 3]), (205, [0, 1, 3]), (225, [0, 1, 3, 4])] 6 (D + 3) 205 _ κ (And.intro (fun a1 => (z_litF a1 rfl).elim) (fun _ => (hT.1 [] 6 (D + 2) 199 _ _ (And.intro (fun a2 => (o1 a2).elim) (fun a3 => (hT.1 [] 6 (D + 2) 199 (13, [(0, zr 74)], [zi 1], m) _ (And.intro (z_b01L rfl) (hT.1 [(28, [0, 1, 2]), (54, [0, 1, 3]), (205, [0, 1, 3]), (225, [0, 1, 3, 4])] 6 (D + 3) 205 _ _ (And.intro (fun a4 => (z_litF a4 rfl).elim) (fun _ => (And.intro (fun a5 => (z_litF a5 rfl).elim) (fun _ => (hT.1 [(28, [0, 1, 2]), (54, [0, 1, 3]), (205, [0, 1, 3]), (225, [0, 1, 3, 4])] 6 (D + 3) 205 (46, [(0, zr 74), (1, zi 4), (2, zi 1)], [zr 74, zr 74], m) _ (hT.1 [] 6 (D + 2) 200 _ _ (hT.1 [] 6 (D + 1) 199 _ _ (And.intro (fun a6 => (o2 (Classical.byContradiction a3) a6).elim) (fun a7 => (hT.1 [] 6 (D + 1) 199 (13, [(0, zr 74)], [zi 1], m) _ (And.intro (z_b01L rfl) (hT.1 [] 6 (D + 2) 200 _ _ (And.intro (fun a8 => (z_litF a8 rfl).elim) (fun _ => (And.intro trivial (hT.1 [(28, [0, 1, 2]), (54, [0, 1, 3]), (205, [0, 1, 3]), (225, [0, 1, 3, 4])] 6 (D + 3) 205 _ _ (o3 (Classical.byContradiction a3) (Classical.byContradiction a7)))))))))))))))))))))))))))
theorem zb205_28c (hT : zRules T) {D : Nat} {κ : Option zA → zM → Prop} {m : zM} {lo : zL} (hlo : z_keep [0, 1, 2] lo = [(0, zr 74), (1, zi 4), (2, zi 1)])  (hB : zB m) (hrd : m 74 13 = 80) (hf0 : (-1) ≤ m 74 17 ∧ m 74 17 ≤ (-1)) (hf1 : 0 ≤ m 74 16 ∧ m 74 16 ≤ 80) 
    (k1 : zB (zu m 74 17 (m 74 16)) → T (D + 3) 205 (54, [(0, zr 74), (1, zi 4), (3, zi 0)], [], (zu m 74 17 (m 74 16))) κ) :
    T (D + 3) 205 (28, lo, [], m) κ := by
  have he0 : wr (m 74 17) = (m 74 17) := wr_id (by omega) (by omega)
  have key := @zb205_28cr T hT D κ m  lo hlo
  simp only [he0, Int.toNat_natCast] at key
  exact key
    (fun x0 => by omega)
    (fun x0 x1 => by omega)
    (fun x0 x1 => k1  (zB_u hB trivial))
theorem zb205_28fr (hT : zRules T) {D : Nat} {κ : Option zA → zM → Prop} {m : zM} {n : Nat} {mo : Int} {lo : zL} (hlo : z_keep [0, 1, 2] lo = [(0, zr 74), (1, zi (n : Int)), (2, zi mo)]) 
    (o1 : wr mo = 0 → ¬ wr (m 74 16) < wr (m 74 14) → ¬ wr (m 74 17) = (-1) → κ (some (zi (wr ((-1) - (m 74 17))))) m)
    (o2 : wr mo = 0 → ¬ wr (m 74 16) < wr (m 74 14) → wr (m 74 17) = (-1) → False)
    (o3 : wr mo = 0 → wr (m 74 16) < wr (m 74 14) → ¬ wr (m 74 17) = (-1) → ¬ wr (m 74 17) = (-1) → κ (some (zi (wr ((-1) - (m 74 17))))) m)
    (o4 : wr mo = 0 → wr (m 74 16) < wr (m 74 14) → ¬ wr (m 74 17) = (-1) → wr (m 74 17) = (-1) → False)
    (o5 : wr mo = 0 → wr (m 74 16) < wr (m 74 14) → wr (m 74 17) = (-1) → False)
    (o6 : ¬ wr mo = 0 → ¬ wr (m 74 17) = (-1) → ¬ wr (m 74 16) < wr (m 74 14) → ¬ wr (m 74 17) = (-1) → κ (some (zi (wr ((-1) - (m 74 17))))) m)
    (o7 : ¬ wr mo = 0 → ¬ wr (m 74 17) = (-1) → ¬ wr (m 74 16) < wr (m 74 14) → wr (m 74 17) = (-1) → False)
    (o8 : ¬ wr mo = 0 → ¬ wr (m 74 17) = (-1) → wr (m 74 16) < wr (m 74 14) → ¬ wr (m 74 17) = (-1) → ¬ wr (m 74 17) = (-1) → κ (some (zi (wr ((-1) - (m 74 17))))) m)
    (o9 : ¬ wr mo = 0 → ¬ wr (m 74 17) = (-1) → wr (m 74 16) < wr (m 74 14) → ¬ wr (m 74 17) = (-1) → wr (m 74 17) = (-1) → False)
    (o10 : ¬ wr mo = 0 → ¬ wr (m 74 17) = (-1) → wr (m 74 16) < wr (m 74 14) → wr (m 74 17) = (-1) → False)
    (o11 : ¬ wr mo = 0 → wr (m 74 17) = (-1) → False) :
    T (D + 3) 205 (28, lo, [], m) κ :=
  zkeep hT hlo (hT.1 [(28, [0, 1, 2]), (54, [0, 1, 3]), (205, [0, 1, 3]), (225, [0, 1, 3, 4])] 6 (D + 3) 205 _ κ (And.intro (fun a1 => (hT.1 [(28, [0, 1, 2]), (54, [0, 1, 3]), (205, [0, 1, 3]), (225, [0, 1, 3, 4])] 6 (D + 3) 205 (173, [(0, zr 74), (1, zi (n : Int)), (2, zi mo)], [zi (m 74 14), zi (m 74 16)], m) _ (And.intro (fun a3 => (hT.1 [] 6 (D + 2) 199 _ _ (And.intro (fun a5 => (And.intro (z_b01L rfl) (hT.1 [(28, [0, 1, 2]), (54, [0, 1, 3]), (205, [0, 1, 3]), (225, [0, 1, 3, 4])] 6 (D + 3) 205 _ _ (And.intro (fun a7 => (z_litF a7 rfl).elim) (fun _ => (o1 a1 a3 a5)))))) (fun a6 => (o2 a1 a3 (Classical.byContradiction a6)).elim)))) (fun a4 => (hT.1 [] 6 (D + 2) 200 _ _ (hT.1 [] 6 (D + 1) 199 _ _ (And.intro (fun a8 => (And.intro (z_b01L rfl) (hT.1 [] 6 (D + 2) 200 _ _ (And.intro (fun _ => (hT.1 [(28, [0, 1, 2]), (54, [0, 1, 3]), (205, [0, 1, 3]), (225, [0, 1, 3, 4])] 6 (D + 3) 205 _ _ (hT.1 [] 6 (D + 2) 199 _ _ (And.intro (fun a11 => (And.intro (z_b01L rfl) (hT.1 [(28, [0, 1, 2]), (54, [0, 1, 3]), (205, [0, 1, 3]), (225, [0, 1, 3, 4])] 6 (D + 3) 205 _ _ (And.intro (fun a13 => (z_litF a13 rfl).elim) (fun _ => (o3 a1 (Classical.byContradiction a4) a8 a11)))))) (fun a12 => (o4 a1 (Classical.byContradiction a4) a8 (Classical.byContradiction a12)).elim))))) (fun a10 => (a10 (z_litT rfl)).elim))))) (fun a9 => (o5 a1 (Classical.byContradiction a4) (Classical.byContradiction a9)).elim)))))))) (fun a2 => (hT.1 [] 6 (D + 2) 199 _ _ (And.intro (fun a14 => (And.intro (z_b01L rfl) (hT.1 [(28, [0, 1, 2]), (54, [0, 1, 3]), (205, [0, 1, 3]), (225, [0, 1, 3, 4])] 6 (D + 3) 205 _ _ (And.intro (fun _ => (And.intro (fun a17 => (hT.1 [(28, [0, 1, 2]), (54, [0, 1, 3]), (205, [0, 1, 3]), (225, [0, 1, 3, 4])] 6 (D + 3) 205 (184, [(0, zr 74), (1, zi (n : Int)), (2, zi mo)], [], m) _ (hT.1 [] 6 (D + 2) 199 _ _ (And.intro (fun a19 => (And.intro (z_b01L rfl) (hT.1 [(28, [0, 1, 2]), (54, [0, 1, 3]), (205, [0, 1, 3]), (225, [0, 1, 3, 4])] 6 (D + 3) 205 _ _ (And.intro (fun a21 => (z_litF a21 rfl).elim) (fun _ => (o6 a2 a14 a17 a19)))))) (fun a20 => (o7 a2 a14 a17 (Classical.byContradiction a20)).elim))))) (fun a18 => (hT.1 [(28, [0, 1, 2]), (54, [0, 1, 3]), (205, [0, 1, 3]), (225, [0, 1, 3, 4])] 6 (D + 3) 205 (176, [(0, zr 74), (1, zi (n : Int)), (2, zi mo)], [], m) _ (hT.1 [] 6 (D + 2) 200 _ _ (hT.1 [] 6 (D + 1) 199 _ _ (And.intro (fun a22 => (And.intro (z_b01L rfl) (hT.1 [] 6 (D + 2) 200 _ _ (And.intro (fun _ => (hT.1 [(28, [0, 1, 2]), (54, [0, 1, 3]), (205, [0, 1, 3]), (225, [0, 1, 3, 4])] 6 (D + 3) 205 _ _ (hT.1 [] 6 (D + 2) 199 _ _ (And.intro (fun a25 => (And.intro (z_b01L rfl) (hT.1 [(28, [0, 1, 2]), (54, [0, 1, 3]), (205, [0, 1, 3]), (225, [0, 1, 3, 4])] 6 (D + 3) 205 _ _ (And.intro (fun a27 => (z_litF a27 rfl).elim) (fun _ => (o8 a2 a14 (Classical.byContradiction a18) a22 a25)))))) (fun a26 => (o9 a2 a14 (Classical.byContradiction a18) a22 (Classical.byContradiction a26)).elim))))) (fun a24 => (a24 (z_litT rfl)).elim))))) (fun a23 => (o10 a2 a14 (Classical.byContradiction a18) (Classical.byContradiction a23)).elim)))))))) (fun a16 => (a16 (z_litT rfl)).elim))))) (fun a15 => (o11 a2 (Classical.byContradiction a15)).elim))))))
theorem zb205_28f (hT : zRules T) {D : Nat} {κ : Option zA → zM → Prop} {m : zM} {n : Nat} {mo : Int} {lo : zL} (hlo : z_keep [0, 1, 2] lo = [(0, zr 74), (1, zi (n : Int)), (2, zi mo)])  (hB : zB m) (hrd : m 74 13 = 80) (h_n : n ≤ 5) (h_mo : 0 ≤ mo ∧ mo ≤ 1) (hf0 : 0 ≤ m 74 17 ∧ m 74 17 ≤ 100) (hf1 : 0 ≤ m 74 16 ∧ m 74 16 ≤ 80) 
    (k1 : mo = 0 → ¬ (m 74 16) < (m 74 14) → κ (some (zi ((-1) - (m 74 17)))) m)
    (k2 : mo = 0 → (m 74 16) < (m 74 14) → κ (some (zi ((-1) - (m 74 17)))) m)
    (k3 : ¬ mo = 0 → ¬ (m 74 16) < (m 74 14) → κ (some (zi ((-1) - (m 74 17)))) m)
    (k4 : ¬ mo = 0 → (m 74 16) < (m 74 14) → κ (some (zi ((-1) - (m 74 17)))) m) :
    T (D + 3) 205 (28, lo, [], m) κ := by
  have hb4 : 0 ≤ (m 74 14) ∧ (m 74 14) ≤ 80 := hB 74 14
  have he0 : wr mo = mo := wr_id (by omega) (by omega)
  have he1 : wr (m 74 16) = (m 74 16) := wr_id (by omega) (by omega)
  have he2 : wr (m 74 14) = (m 74 14) := wr_id (by omega) (by omega)
  have he3 : wr (m 74 17) = (m 74 17) := wr_id (by omega) (by omega)
  have he4 : wr ((-1) - (m 74 17)) = ((-1) - (m 74 17)) := wr_id (by omega) (by omega)
  have key := @zb205_28fr T hT D κ m n mo lo hlo
  simp only [he0, he1, he2, he3, he4, Int.toNat_natCast] at key
  exact key
    (fun x0 x1 x2 => k1 x0 x1)
    (fun x0 x1 x2 => by omega)
    (fun x0 x1 x2 x3 => k2 x0 x1)
    (fun x0 x1 x2 x3 => by omega)
    (fun x0 x1 x2 => by omega)
    (fun x0 x1 x2 x3 => k3 x0 x2)
    (fun x0 x1 x2 x3 => by omega)
    (fun x0 x1 x2 x3 x4 => k4 x0 x2)
    (fun x0 x1 x2 x3 x4 => by omega)
    (fun x0 x1 x2 x3 => by omega)
    (fun x0 x1 => by omega)
theorem zb205_54r (hT : zRules T) {D : Nat} {κ : Option zA → zM → Prop} {m : zM} {n : Nat} {k : Nat} {lo : zL} (hlo : z_keep [0, 1, 3] lo = [(0, zr 74), (1, zi (n : Int)), (3, zi (k : Int))]) 
    (o1 : ¬ wr (m 74 17) = (-1) → False)
    (o2 : wr (m 74 17) = (-1) → (m 74 13) = 80)
    (o3 : wr (m 74 17) = (-1) → (0 ≤ (m 74 16) ∧ (m 74 16) ≤ 1000))
    (o4 : wr (m 74 17) = (-1) → (0 ≤ (m 74 14) ∧ (m 74 14) ≤ 80))
    (o5 : wr (m 74 17) = (-1) → (0 ≤ (m 74 15) ∧ (m 74 15) ≤ 80))
    (o6 : wr (m 74 17) = (-1) → wr (hrR m 80) < 48 → ¬ wr (k : Int) = 0 → ¬ wr (m 74 17) = (-1) → False)
    (o7 : wr (m 74 17) = (-1) → wr (hrR m 80) < 48 → ¬ wr (k : Int) = 0 → wr (m 74 17) = (-1) → (0 ≤ wr (n : Int) ∧ wr (n : Int) < 4))
    (o8 : wr (m 74 17) = (-1) → wr (hrR m 80) < 48 → ¬ wr (k : Int) = 0 → wr (m 74 17) = (-1) → ¬ wr (m 74 17) = (-1) → False)
    (o9 : wr (m 74 17) = (-1) → wr (hrR m 80) < 48 → ¬ wr (k : Int) = 0 → wr (m 74 17) = (-1) → wr (m 74 17) = (-1) → (m 74 13) = 80)
    (o10 : wr (m 74 17) = (-1) → wr (hrR m 80) < 48 → ¬ wr (k : Int) = 0 → wr (m 74 17) = (-1) → wr (m 74 17) = (-1) → (0 ≤ (m 74 16) ∧ (m 74 16) ≤ 1000))
    (o11 : wr (m 74 17) = (-1) → wr (hrR m 80) < 48 → ¬ wr (k : Int) = 0 → wr (m 74 17) = (-1) → wr (m 74 17) = (-1) → (0 ≤ (m 74 14) ∧ (m 74 14) ≤ 80))
    (o12 : wr (m 74 17) = (-1) → wr (hrR m 80) < 48 → ¬ wr (k : Int) = 0 → wr (m 74 17) = (-1) → wr (m 74 17) = (-1) → (0 ≤ (m 74 15) ∧ (m 74 15) ≤ 80))
    (o13 : wr (m 74 17) = (-1) → wr (hrR m 80) < 48 → ¬ wr (k : Int) = 0 → wr (m 74 17) = (-1) → wr (m 74 17) = (-1) → wr (hrR (zu m 83 ((wr (n : Int)).toNat) (k : Int)) 80) = 47 → T (D + 3) 205 (28, [(0, zr 74), (1, zi ((n : Int) + 1)), (2, zi 1)], [], (zu (zu m 83 ((wr (n : Int)).toNat) (k : Int)) 74 16 ((m 74 16) + 1))) κ)
    (o14 : wr (m 74 17) = (-1) → wr (hrR m 80) < 48 → ¬ wr (k : Int) = 0 → wr (m 74 17) = (-1) → wr (m 74 17) = (-1) → ¬ wr (hrR (zu m 83 ((wr (n : Int)).toNat) (k : Int)) 80) = 47 → T (D + 3) 205 (28, [(0, zr 74), (1, zi ((n : Int) + 1)), (2, zi 0)], [], (zu m 83 ((wr (n : Int)).toNat) (k : Int))) κ)
    (o15 : wr (m 74 17) = (-1) → wr (hrR m 80) < 48 → wr (k : Int) = 0 → ¬ wr (m 74 17) = (-1) → False)
    (o16 : wr (m 74 17) = (-1) → wr (hrR m 80) < 48 → wr (k : Int) = 0 → wr (m 74 17) = (-1) → ¬ wr (m 74 16) = (-1) → ¬ wr (m 74 16) = (-1) → T (D + 3) 205 (28, [(0, zr 74), (1, zi ((n : Int) + 1)), (2, zi 0)], [], (zu m 74 17 (m 74 16))) κ)
    (o17 : wr (m 74 17) = (-1) → wr (hrR m 80) < 48 → wr (k : Int) = 0 → wr (m 74 17) = (-1) → ¬ wr (m 74 16) = (-1) → wr (m 74 16) = (-1) → False)
    (o18 : wr (m 74 17) = (-1) → wr (hrR m 80) < 48 → wr (k : Int) = 0 → wr (m 74 17) = (-1) → wr (m 74 16) = (-1) → False)
    (o19 : wr (m 74 17) = (-1) → ¬ wr (hrR m 80) < 48 → 57 < wr (hrR m 80) → ¬ wr (k : Int) = 0 → ¬ wr (m 74 17) = (-1) → False)
    (o20 : wr (m 74 17) = (-1) → ¬ wr (hrR m 80) < 48 → 57 < wr (hrR m 80) → ¬ wr (k : Int) = 0 → wr (m 74 17) = (-1) → (0 ≤ wr (n : Int) ∧ wr (n : Int) < 4))
    (o21 : wr (m 74 17) = (-1) → ¬ wr (hrR m 80) < 48 → 57 < wr (hrR m 80) → ¬ wr (k : Int) = 0 → wr (m 74 17) = (-1) → ¬ wr (m 74 17) = (-1) → False)
    (o22 : wr (m 74 17) = (-1) → ¬ wr (hrR m 80) < 48 → 57 < wr (hrR m 80) → ¬ wr (k : Int) = 0 → wr (m 74 17) = (-1) → wr (m 74 17) = (-1) → (m 74 13) = 80)
    (o23 : wr (m 74 17) = (-1) → ¬ wr (hrR m 80) < 48 → 57 < wr (hrR m 80) → ¬ wr (k : Int) = 0 → wr (m 74 17) = (-1) → wr (m 74 17) = (-1) → (0 ≤ (m 74 16) ∧ (m 74 16) ≤ 1000))
    (o24 : wr (m 74 17) = (-1) → ¬ wr (hrR m 80) < 48 → 57 < wr (hrR m 80) → ¬ wr (k : Int) = 0 → wr (m 74 17) = (-1) → wr (m 74 17) = (-1) → (0 ≤ (m 74 14) ∧ (m 74 14) ≤ 80))
    (o25 : wr (m 74 17) = (-1) → ¬ wr (hrR m 80) < 48 → 57 < wr (hrR m 80) → ¬ wr (k : Int) = 0 → wr (m 74 17) = (-1) → wr (m 74 17) = (-1) → (0 ≤ (m 74 15) ∧ (m 74 15) ≤ 80))
    (o26 : wr (m 74 17) = (-1) → ¬ wr (hrR m 80) < 48 → 57 < wr (hrR m 80) → ¬ wr (k : Int) = 0 → wr (m 74 17) = (-1) → wr (m 74 17) = (-1) → wr (hrR (zu m 83 ((wr (n : Int)).toNat) (k : Int)) 80) = 47 → T (D + 3) 205 (28, [(0, zr 74), (1, zi ((n : Int) + 1)), (2, zi 1)], [], (zu (zu m 83 ((wr (n : Int)).toNat) (k : Int)) 74 16 ((m 74 16) + 1))) κ)
    (o27 : wr (m 74 17) = (-1) → ¬ wr (hrR m 80) < 48 → 57 < wr (hrR m 80) → ¬ wr (k : Int) = 0 → wr (m 74 17) = (-1) → wr (m 74 17) = (-1) → ¬ wr (hrR (zu m 83 ((wr (n : Int)).toNat) (k : Int)) 80) = 47 → T (D + 3) 205 (28, [(0, zr 74), (1, zi ((n : Int) + 1)), (2, zi 0)], [], (zu m 83 ((wr (n : Int)).toNat) (k : Int))) κ)
    (o28 : wr (m 74 17) = (-1) → ¬ wr (hrR m 80) < 48 → 57 < wr (hrR m 80) → wr (k : Int) = 0 → ¬ wr (m 74 17) = (-1) → False)
    (o29 : wr (m 74 17) = (-1) → ¬ wr (hrR m 80) < 48 → 57 < wr (hrR m 80) → wr (k : Int) = 0 → wr (m 74 17) = (-1) → ¬ wr (m 74 16) = (-1) → ¬ wr (m 74 16) = (-1) → T (D + 3) 205 (28, [(0, zr 74), (1, zi ((n : Int) + 1)), (2, zi 0)], [], (zu m 74 17 (m 74 16))) κ)
    (o30 : wr (m 74 17) = (-1) → ¬ wr (hrR m 80) < 48 → 57 < wr (hrR m 80) → wr (k : Int) = 0 → wr (m 74 17) = (-1) → ¬ wr (m 74 16) = (-1) → wr (m 74 16) = (-1) → False)
    (o31 : wr (m 74 17) = (-1) → ¬ wr (hrR m 80) < 48 → 57 < wr (hrR m 80) → wr (k : Int) = 0 → wr (m 74 17) = (-1) → wr (m 74 16) = (-1) → False)
    (o32 : wr (m 74 17) = (-1) → ¬ wr (hrR m 80) < 48 → ¬ 57 < wr (hrR m 80) → ¬ wr (k : Int) = 26 → (m 74 13) = 80)
    (o33 : wr (m 74 17) = (-1) → ¬ wr (hrR m 80) < 48 → ¬ 57 < wr (hrR m 80) → ¬ wr (k : Int) = 26 → (0 ≤ (m 74 16) ∧ (m 74 16) ≤ 1000))
    (o34 : wr (m 74 17) = (-1) → ¬ wr (hrR m 80) < 48 → ¬ 57 < wr (hrR m 80) → ¬ wr (k : Int) = 26 → (0 ≤ (m 74 14) ∧ (m 74 14) ≤ 80))
    (o35 : wr (m 74 17) = (-1) → ¬ wr (hrR m 80) < 48 → ¬ 57 < wr (hrR m 80) → ¬ wr (k : Int) = 26 → (0 ≤ (m 74 15) ∧ (m 74 15) ≤ 80))
    (o36 : wr (m 74 17) = (-1) → ¬ wr (hrR m 80) < 48 → ¬ 57 < wr (hrR m 80) → ¬ wr (k : Int) = 26 → (0 ≤ wr ((26 * (n : Int)) + (k : Int)) ∧ wr ((26 * (n : Int)) + (k : Int)) < 104))
    (o37 : wr (m 74 17) = (-1) → ¬ wr (hrR m 80) < 48 → ¬ 57 < wr (hrR m 80) → ¬ wr (k : Int) = 26 → T (D + 3) 205 (54, [(0, zr 74), (1, zi (n : Int)), (3, zi ((k : Int) + 1))], [], (zu (zu m 82 ((wr ((26 * (n : Int)) + (k : Int))).toNat) ((hrR m 80) - 48)) 74 16 ((m 74 16) + 1))) κ)
    (o38 : wr (m 74 17) = (-1) → ¬ wr (hrR m 80) < 48 → ¬ 57 < wr (hrR m 80) → wr (k : Int) = 26 → ¬ wr (m 74 17) = (-1) → False)
    (o39 : wr (m 74 17) = (-1) → ¬ wr (hrR m 80) < 48 → ¬ 57 < wr (hrR m 80) → wr (k : Int) = 26 → wr (m 74 17) = (-1) → T (D + 3) 205 (54, [(0, zr 74), (1, zi (n : Int)), (3, zi (k : Int))], [], (zu m 74 17 (m 74 16))) κ) :
    T (D + 3) 205 (54, lo, [], m) κ :=
  zkeep hT hlo (hT.1 [(28, [0, 1, 2]), (54, [0, 1, 3]), (205, [0, 1, 3]), (225, [0, 1, 3, 4])] 6 (D + 3) 205 _ κ (hT.1 [] 6 (D + 2) 199 _ _ (And.intro (fun a1 => (o1 a1).elim) (fun a2 => (hT.1 [] 6 (D + 2) 199 (13, [(0, zr 74)], [zi 1], m) _ (And.intro (z_b01L rfl) (hT.1 [(28, [0, 1, 2]), (54, [0, 1, 3]), (205, [0, 1, 3]), (225, [0, 1, 3, 4])] 6 (D + 3) 205 _ _ (And.intro (fun a3 => (z_litF a3 rfl).elim) (fun _ => (z_here80 hT (o2 (Classical.byContradiction a2)) (o3 (Classical.byContradiction a2)) (o4 (Classical.byContradiction a2)) (o5 (Classical.byContradiction a2)) (hT.1 [(28, [0, 1, 2]), (54, [0, 1, 3]), (205, [0, 1, 3]), (225, [0, 1, 3, 4])] 6 (D + 3) 205 _ _ (hT.1 [] 6 (D + 2) 186 _ _ (And.intro (fun a4 => (And.intro (z_b01L rfl) (hT.1 [(28, [0, 1, 2]), (54, [0, 1, 3]), (205, [0, 1, 3]), (225, [0, 1, 3, 4])] 6 (D + 3) 205 _ _ (And.intro (fun _ => (And.intro (fun a7 => (hT.1 [] 6 (D + 2) 199 _ _ (And.intro (fun a9 => (o6 (Classical.byContradiction a2) a4 a7 a9).elim) (fun a10 => (hT.1 [] 6 (D + 2) 199 (13, [(0, zr 74)], [zi 1], m) _ (And.intro (z_b01L rfl) (hT.1 [(28, [0, 1, 2]), (54, [0, 1, 3]), (205, [0, 1, 3]), (225, [0, 1, 3, 4])] 6 (D + 3) 205 _ _ (And.intro (fun a11 => (z_litF a11 rfl).elim) (fun _ => (And.intro (And.intro (o7 (Classical.byContradiction a2) a4 a7 (Classical.byContradiction a10)) trivial) (hT.1 [(28, [0, 1, 2]), (54, [0, 1, 3]), (205, [0, 1, 3]), (225, [0, 1, 3, 4])] 6 (D + 3) 205 (152, [(0, zr 74), (1, zi (n : Int)), (3, zi (k : Int))], [], (zu m 83 ((wr (n : Int)).toNat) (k : Int))) _ (hT.1 [] 6 (D + 2) 201 _ _ (hT.1 [] 6 (D + 1) 199 _ _ (And.intro (fun a12 => (o8 (Classical.byContradiction a2) a4 a7 (Classical.byContradiction a10) a12).elim) (fun a13 => (hT.1 [] 6 (D + 1) 199 (13, [(0, zr 74)], [zi 1], (zu m 83 ((wr (n : Int)).toNat) (k : Int))) _ (And.intro (z_b01L rfl) (hT.1 [] 6 (D + 2) 201 _ _ (And.intro (fun a14 => (z_litF a14 rfl).elim) (fun _ => (z_here80 hT (o9 (Classical.byContradiction a2) a4 a7 (Classical.byContradiction a10) (Classical.byContradiction a13)) (o10 (Classical.byContradiction a2) a4 a7 (Classical.byContradiction a10) (Classical.byContradiction a13)) (o11 (Classical.byContradiction a2) a4 a7 (Classical.byContradiction a10) (Classical.byContradiction a13)) (o12 (Classical.byContradiction a2) a4 a7 (Classical.byContradiction a10) (Classical.byContradiction a13)) (hT.1 [] 6 (D + 2) 201 _ _ (And.intro (fun a15 => (hT.1 [] 6 (D + 2) 201 (23, [(0, zr 74), (1, zi 47)], [zi 1, zi (m 74 16), zr 74], (zu m 83 ((wr (n : Int)).toNat) (k : Int))) _ (And.intro trivial (And.intro (z_b01L rfl) (hT.1 [(28, [0, 1, 2]), (54, [0, 1, 3]), (205, [0, 1, 3]), (225, [0, 1, 3, 4])] 6 (D + 3) 205 _ _ (o13 (Classical.byContradiction a2) a4 a7 (Classical.byContradiction a10) (Classical.byContradiction a13) a15)))))) (fun a16 => (And.intro (z_b01L rfl) (hT.1 [(28, [0, 1, 2]), (54, [0, 1, 3]), (205, [0, 1, 3]), (225, [0, 1, 3, 4])] 6 (D + 3) 205 _ _ (o14 (Classical.byContradiction a2) a4 a7 (Classical.byContradiction a10) (Classical.byContradiction a13) a16))))))))))))))))))))))))))) (fun a8 => (hT.1 [(28, [0, 1, 2]), (54, [0, 1, 3]), (205, [0, 1, 3]), (225, [0, 1, 3, 4])] 6 (D + 3) 205 (135, [(0, zr 74), (1, zi (n : Int)), (3, zi (k : Int))], [zi (m 74 16), zr 74], m) _ (hT.1 [] 6 (D + 2) 200 _ _ (hT.1 [] 6 (D + 1) 199 _ _ (And.intro (fun a17 => (o15 (Classical.byContradiction a2) a4 (Classical.byContradiction a8) a17).elim) (fun a18 => (hT.1 [] 6 (D + 1) 199 (13, [(0, zr 74)], [zi 1], m) _ (And.intro (z_b01L rfl) (hT.1 [] 6 (D + 2) 200 _ _ (And.intro (fun a19 => (z_litF a19 rfl).elim) (fun _ => (And.intro trivial (hT.1 [(28, [0, 1, 2]), (54, [0, 1, 3]), (205, [0, 1, 3]), (225, [0, 1, 3, 4])] 6 (D + 3) 205 _ _ (hT.1 [] 6 (D + 2) 199 _ _ (And.intro (fun a20 => (And.intro (z_b01L rfl) (hT.1 [(28, [0, 1, 2]), (54, [0, 1, 3]), (205, [0, 1, 3]), (225, [0, 1, 3, 4])] 6 (D + 3) 205 _ _ (And.intro (fun _ => (hT.1 [] 6 (D + 2) 201 _ _ (hT.1 [] 6 (D + 1) 199 _ _ (And.intro (fun a23 => (And.intro (z_b01L rfl) (hT.1 [] 6 (D + 2) 201 _ _ (And.intro (fun _ => (And.intro (z_b01L rfl) (hT.1 [(28, [0, 1, 2]), (54, [0, 1, 3]), (205, [0, 1, 3]), (225, [0, 1, 3, 4])] 6 (D + 3) 205 _ _ (o16 (Classical.byContradiction a2) a4 (Classical.byContradiction a8) (Classical.byContradiction a18) a20 a23)))) (fun a25 => (a25 (z_litT rfl)).elim))))) (fun a24 => (o17 (Classical.byContradiction a2) a4 (Classical.byContradiction a8) (Classical.byContradiction a18) a20 (Classical.byContradiction a24)).elim))))) (fun a22 => (a22 (z_litT rfl)).elim))))) (fun a21 => (o18 (Classical.byContradiction a2) a4 (Classical.byContradiction a8) (Classical.byContradiction a18) (Classical.byContradiction a21)).elim)))))))))))))))))) (fun a6 => (a6 (z_litT rfl)).elim))))) (fun a5 => (And.intro (fun a26 => (hT.1 [] 6 (D + 2) 186 (14, [(0, zi (hrR m 80)), (1, zi 48), (2, zi 57)], [], m) _ (And.intro (z_b01L rfl) (hT.1 [(28, [0, 1, 2]), (54, [0, 1, 3]), (205, [0, 1, 3]), (225, [0, 1, 3, 4])] 6 (D + 3) 205 _ _ (And.intro (fun _ => (And.intro (fun a29 => (hT.1 [] 6 (D + 2) 199 _ _ (And.intro (fun a31 => (o19 (Classical.byContradiction a2) a5 a26 a29 a31).elim) (fun a32 => (hT.1 [] 6 (D + 2) 199 (13, [(0, zr 74)], [zi 1], m) _ (And.intro (z_b01L rfl) (hT.1 [(28, [0, 1, 2]), (54, [0, 1, 3]), (205, [0, 1, 3]), (225, [0, 1, 3, 4])] 6 (D + 3) 205 _ _ (And.intro (fun a33 => (z_litF a33 rfl).elim) (fun _ => (And.intro (And.intro (o20 (Classical.byContradiction a2) a5 a26 a29 (Classical.byContradiction a32)) trivial) (hT.1 [(28, [0, 1, 2]), (54, [0, 1, 3]), (205, [0, 1, 3]), (225, [0, 1, 3, 4])] 6 (D + 3) 205 (152, [(0, zr 74), (1, zi (n : Int)), (3, zi (k : Int))], [], (zu m 83 ((wr (n : Int)).toNat) (k : Int))) _ (hT.1 [] 6 (D + 2) 201 _ _ (hT.1 [] 6 (D + 1) 199 _ _ (And.intro (fun a34 => (o21 (Classical.byContradiction a2) a5 a26 a29 (Classical.byContradiction a32) a34).elim) (fun a35 => (hT.1 [] 6 (D + 1) 199 (13, [(0, zr 74)], [zi 1], (zu m 83 ((wr (n : Int)).toNat) (k : Int))) _ (And.intro (z_b01L rfl) (hT.1 [] 6 (D + 2) 201 _ _ (And.intro (fun a36 => (z_litF a36 rfl).elim) (fun _ => (z_here80 hT (o22 (Classical.byContradiction a2) a5 a26 a29 (Classical.byContradiction a32) (Classical.byContradiction a35)) (o23 (Classical.byContradiction a2) a5 a26 a29 (Classical.byContradiction a32) (Classical.byContradiction a35)) (o24 (Classical.byContradiction a2) a5 a26 a29 (Classical.byContradiction a32) (Classical.byContradiction a35)) (o25 (Classical.byContradiction a2) a5 a26 a29 (Classical.byContradiction a32) (Classical.byContradiction a35)) (hT.1 [] 6 (D + 2) 201 _ _ (And.intro (fun a37 => (hT.1 [] 6 (D + 2) 201 (23, [(0, zr 74), (1, zi 47)], [zi 1, zi (m 74 16), zr 74], (zu m 83 ((wr (n : Int)).toNat) (k : Int))) _ (And.intro trivial (And.intro (z_b01L rfl) (hT.1 [(28, [0, 1, 2]), (54, [0, 1, 3]), (205, [0, 1, 3]), (225, [0, 1, 3, 4])] 6 (D + 3) 205 _ _ (o26 (Classical.byContradiction a2) a5 a26 a29 (Classical.byContradiction a32) (Classical.byContradiction a35) a37)))))) (fun a38 => (And.intro (z_b01L rfl) (hT.1 [(28, [0, 1, 2]), (54, [0, 1, 3]), (205, [0, 1, 3]), (225, [0, 1, 3, 4])] 6 (D + 3) 205 _ _ (o27 (Classical.byContradiction a2) a5 a26 a29 (Classical.byContradiction a32) (Classical.byContradiction a35) a38))))))))))))))))))))))))))) (fun a30 => (hT.1 [(28, [0, 1, 2]), (54, [0, 1, 3]), (205, [0, 1, 3]), (225, [0, 1, 3, 4])] 6 (D + 3) 205 (135, [(0, zr 74), (1, zi (n : Int)), (3, zi (k : Int))], [zi (m 74 16), zr 74], m) _ (hT.1 [] 6 (D + 2) 200 _ _ (hT.1 [] 6 (D + 1) 199 _ _ (And.intro (fun a39 => (o28 (Classical.byContradiction a2) a5 a26 (Classical.byContradiction a30) a39).elim) (fun a40 => (hT.1 [] 6 (D + 1) 199 (13, [(0, zr 74)], [zi 1], m) _ (And.intro (z_b01L rfl) (hT.1 [] 6 (D + 2) 200 _ _ (And.intro (fun a41 => (z_litF a41 rfl).elim) (fun _ => (And.intro trivial (hT.1 [(28, [0, 1, 2]), (54, [0, 1, 3]), (205, [0, 1, 3]), (225, [0, 1, 3, 4])] 6 (D + 3) 205 _ _ (hT.1 [] 6 (D + 2) 199 _ _ (And.intro (fun a42 => (And.intro (z_b01L rfl) (hT.1 [(28, [0, 1, 2]), (54, [0, 1, 3]), (205, [0, 1, 3]), (225, [0, 1, 3, 4])] 6 (D + 3) 205 _ _ (And.intro (fun _ => (hT.1 [] 6 (D + 2) 201 _ _ (hT.1 [] 6 (D + 1) 199 _ _ (And.intro (fun a45 => (And.intro (z_b01L rfl) (hT.1 [] 6 (D + 2) 201 _ _ (And.intro (fun _ => (And.intro (z_b01L rfl) (hT.1 [(28, [0, 1, 2]), (54, [0, 1, 3]), (205, [0, 1, 3]), (225, [0, 1, 3, 4])] 6 (D + 3) 205 _ _ (o29 (Classical.byContradiction a2) a5 a26 (Classical.byContradiction a30) (Classical.byContradiction a40) a42 a45)))) (fun a47 => (a47 (z_litT rfl)).elim))))) (fun a46 => (o30 (Classical.byContradiction a2) a5 a26 (Classical.byContradiction a30) (Classical.byContradiction a40) a42 (Classical.byContradiction a46)).elim))))) (fun a44 => (a44 (z_litT rfl)).elim))))) (fun a43 => (o31 (Classical.byContradiction a2) a5 a26 (Classical.byContradiction a30) (Classical.byContradiction a40) (Classical.byContradiction a43)).elim)))))))))))))))))) (fun a28 => (a28 (z_litT rfl)).elim)))))) (fun a27 => (hT.1 [] 6 (D + 2) 186 (10, [(0, zi (hrR m 80)), (1, zi 48), (2, zi 57)], [], m) _ (And.intro (z_b01L rfl) (hT.1 [(28, [0, 1, 2]), (54, [0, 1, 3]), (205, [0, 1, 3]), (225, [0, 1, 3, 4])] 6 (D + 3) 205 _ _ (And.intro (fun a48 => (z_litF a48 rfl).elim) (fun _ => (And.intro (fun a49 => (hT.1 [(28, [0, 1, 2]), (54, [0, 1, 3]), (205, [0, 1, 3]), (225, [0, 1, 3, 4])] 6 (D + 3) 205 (96, [(0, zr 74), (1, zi (n : Int)), (3, zi (k : Int))], [zr 82], m) _ (hT.1 [(28, [0, 1, 2]), (54, [0, 1, 3]), (205, [0, 1, 3]), (225, [0, 1, 3, 4])] 6 (D + 3) 205 (103, [(0, zr 74), (1, zi (n : Int)), (3, zi (k : Int))], [zr 74, zi ((26 * (n : Int)) + (k : Int)), zr 82], m) _ (z_here80 hT (o32 (Classical.byContradiction a2) a5 a27 a49) (o33 (Classical.byContradiction a2) a5 a27 a49) (o34 (Classical.byContradiction a2) a5 a27 a49) (o35 (Classical.byContradiction a2) a5 a27 a49) (hT.1 [(28, [0, 1, 2]), (54, [0, 1, 3]), (205, [0, 1, 3]), (225, [0, 1, 3, 4])] 6 (D + 3) 205 _ _ (And.intro (And.intro (o36 (Classical.byContradiction a2) a5 a27 a49) trivial) (hT.1 [(28, [0, 1, 2]), (54, [0, 1, 3]), (205, [0, 1, 3]), (225, [0, 1, 3, 4])] 6 (D + 3) 205 (115, [(0, zr 74), (1, zi (n : Int)), (3, zi ((k : Int) + 1))], [zr 74, zr 74], (zu m 82 ((wr ((26 * (n : Int)) + (k : Int))).toNat) ((hrR m 80) - 48))) _ (And.intro trivial (o37 (Classical.byContradiction a2) a5 a27 a49))))))))) (fun a50 => (hT.1 [(28, [0, 1, 2]), (54, [0, 1, 3]), (205, [0, 1, 3]), (225, [0, 1, 3, 4])] 6 (D + 3) 205 (83, [(0, zr 74), (1, zi (n : Int)), (3, zi (k : Int))], [zr 74, zr 74], m) _ (hT.1 [] 6 (D + 2) 200 _ _ (hT.1 [] 6 (D + 1) 199 _ _ (And.intro (fun a51 => (o38 (Classical.byContradiction a2) a5 a27 (Classical.byContradiction a50) a51).elim) (fun a52 => (hT.1 [] 6 (D + 1) 199 (13, [(0, zr 74)], [zi 1], m) _ (And.intro (z_b01L rfl) (hT.1 [] 6 (D + 2) 200 _ _ (And.intro (fun a53 => (z_litF a53 rfl).elim) (fun _ => (And.intro trivial (hT.1 [(28, [0, 1, 2]), (54, [0, 1, 3]), (205, [0, 1, 3]), (225, [0, 1, 3, 4])] 6 (D + 3) 205 _ _ (o39 (Classical.byContradiction a2) a5 a27 (Classical.byContradiction a50) (Classical.byContradiction a52)))))))))))))))))))))))))))))))))))))
theorem zb205_54 (hT : zRules T) {D : Nat} {κ : Option zA → zM → Prop} {m : zM} {n : Nat} {k : Nat} {lo : zL} (hlo : z_keep [0, 1, 3] lo = [(0, zr 74), (1, zi (n : Int)), (3, zi (k : Int))])  (hB : zB m) (hrd : m 74 13 = 80) (h_n : n ≤ 3) (h_k : k ≤ 26) (hf0 : (-1) ≤ m 74 17 ∧ m 74 17 ≤ (-1)) (hf1 : 0 ≤ m 74 16 ∧ m 74 16 ≤ 80) 
    (k1 : (hrR m 80) < 48 → ¬ (k : Int) = 0 → (hrR (zu m 83 n (k : Int)) 80) = 47 → zB (zu (zu m 83 n (k : Int)) 74 16 ((m 74 16) + 1)) → T (D + 3) 205 (28, [(0, zr 74), (1, zi ((n : Int) + 1)), (2, zi 1)], [], (zu (zu m 83 n (k : Int)) 74 16 ((m 74 16) + 1))) κ)
    (k2 : (hrR m 80) < 48 → ¬ (k : Int) = 0 → ¬ (hrR (zu m 83 n (k : Int)) 80) = 47 → zB (zu m 83 n (k : Int)) → T (D + 3) 205 (28, [(0, zr 74), (1, zi ((n : Int) + 1)), (2, zi 0)], [], (zu m 83 n (k : Int))) κ)
    (k3 : (hrR m 80) < 48 → (k : Int) = 0 → zB (zu m 74 17 (m 74 16)) → T (D + 3) 205 (28, [(0, zr 74), (1, zi ((n : Int) + 1)), (2, zi 0)], [], (zu m 74 17 (m 74 16))) κ)
    (k4 : ¬ (hrR m 80) < 48 → 57 < (hrR m 80) → ¬ (k : Int) = 0 → (hrR (zu m 83 n (k : Int)) 80) = 47 → zB (zu (zu m 83 n (k : Int)) 74 16 ((m 74 16) + 1)) → T (D + 3) 205 (28, [(0, zr 74), (1, zi ((n : Int) + 1)), (2, zi 1)], [], (zu (zu m 83 n (k : Int)) 74 16 ((m 74 16) + 1))) κ)
    (k5 : ¬ (hrR m 80) < 48 → 57 < (hrR m 80) → ¬ (k : Int) = 0 → ¬ (hrR (zu m 83 n (k : Int)) 80) = 47 → zB (zu m 83 n (k : Int)) → T (D + 3) 205 (28, [(0, zr 74), (1, zi ((n : Int) + 1)), (2, zi 0)], [], (zu m 83 n (k : Int))) κ)
    (k6 : ¬ (hrR m 80) < 48 → 57 < (hrR m 80) → (k : Int) = 0 → zB (zu m 74 17 (m 74 16)) → T (D + 3) 205 (28, [(0, zr 74), (1, zi ((n : Int) + 1)), (2, zi 0)], [], (zu m 74 17 (m 74 16))) κ)
    (k7 : ¬ (hrR m 80) < 48 → ¬ 57 < (hrR m 80) → ¬ (k : Int) = 26 → zB (zu (zu m 82 (26 * n + k) ((hrR m 80) - 48)) 74 16 ((m 74 16) + 1)) → T (D + 3) 205 (54, [(0, zr 74), (1, zi (n : Int)), (3, zi ((k : Int) + 1))], [], (zu (zu m 82 (26 * n + k) ((hrR m 80) - 48)) 74 16 ((m 74 16) + 1))) κ)
    (k8 : ¬ (hrR m 80) < 48 → ¬ 57 < (hrR m 80) → (k : Int) = 26 → zB (zu m 74 17 (m 74 16)) → T (D + 3) 205 (54, [(0, zr 74), (1, zi (n : Int)), (3, zi (k : Int))], [], (zu m 74 17 (m 74 16))) κ) :
    T (D + 3) 205 (54, lo, [], m) κ := by
  have hb4 : 0 ≤ (m 74 14) ∧ (m 74 14) ≤ 80 := hB 74 14
  have hb5 : 0 ≤ (m 74 15) ∧ (m 74 15) ≤ 80 := hB 74 15
  have hb6 : (-1) ≤ (hrR m 80) ∧ (hrR m 80) ≤ 255 := hrRB m 80
  have hb7 : (-1) ≤ (hrR (zu m 83 n (k : Int)) 80) ∧ (hrR (zu m 83 n (k : Int)) 80) ≤ 255 := hrRB (zu m 83 n (k : Int)) 80
  have he0 : wr (m 74 17) = (m 74 17) := wr_id (by omega) (by omega)
  have he1 : wr (hrR m 80) = (hrR m 80) := wr_id (by omega) (by omega)
  have he2 : wr (k : Int) = (k : Int) := wr_id (by omega) (by omega)
  have he3 : wr (m 74 16) = (m 74 16) := wr_id (by omega) (by omega)
  have he4 : wr (n : Int) = (n : Int) := wr_id (by omega) (by omega)
  have he5 : (n : Int).toNat = n := by omega
  have he6 : wr (hrR (zu m 83 n (k : Int)) 80) = (hrR (zu m 83 n (k : Int)) 80) := wr_id (by omega) (by omega)
  have he7 : wr ((26 * (n : Int)) + (k : Int)) = ((26 * (n : Int)) + (k : Int)) := wr_id (by omega) (by omega)
  have he8 : ((26 * (n : Int)) + (k : Int)).toNat = 26 * n + k := by omega
  have key := @zb205_54r T hT D κ m n k lo hlo
  simp only [he0, he1, he2, he3, he4, he5, he6, he7, he8, Int.toNat_natCast] at key
  exact key
    (fun x0 => by omega)
    (fun x0 => hrd)
    (fun x0 => by refine ⟨?_, ?_⟩ <;> omega)
    (fun x0 => by refine ⟨?_, ?_⟩ <;> omega)
    (fun x0 => by refine ⟨?_, ?_⟩ <;> omega)
    (fun x0 x1 x2 x3 => by omega)
    (fun x0 x1 x2 x3 => by refine ⟨?_, ?_⟩ <;> omega)
    (fun x0 x1 x2 x3 x4 => by omega)
    (fun x0 x1 x2 x3 x4 => hrd)
    (fun x0 x1 x2 x3 x4 => by refine ⟨?_, ?_⟩ <;> omega)
    (fun x0 x1 x2 x3 x4 => by refine ⟨?_, ?_⟩ <;> omega)
    (fun x0 x1 x2 x3 x4 => by refine ⟨?_, ?_⟩ <;> omega)
    (fun x0 x1 x2 x3 x4 x5 => k1 x1 x2 x5 (zB_u (zB_u hB (show 0 ≤ (k : Int) ∧ (k : Int) ≤ 26 from ⟨by omega, by omega⟩)) (show 0 ≤ ((m 74 16) + 1) ∧ ((m 74 16) + 1) ≤ 100 from ⟨by omega, by omega⟩)))
    (fun x0 x1 x2 x3 x4 x5 => k2 x1 x2 x5 (zB_u hB (show 0 ≤ (k : Int) ∧ (k : Int) ≤ 26 from ⟨by omega, by omega⟩)))
    (fun x0 x1 x2 x3 => by omega)
    (fun x0 x1 x2 x3 x4 x5 => k3 x1 x2 (zB_u hB trivial))
    (fun x0 x1 x2 x3 x4 x5 => by omega)
    (fun x0 x1 x2 x3 x4 => by omega)
    (fun x0 x1 x2 x3 x4 => by omega)
    (fun x0 x1 x2 x3 x4 => by refine ⟨?_, ?_⟩ <;> omega)
    (fun x0 x1 x2 x3 x4 x5 => by omega)
    (fun x0 x1 x2 x3 x4 x5 => hrd)
    (fun x0 x1 x2 x3 x4 x5 => by refine ⟨?_, ?_⟩ <;> omega)
    (fun x0 x1 x2 x3 x4 x5 => by refine ⟨?_, ?_⟩ <;> omega)
    (fun x0 x1 x2 x3 x4 x5 => by refine ⟨?_, ?_⟩ <;> omega)
    (fun x0 x1 x2 x3 x4 x5 x6 => k4 x1 x2 x3 x6 (zB_u (zB_u hB (show 0 ≤ (k : Int) ∧ (k : Int) ≤ 26 from ⟨by omega, by omega⟩)) (show 0 ≤ ((m 74 16) + 1) ∧ ((m 74 16) + 1) ≤ 100 from ⟨by omega, by omega⟩)))
    (fun x0 x1 x2 x3 x4 x5 x6 => k5 x1 x2 x3 x6 (zB_u hB (show 0 ≤ (k : Int) ∧ (k : Int) ≤ 26 from ⟨by omega, by omega⟩)))
    (fun x0 x1 x2 x3 x4 => by omega)
    (fun x0 x1 x2 x3 x4 x5 x6 => k6 x1 x2 x3 (zB_u hB trivial))
    (fun x0 x1 x2 x3 x4 x5 x6 => by omega)
    (fun x0 x1 x2 x3 x4 x5 => by omega)
    (fun x0 x1 x2 x3 => hrd)
    (fun x0 x1 x2 x3 => by refine ⟨?_, ?_⟩ <;> omega)
    (fun x0 x1 x2 x3 => by refine ⟨?_, ?_⟩ <;> omega)
    (fun x0 x1 x2 x3 => by refine ⟨?_, ?_⟩ <;> omega)
    (fun x0 x1 x2 x3 => by refine ⟨?_, ?_⟩ <;> omega)
    (fun x0 x1 x2 x3 => k7 x1 x2 x3 (zB_u (zB_u hB (show 0 ≤ ((hrR m 80) - 48) ∧ ((hrR m 80) - 48) ≤ 9 from ⟨by omega, by omega⟩)) (show 0 ≤ ((m 74 16) + 1) ∧ ((m 74 16) + 1) ≤ 100 from ⟨by omega, by omega⟩)))
    (fun x0 x1 x2 x3 x4 => by omega)
    (fun x0 x1 x2 x3 x4 => k8 x1 x2 x3 (zB_u hB trivial))
theorem zb205_54fr (hT : zRules T) {D : Nat} {κ : Option zA → zM → Prop} {m : zM} {n : Nat} {k : Nat} {lo : zL} (hlo : z_keep [0, 1, 3] lo = [(0, zr 74), (1, zi (n : Int)), (3, zi (k : Int))]) 
    (o1 : ¬ wr (m 74 17) = (-1) → ¬ wr (k : Int) = 0 → ¬ wr (m 74 17) = (-1) → ¬ wr (m 74 17) = (-1) → T (D + 3) 205 (28, [(0, zr 74), (1, zi ((n : Int) + 1)), (2, zi 0)], [], m) κ)
    (o2 : ¬ wr (m 74 17) = (-1) → ¬ wr (k : Int) = 0 → ¬ wr (m 74 17) = (-1) → wr (m 74 17) = (-1) → False)
    (o3 : ¬ wr (m 74 17) = (-1) → ¬ wr (k : Int) = 0 → wr (m 74 17) = (-1) → False)
    (o4 : ¬ wr (m 74 17) = (-1) → wr (k : Int) = 0 → ¬ wr (m 74 17) = (-1) → ¬ wr (m 74 17) = (-1) → ¬ wr (m 74 17) = (-1) → T (D + 3) 205 (28, [(0, zr 74), (1, zi ((n : Int) + 1)), (2, zi 0)], [], m) κ)
    (o5 : ¬ wr (m 74 17) = (-1) → wr (k : Int) = 0 → ¬ wr (m 74 17) = (-1) → ¬ wr (m 74 17) = (-1) → wr (m 74 17) = (-1) → False)
    (o6 : ¬ wr (m 74 17) = (-1) → wr (k : Int) = 0 → ¬ wr (m 74 17) = (-1) → wr (m 74 17) = (-1) → False)
    (o7 : ¬ wr (m 74 17) = (-1) → wr (k : Int) = 0 → wr (m 74 17) = (-1) → False)
    (o8 : wr (m 74 17) = (-1) → False) :
    T (D + 3) 205 (54, lo, [], m) κ :=
  zkeep hT hlo (hT.1 [(28, [0, 1, 2]), (54, [0, 1, 3]), (205, [0, 1, 3]), (225, [0, 1, 3, 4])] 6 (D + 3) 205 _ κ (hT.1 [] 6 (D + 2) 199 _ _ (And.intro (fun a1 => (And.intro (z_b01L rfl) (hT.1 [(28, [0, 1, 2]), (54, [0, 1, 3]), (205, [0, 1, 3]), (225, [0, 1, 3, 4])] 6 (D + 3) 205 _ _ (And.intro (fun _ => (And.intro (fun a4 => (hT.1 [] 6 (D + 2) 199 _ _ (And.intro (fun a6 => (And.intro (z_b01L rfl) (hT.1 [(28, [0, 1, 2]), (54, [0, 1, 3]), (205, [0, 1, 3]), (225, [0, 1, 3, 4])] 6 (D + 3) 205 _ _ (And.intro (fun _ => (hT.1 [] 6 (D + 2) 201 _ _ (hT.1 [] 6 (D + 1) 199 _ _ (And.intro (fun a9 => (And.intro (z_b01L rfl) (hT.1 [] 6 (D + 2) 201 _ _ (And.intro (fun _ => (And.intro (z_b01L rfl) (hT.1 [(28, [0, 1, 2]), (54, [0, 1, 3]), (205, [0, 1, 3]), (225, [0, 1, 3, 4])] 6 (D + 3) 205 _ _ (o1 a1 a4 a6 a9)))) (fun a11 => (a11 (z_litT rfl)).elim))))) (fun a10 => (o2 a1 a4 a6 (Classical.byContradiction a10)).elim))))) (fun a8 => (a8 (z_litT rfl)).elim))))) (fun a7 => (o3 a1 a4 (Classical.byContradiction a7)).elim)))) (fun a5 => (hT.1 [(28, [0, 1, 2]), (54, [0, 1, 3]), (205, [0, 1, 3]), (225, [0, 1, 3, 4])] 6 (D + 3) 205 (135, [(0, zr 74), (1, zi (n : Int)), (3, zi (k : Int))], [zi (m 74 16), zr 74], m) _ (hT.1 [] 6 (D + 2) 200 _ _ (hT.1 [] 6 (D + 1) 199 _ _ (And.intro (fun a12 => (And.intro (z_b01L rfl) (hT.1 [] 6 (D + 2) 200 _ _ (And.intro (fun _ => (hT.1 [(28, [0, 1, 2]), (54, [0, 1, 3]), (205, [0, 1, 3]), (225, [0, 1, 3, 4])] 6 (D + 3) 205 _ _ (hT.1 [] 6 (D + 2) 199 _ _ (And.intro (fun a15 => (And.intro (z_b01L rfl) (hT.1 [(28, [0, 1, 2]), (54, [0, 1, 3]), (205, [0, 1, 3]), (225, [0, 1, 3, 4])] 6 (D + 3) 205 _ _ (And.intro (fun _ => (hT.1 [] 6 (D + 2) 201 _ _ (hT.1 [] 6 (D + 1) 199 _ _ (And.intro (fun a18 => (And.intro (z_b01L rfl) (hT.1 [] 6 (D + 2) 201 _ _ (And.intro (fun _ => (And.intro (z_b01L rfl) (hT.1 [(28, [0, 1, 2]), (54, [0, 1, 3]), (205, [0, 1, 3]), (225, [0, 1, 3, 4])] 6 (D + 3) 205 _ _ (o4 a1 (Classical.byContradiction a5) a12 a15 a18)))) (fun a20 => (a20 (z_litT rfl)).elim))))) (fun a19 => (o5 a1 (Classical.byContradiction a5) a12 a15 (Classical.byContradiction a19)).elim))))) (fun a17 => (a17 (z_litT rfl)).elim))))) (fun a16 => (o6 a1 (Classical.byContradiction a5) a12 (Classical.byContradiction a16)).elim))))) (fun a14 => (a14 (z_litT rfl)).elim))))) (fun a13 => (o7 a1 (Classical.byContradiction a5) (Classical.byContradiction a13)).elim)))))))) (fun a3 => (a3 (z_litT rfl)).elim))))) (fun a2 => (o8 (Classical.byContradiction a2)).elim))))
theorem zb205_54f (hT : zRules T) {D : Nat} {κ : Option zA → zM → Prop} {m : zM} {n : Nat} {k : Nat} {lo : zL} (hlo : z_keep [0, 1, 3] lo = [(0, zr 74), (1, zi (n : Int)), (3, zi (k : Int))])  (hB : zB m) (hrd : m 74 13 = 80) (h_n : n ≤ 4) (h_k : k ≤ 26) (hf0 : 0 ≤ m 74 17 ∧ m 74 17 ≤ 100) (hf1 : 0 ≤ m 74 16 ∧ m 74 16 ≤ 80) 
    (k1 : ¬ (k : Int) = 0 → T (D + 3) 205 (28, [(0, zr 74), (1, zi ((n : Int) + 1)), (2, zi 0)], [], m) κ)
    (k2 : (k : Int) = 0 → T (D + 3) 205 (28, [(0, zr 74), (1, zi ((n : Int) + 1)), (2, zi 0)], [], m) κ) :
    T (D + 3) 205 (54, lo, [], m) κ := by
  have he0 : wr (m 74 17) = (m 74 17) := wr_id (by omega) (by omega)
  have he1 : wr (k : Int) = (k : Int) := wr_id (by omega) (by omega)
  have key := @zb205_54fr T hT D κ m n k lo hlo
  simp only [he0, he1, Int.toNat_natCast] at key
  exact key
    (fun x0 x1 x2 x3 => k1 x1)
    (fun x0 x1 x2 x3 => by omega)
    (fun x0 x1 x2 => by omega)
    (fun x0 x1 x2 x3 x4 => k2 x1)
    (fun x0 x1 x2 x3 x4 => by omega)
    (fun x0 x1 x2 x3 => by omega)
    (fun x0 x1 x2 => by omega)
    (fun x0 => by omega)
theorem zb205_205r (hT : zRules T) {D : Nat} {κ : Option zA → zM → Prop} {m : zM} {n : Nat} {p : Nat} {lo : zL} (hlo : z_keep [0, 1, 3] lo = [(0, zr 74), (1, zi (n : Int)), (3, zi (p : Int))]) 
    (o1 : ¬ wr (p : Int) < wr (n : Int) → κ (some (zi (wr (n : Int)))) m)
    (o2 : wr (p : Int) < wr (n : Int) → (0 ≤ wr (p : Int) ∧ wr (p : Int) < 4))
    (o3 : wr (p : Int) < wr (n : Int) → (0 ≤ wr (p : Int) ∧ wr (p : Int) < 4))
    (o4 : wr (p : Int) < wr (n : Int) → T (D + 3) 205 (225, [(0, zr 74), (1, zi (n : Int)), (3, zi (p : Int)), (4, zi 0)], [], (zu m 77 ((wr (p : Int)).toNat) (m 83 ((wr (p : Int)).toNat)))) κ) :
    T (D + 3) 205 (205, lo, [], m) κ :=
  zkeep hT hlo (hT.1 [(28, [0, 1, 2]), (54, [0, 1, 3]), (205, [0, 1, 3]), (225, [0, 1, 3, 4])] 6 (D + 3) 205 _ κ (And.intro (fun a1 => (o1 a1)) (fun a2 => (hT.1 [(28, [0, 1, 2]), (54, [0, 1, 3]), (205, [0, 1, 3]), (225, [0, 1, 3, 4])] 6 (D + 3) 205 (215, [(0, zr 74), (1, zi (n : Int)), (3, zi (p : Int))], [zi (p : Int), zr 77], m) _ (And.intro (o2 (Classical.byContradiction a2)) (And.intro (And.intro (o3 (Classical.byContradiction a2)) trivial) (hT.1 [(28, [0, 1, 2]), (54, [0, 1, 3]), (205, [0, 1, 3]), (225, [0, 1, 3, 4])] 6 (D + 3) 205 (223, [(0, zr 74), (1, zi (n : Int)), (3, zi (p : Int))], [zi 0], (zu m 77 ((wr (p : Int)).toNat) (m 83 ((wr (p : Int)).toNat)))) _ (o4 (Classical.byContradiction a2)))))))))
theorem zb205_205 (hT : zRules T) {D : Nat} {κ : Option zA → zM → Prop} {m : zM} {n : Nat} {p : Nat} {lo : zL} (hlo : z_keep [0, 1, 3] lo = [(0, zr 74), (1, zi (n : Int)), (3, zi (p : Int))])  (hB : zB m) (h_n : n ≤ 4) (h_p : p ≤ 4) 
    (k1 : ¬ (p : Int) < (n : Int) → κ (some (zi (n : Int))) m)
    (k2 : (p : Int) < (n : Int) → zB (zu m 77 p (m 83 p)) → T (D + 3) 205 (225, [(0, zr 74), (1, zi (n : Int)), (3, zi (p : Int)), (4, zi 0)], [], (zu m 77 p (m 83 p))) κ) :
    T (D + 3) 205 (205, lo, [], m) κ := by
  have hb2 : 0 ≤ (m 83 p) ∧ (m 83 p) ≤ 26 := hB 83 p
  have he0 : wr (p : Int) = (p : Int) := wr_id (by omega) (by omega)
  have he1 : wr (n : Int) = (n : Int) := wr_id (by omega) (by omega)
  have he2 : (p : Int).toNat = p := by omega
  have key := @zb205_205r T hT D κ m n p lo hlo
  simp only [he0, he1, he2, Int.toNat_natCast] at key
  exact key
    k1
    (fun x0 => by refine ⟨?_, ?_⟩ <;> omega)
    (fun x0 => by refine ⟨?_, ?_⟩ <;> omega)
    (fun x0 => k2 x0 (zB_u hB (show 0 ≤ (m 83 p) ∧ (m 83 p) ≤ 26 from ⟨by omega, by omega⟩)))
theorem zb205_225r (hT : zRules T) {D : Nat} {κ : Option zA → zM → Prop} {m : zM} {n : Nat} {p : Nat} {k : Nat} {lo : zL} (hlo : z_keep [0, 1, 3, 4] lo = [(0, zr 74), (1, zi (n : Int)), (3, zi (p : Int)), (4, zi (k : Int))]) 
    (o1 : ¬ wr (k : Int) < 26 → T (D + 3) 205 (205, [(0, zr 74), (1, zi (n : Int)), (3, zi ((p : Int) + 1))], [], m) κ)
    (o2 : wr (k : Int) < 26 → (0 ≤ wr ((26 * (p : Int)) + (k : Int)) ∧ wr ((26 * (p : Int)) + (k : Int)) < 104))
    (o3 : wr (k : Int) < 26 → (0 ≤ wr ((26 * (p : Int)) + (k : Int)) ∧ wr ((26 * (p : Int)) + (k : Int)) < 104))
    (o4 : wr (k : Int) < 26 → T (D + 3) 205 (225, [(0, zr 74), (1, zi (n : Int)), (3, zi (p : Int)), (4, zi ((k : Int) + 1))], [], (zu m 76 ((wr ((26 * (p : Int)) + (k : Int))).toNat) (m 82 ((wr ((26 * (p : Int)) + (k : Int))).toNat)))) κ) :
    T (D + 3) 205 (225, lo, [], m) κ :=
  zkeep hT hlo (hT.1 [(28, [0, 1, 2]), (54, [0, 1, 3]), (205, [0, 1, 3]), (225, [0, 1, 3, 4])] 6 (D + 3) 205 _ κ (And.intro (fun a1 => (o1 a1)) (fun a2 => (hT.1 [(28, [0, 1, 2]), (54, [0, 1, 3]), (205, [0, 1, 3]), (225, [0, 1, 3, 4])] 6 (D + 3) 205 (238, [(0, zr 74), (1, zi (n : Int)), (3, zi (p : Int)), (4, zi (k : Int))], [zi 26, zr 76], m) _ (hT.1 [(28, [0, 1, 2]), (54, [0, 1, 3]), (205, [0, 1, 3]), (225, [0, 1, 3, 4])] 6 (D + 3) 205 (247, [(0, zr 74), (1, zi (n : Int)), (3, zi (p : Int)), (4, zi (k : Int))], [zr 82, zi ((26 * (p : Int)) + (k : Int)), zr 76], m) _ (And.intro (o2 (Classical.byContradiction a2)) (hT.1 [(28, [0, 1, 2]), (54, [0, 1, 3]), (205, [0, 1, 3]), (225, [0, 1, 3, 4])] 6 (D + 3) 205 (255, [(0, zr 74), (1, zi (n : Int)), (3, zi (p : Int)), (4, zi (k : Int))], [zi (m 82 ((wr ((26 * (p : Int)) + (k : Int))).toNat)), zi ((26 * (p : Int)) + (k : Int)), zr 76], m) _ (And.intro (And.intro (o3 (Classical.byContradiction a2)) trivial) (o4 (Classical.byContradiction a2))))))))))
theorem zb205_225 (hT : zRules T) {D : Nat} {κ : Option zA → zM → Prop} {m : zM} {n : Nat} {p : Nat} {k : Nat} {lo : zL} (hlo : z_keep [0, 1, 3, 4] lo = [(0, zr 74), (1, zi (n : Int)), (3, zi (p : Int)), (4, zi (k : Int))])  (hB : zB m) (h_n : n ≤ 4) (h_p : p ≤ 3) (h_k : k ≤ 26) 
    (k1 : ¬ (k : Int) < 26 → T (D + 3) 205 (205, [(0, zr 74), (1, zi (n : Int)), (3, zi ((p : Int) + 1))], [], m) κ)
    (k2 : (k : Int) < 26 → zB (zu m 76 (26 * p + k) (m 82 (26 * p + k))) → T (D + 3) 205 (225, [(0, zr 74), (1, zi (n : Int)), (3, zi (p : Int)), (4, zi ((k : Int) + 1))], [], (zu m 76 (26 * p + k) (m 82 (26 * p + k)))) κ) :
    T (D + 3) 205 (225, lo, [], m) κ := by
  have hb3 : 0 ≤ (m 82 (26 * p + k)) ∧ (m 82 (26 * p + k)) ≤ 9 := hB 82 (26 * p + k)
  have he0 : wr (k : Int) = (k : Int) := wr_id (by omega) (by omega)
  have he1 : wr ((26 * (p : Int)) + (k : Int)) = ((26 * (p : Int)) + (k : Int)) := wr_id (by omega) (by omega)
  have he2 : ((26 * (p : Int)) + (k : Int)).toNat = 26 * p + k := by omega
  have key := @zb205_225r T hT D κ m n p k lo hlo
  simp only [he0, he1, he2, Int.toNat_natCast] at key
  exact key
    k1
    (fun x0 => by refine ⟨?_, ?_⟩ <;> omega)
    (fun x0 => by refine ⟨?_, ?_⟩ <;> omega)
    (fun x0 => k2 x0 (zB_u hB (show 0 ≤ (m 82 (26 * p + k)) ∧ (m 82 (26 * p + k)) ≤ 9 from ⟨by omega, by omega⟩)))
end ZBlocks
end
-- 66.alm.lean.txt
section
/-! THE ALMANACS: what is read. -/
noncomputable def dgc (s : Nat → Int) : Nat → Nat → Nat
  | 0, _ => 0
  | c + 1, a => if 48 ≤ s a ∧ s a ≤ 57 then dgc s c (a + 1) + 1 else 0
/-- where PLACE i begins -/
noncomputable def stA (s : Nat → Int) : Nat → Nat
  | 0 => 0
  | i + 1 => stA s i + dgc s 26 (stA s i) + 1
noncomputable def almP (s : Nat → Int) (L : Nat) : Nat → Nat → Nat → Nat ⊕ Nat
  | 0, _, a => .inl a
  | j + 1, n, a => if dgc s 26 a = 0 then .inl a else if a + dgc s 26 a = L then .inr (n + 1) else if s (a + dgc s 26 a) = 47 then almP s L j (n + 1) (a + dgc s 26 a + 1) else .inl (a + dgc s 26 a)
theorem dgc_le {s : Nat → Int} : ∀ (c a : Nat), dgc s c a ≤ c
  | 0, a => Nat.le_refl 0
  | c + 1, a => by
    rw [dgc]
    split
    · have := dgc_le (s := s) c (a + 1)
      omega
    · omega
theorem dgc_L {s : Nat → Int} {L : Nat} (hs : ∀ a, L ≤ a → s a = -1) : ∀ (c a : Nat), a ≤ L → a + dgc s c a ≤ L
  | 0, a, h => h
  | c + 1, a, h => by
    rw [dgc]
    split
    · rename_i q
      have hL : a < L := by
        rcases Nat.lt_or_ge a L with x | x
        · exact x
        · have := hs a x
          omega
      have := dgc_L hs c (a + 1) (by omega)
      omega
    · omega
/-- PLACE i as told -/
noncomputable def placeOK (s : Nat → Int) (wk lt : Nat → Int) (i : Nat) : Prop := wk i = (dgc s 26 (stA s i) : Int) ∧ 1 ≤ dgc s 26 (stA s i) ∧ ∀ t, t < dgc s 26 (stA s i) → lt (26 * i + t) = s (stA s i + t) - 48
section ZAlm
variable {T : Nat → Nat → zG → (Option zA → zM → Prop) → Prop} {D : Nat} {κ : Option zA → zM → Prop} {m : zM} {s : Nat → Int} {L : Nat}
noncomputable def rdL : zLs := [(2, some 3), (7, none), (8, none)]
theorem nx_r {M : zM} {a : Nat} (hF : zFr (inL rdL) m M) (h : M 2 3 = (a : Int)) : nxC M = sgC m a := by
  have e1 : M 2 2 = m 2 2 := hF 2 2 rfl
  have e2 : M 3 a = m 3 a := hF 3 a rfl
  unfold nxC sgC
  rw [h, e1, Int.toNat_natCast, e2]
theorem z_readDigits (hT : zRules T) (hsd : s = sgC m) (hL : L ≤ 80) (hs : ∀ a, L ≤ a → s a = -1) {p a : Nat} {M : zM} (hp : p ≤ 3) (hBM : zB M) (hF : zFr (inL rdL) m M) (h23 : M 2 3 = (a : Int)) (ha : a ≤ L)
    (h : ∀ M1, zB M1 → zFr (inL rdL) m M1 → M1 2 3 = ((a + dgc s 26 a : Nat) : Int) → (∀ t, t < dgc s 26 a → M1 7 (26 * p + t) = s (a + t) - 48) → (∀ j, j < 26 * p → M1 7 j = M 7 j) → M1 8 = M 8 → κ (some (zi (dgc s 26 a : Int))) M1) : T (D + 3) 3 (0, [(0, zr 4), (1, zr 2), (2, zi ((p : Int) * 26))], [], M) κ := by
  have hlt : ∀ a, ¬ s a = -1 → a < L := fun a h => by
    rcases Nat.lt_or_ge a L with q | q
    · exact q
    · exact absurd (hs a q) h
  have key : ∀ (j t : Nat) (N : zM), t + j = 26 → t + dgc s j (a + t) = dgc s 26 a → a + t ≤ L → zB N → zFr (inL rdL) m N → N 2 3 = ((a + t : Nat) : Int) → (∀ u, u < t → N 7 (26 * p + u) = s (a + u) - 48) → (∀ u, u < 26 * p → N 7 u = M 7 u) → N 8 = M 8 → T (D + 3) 3 (2, [(0, zr 4), (1, zr 2), (2, zi ((26 * p : Nat) : Int)), (3, zi (t : Int))], [], N) κ := by
    intro j
    induction j with
    | zero =>
      intro t N ht hd hat hBN hFN g1 g2 g3 g4
      rw [dgc] at hd
      refine zb3_2 hT rfl hBN (by omega) (by omega) (by omega) (fun _ => ?_) (fun q => by omega) (fun q => by omega) (fun q => by omega)
      have := h N hBN hFN (by rw [g1]; omega) (fun u hu => g2 u (by omega)) g3 g4
      rw [← hd, show ((t + 0 : Nat) : Int) = 26 by omega] at this
      exact this
    | succ j ih =>
      intro t N ht hd hat hBN hFN g1 g2 g3 g4
      have hr : nxC N = s (a + t) := by rw [hsd]; exact nx_r hFN g1
      rw [dgc] at hd
      have stop : ¬ (48 ≤ s (a + t) ∧ s (a + t) ≤ 57) → κ (some (zi (t : Int))) N := by
        intro hno
        rw [if_neg hno] at hd
        have := h N hBN hFN (by rw [g1]; omega) (fun u hu => g2 u (by omega)) g3 g4
        rw [← hd] at this
        exact this
      refine zb3_2 hT rfl hBN (by omega) (by omega) (by omega) (fun q => by omega) (fun _ q => stop (by omega)) (fun _ q1 q2 hz => ?_) (fun _ q1 q2 => stop (by omega))
      rw [hr] at q1 q2 hz ⊢
      rw [if_pos (by omega)] at hd
      have haL := hlt (a + t) (by omega)
      refine ih (t + 1) _ (by omega) (by rw [show a + (t + 1) = a + t + 1 by omega]; omega) (by omega) hz ((hFN.set rfl).set rfl) ?_ (fun u hu => ?_) (fun u hu => ?_) ?_
      · rw [zu_dn (by omega), zu_sm rfl]
        omega
      · by_cases e : u = t
        · subst e
          rw [zu_sm rfl]
        · rw [zu_off (by omega), zu_dn (by omega)]
          exact g2 u (by omega)
      · rw [zu_off (by omega), zu_dn (by omega)]
        exact g3 u hu
      · rw [zu_dnR (by omega), zu_dnR (by omega)]
        exact g4
  rw [show (p : Int) * 26 = ((26 * p : Nat) : Int) by omega]
  exact zb3_0 hT (by omega) (key 26 0 M (by omega) (by rw [Nat.zero_add]; rfl) (by omega) hBM hF (by rw [h23]; omega) (fun u hu => by omega) (fun _ _ => rfl) rfl)
noncomputable def rpL : zLs := [(2, some 3), (4, some 4), (5, none), (6, none), (7, none), (8, none)]
theorem z_readPlaces (hT : zRules T) (hB : zB m) (hsd : s = sgC m) (hL : m 2 1 = (L : Int)) (hL80 : L ≤ 80) (hs : ∀ a, L ≤ a → s a = -1) (h0 : m 2 3 = 0)
    (h1 : ∀ x M1, almP s L 4 0 0 = .inl x → zB M1 → zFr (inL rdL) m M1 → M1 2 3 = (x : Int) → κ (some (zi (-1))) M1)
    (h2 : ∀ n M1, almP s L 4 0 0 = .inr n → n ≤ 4 → zB M1 → zFr (inL rpL) m M1 → M1 4 4 = (n : Int) → (∀ i, i < n → placeOK s (M1 6) (M1 5) i) → κ (some (zi (n : Int))) M1) : T (D + 4) 2 (0, [(0, zr 4), (1, zr 2)], [], m) κ := by
  have key : ∀ (j p : Nat) (M : zM), p + j = 4 → stA s p ≤ L → almP s L j p (stA s p) = almP s L 4 0 0 → zB M → zFr (inL rdL) m M → M 2 3 = (stA s p : Int) → (∀ i, i < p → placeOK s (M 8) (M 7) i) → T (D + 4) 2 (2, [(0, zr 4), (1, zr 2), (2, zi (p : Int))], [], M) κ := by
    intro j
    induction j with
    | zero =>
      intro p M hp hst hal hBM hF h23 hpl
      rw [almP] at hal
      exact zb2_2 hT rfl hBM (by omega) (fun _ => h1 _ M hal.symm hBM hF h23) (fun q => by omega)
    | succ j ih =>
      intro p M hp hst hal hBM hF h23 hpl
      refine zb2_2 hT rfl hBM (by omega) (fun q => by omega) (fun _ => ?_)
      refine z_readDigits hT hsd hL80 hs (by omega) hBM hF h23 hst (fun M1 hB1 hF1 g1 g2 g3 g4 => ?_)
      rw [almP] at hal
      have hdL := dgc_L hs 26 (stA s p) hst
      have hd26 := dgc_le (s := s) 26 (stA s p)
      have e21 : M1 2 1 = (L : Int) := by rw [hF1 2 1 rfl]; exact hL
      have hF2 : zFr (inL rdL) m (zu M1 8 p ((dgc s 26 (stA s p) : Nat) : Int)) := hF1.set rfl
      have hr : nxC (zu M1 8 p ((dgc s 26 (stA s p) : Nat) : Int)) = s (stA s p + dgc s 26 (stA s p)) := by
        rw [hsd]
        refine nx_r (by rw [← hsd]; exact hF2) ?_
        rw [← hsd]
        exact g1
      have c23 : (zu M1 8 p ((dgc s 26 (stA s p) : Nat) : Int)) 2 3 = ((stA s p + dgc s 26 (stA s p) : Nat) : Int) := g1
      have old : ∀ i, i < p → placeOK s ((zu M1 8 p ((dgc s 26 (stA s p) : Nat) : Int)) 8) (M1 7) i := fun i hi => by
        obtain ⟨a1, a2, a3⟩ := hpl i hi
        have hi26 := dgc_le (s := s) 26 (stA s i)
        refine ⟨?_, a2, fun t ht => ?_⟩
        · rw [zu_off (by omega), g4]
          exact a1
        · rw [g3 _ (by omega)]
          exact a3 t ht
      refine zb2_21 hT rfl hB1 (by omega) (by omega) (by omega) (fun q1 q2 q3 hz => ?_) (fun q1 q2 q3 hz => ?_) (fun q1 q2 => ?_) (fun q1 hz => ?_)
      · rw [hr] at q3
        rw [if_neg (by omega), if_neg (by omega), if_pos q3] at hal
        have hlt : stA s p + dgc s 26 (stA s p) < L := by
          rcases Nat.lt_or_ge (stA s p + dgc s 26 (stA s p)) L with x | x
          · exact x
          · have := hs _ x
            omega
        refine ih (p + 1) _ (by omega) (by rw [stA]; omega) (by rw [stA]; exact hal) hz (hF2.set rfl) ?_ (fun i hi => ?_)
        · rw [zu_sm rfl, g1, stA]
          omega
        · by_cases e : i = p
          · subst e
            refine ⟨?_, by omega, fun t ht => ?_⟩
            · rw [zu_dn (by omega), zu_sm rfl]
            · rw [zu_dn (by omega), zu_dn (by omega)]
              exact g2 t ht
          · obtain ⟨a1, a2, a3⟩ := old i (by omega)
            refine ⟨?_, a2, fun t ht => ?_⟩
            · rw [zu_dn (by omega)]
              exact a1
            · rw [zu_dn (by omega), zu_dn (by omega)]
              exact a3 t ht
      · rw [hr] at q3
        rw [if_neg (by omega), if_neg (by omega), if_neg q3] at hal
        exact h1 _ _ hal.symm hz hF2 c23
      · rw [if_neg (by omega), if_pos (by omega)] at hal
        have new : ∀ i, i < p + 1 → placeOK s ((zu M1 8 p ((dgc s 26 (stA s p) : Nat) : Int)) 8) (M1 7) i := fun i hi => by
          by_cases e : i = p
          · subst e
            exact ⟨by rw [zu_sm rfl], by omega, g2⟩
          · exact old i (by omega)
        have hz : zB (zu (z_cp (z_cp (zu M1 8 p ((dgc s 26 (stA s p) : Nat) : Int)) 7 5 0 0 (26 * p + 26)) 8 6 0 0 (p + 1)) 4 4 ((p : Int) + 1)) := by
          refine zB_u (zB_cp (zB_cp (zB_u hB1 (show 0 ≤ ((dgc s 26 (stA s p) : Nat) : Int) ∧ ((dgc s 26 (stA s p) : Nat) : Int) ≤ 26 by omega)) (fun j _ _ => ?_)) (fun j _ _ => ?_)) (show 0 ≤ (p : Int) + 1 ∧ (p : Int) + 1 ≤ 4 by omega)
          · rw [zu_dn (by omega)]
            exact hB1 7 _
          · rw [z_cp_dn (by omega)]
            exact (zB_u (i := p) hB1 (show 0 ≤ ((dgc s 26 (stA s p) : Nat) : Int) ∧ ((dgc s 26 (stA s p) : Nat) : Int) ≤ 26 by omega) : zB (zu M1 8 p ((dgc s 26 (stA s p) : Nat) : Int))) 8 _
        refine h2 (p + 1) _ hal.symm (by omega) hz ?_ ?_ (fun i hi => ?_)
        · exact (zFr.cp (zFr.cp (hF2.sub (inL_sub (by decide))) (fun _ => rfl)) (fun _ => rfl)).set rfl
        · rw [zu_sm rfl]
          omega
        · obtain ⟨a1, a2, a3⟩ := new i hi
          have hi26 := dgc_le (s := s) 26 (stA s i)
          refine ⟨?_, a2, fun t ht => ?_⟩
          · rw [zu_dn (by omega), z_cp_in (by omega), z_cp_dn (by omega), Nat.zero_add, Nat.sub_zero]
            exact a1
          · rw [zu_dn (by omega), z_cp_dn (by omega), z_cp_in (by omega), zu_dn (by omega), Nat.zero_add, Nat.sub_zero]
            exact a3 t ht
      · rw [if_pos (by omega)] at hal
        refine h1 _ _ hal.symm hz hF2 ?_
        rw [c23]
        omega
  exact zb2_0 hT (key 4 0 m (by omega) (by rw [stA]; omega) rfl hB zFr.refl (by rw [h0]; rfl) (fun i hi => by omega))
end ZAlm
end
-- 67.almr.lean.txt
section
/-! THE ALMANACS read by the reference; almanac(). -/
section ZAlmR
variable {T : Nat → Nat → zG → (Option zA → zM → Prop) → Prop} {D : Nat} {κ : Option zA → zM → Prop} {m : zM} {s : Nat → Int} {L : Nat}
noncomputable def raL : zLs := [(74, some 16), (74, some 17), (82, none), (83, none)]
theorem hr_a {M : zM} {a : Nat} (hF : zFr (inL raL) m M) (h16 : M 74 16 = (a : Int)) : hrR M 80 = sgR m 80 a := by
  have e14 : M 74 14 = m 74 14 := hF 74 14 rfl
  have e15 : M 74 15 = m 74 15 := hF 74 15 rfl
  have eq : M 80 a = m 80 a := hF 80 a rfl
  unfold hrR sgR
  rw [h16, e14, e15, Int.toNat_natCast, eq]
theorem z_almCopy (hT : zRules T) {n : Nat} {M : zM} (hn : n ≤ 4) (hB : zB M)
    (h : ∀ M1, zB M1 → zFr (inL [(76, none), (77, none)]) M M1 → (∀ i, i < n → M1 77 i = M 83 i) → (∀ u, u < 26 * n → M1 76 u = M 82 u) → κ (some (zi (n : Int))) M1) : T (D + 3) 205 (205, [(0, zr 74), (1, zi (n : Int)), (3, zi 0)], [], M) κ := by
  have key : ∀ (j p : Nat) (N : zM), p + j = n → zB N → zFr (inL [(76, none), (77, none)]) M N → (∀ i, i < p → N 77 i = M 83 i) → (∀ u, u < 26 * p → N 76 u = M 82 u) → T (D + 3) 205 (205, [(0, zr 74), (1, zi (n : Int)), (3, zi (p : Int))], [], N) κ := by
    intro j
    induction j with
    | zero =>
      intro p N hp hBN hF g1 g2
      refine zb205_205 hT rfl hBN hn (by omega) (fun _ => h N hBN hF (fun i hi => g1 i (by omega)) (fun u hu => g2 u (by omega))) (fun q => by omega)
    | succ j ih =>
      intro p N hp hBN hF g1 g2
      refine zb205_205 hT rfl hBN hn (by omega) (fun q => by omega) (fun _ hz => ?_)
      have inner : ∀ (i t : Nat) (N2 : zM), t + i = 26 → zB N2 → zFr (inL [(76, none), (77, none)]) M N2 → (∀ x, x < p + 1 → N2 77 x = M 83 x) → (∀ u, u < 26 * p + t → N2 76 u = M 82 u) → T (D + 3) 205 (225, [(0, zr 74), (1, zi (n : Int)), (3, zi (p : Int)), (4, zi (t : Int))], [], N2) κ := by
        intro i
        induction i with
        | zero =>
          intro t N2 ht hB2 hF2 f1 f2
          refine zb205_225 hT rfl hB2 hn (by omega) (by omega) (fun _ => ?_) (fun q => by omega)
          exact ih (p + 1) N2 (by omega) hB2 hF2 f1 (fun u hu => f2 u (by omega))
        | succ i ih2 =>
          intro t N2 ht hB2 hF2 f1 f2
          refine zb205_225 hT rfl hB2 hn (by omega) (by omega) (fun q => by omega) (fun _ hz2 => ?_)
          refine ih2 (t + 1) _ (by omega) hz2 (hF2.set rfl) (fun x hx => ?_) (fun u hu => ?_)
          · rw [zu_dn (by omega)]
            exact f1 x hx
          · by_cases e : u = 26 * p + t
            · subst e
              rw [zu_sm rfl, hF2 82 _ rfl]
            · rw [zu_off e]
              exact f2 u (by omega)
      refine inner 26 0 _ (by omega) hz (hF.set rfl) (fun x hx => ?_) (fun u hu => ?_)
      · by_cases e : x = p
        · subst e
          rw [zu_sm rfl, hF 83 _ rfl]
        · rw [zu_off e]
          exact g1 x (by omega)
      · rw [zu_dn (by omega)]
        exact g2 u (by omega)
  exact key n 0 M (by omega) hB zFr.refl (fun i hi => by omega) (fun u hu => by omega)
theorem z_almR (hT : zRules T) (hB : zB m) (hrd : m 74 13 = 80) (hsd : s = sgR m 80) (hL : m 74 14 = (L : Int)) (hL80 : L ≤ 80) (hs : ∀ a, L ≤ a → s a = -1) (h16 : m 74 16 = 0) (h17 : m 74 17 = -1)
    (h1 : ∀ x M1, almP s L 4 0 0 = .inl x → zB M1 → zFr (inL raL) m M1 → κ (some (zi (-1 - (x : Int)))) M1)
    (h2 : ∀ n M1, almP s L 4 0 0 = .inr n → n ≤ 4 → zB M1 → zFr (inL [(74, some 16), (74, some 17), (74, some 1), (82, none), (83, none), (76, none), (77, none)]) m M1 → M1 74 1 = (n : Int) → (∀ i, i < n → placeOK s (M1 77) (M1 76) i) → κ (some (zi (n : Int))) M1) : T (D + 3) 205 (28, [(0, zr 74), (1, zi 0), (2, zi 1)], [], m) κ := by
  have hlt : ∀ a, ¬ s a = -1 → a < L := fun a h => by
    rcases Nat.lt_or_ge a L with q | q
    · exact q
    · exact absurd (hs a q) h
  -- at fault
  have bad : ∀ (x n : Nat) (mo : Int) (N : zM), almP s L 4 0 0 = .inl x → x ≤ L → n ≤ 5 → (0 ≤ mo ∧ mo ≤ 1) → zB N → zFr (inL raL) m N → N 74 17 = (x : Int) → (0 ≤ N 74 16 ∧ N 74 16 ≤ 80) → T (D + 3) 205 (28, [(0, zr 74), (1, zi (n : Int)), (2, zi mo)], [], N) κ := by
    intro x n mo N hx hxL hn hmo hBN hFN g17 g16
    have := h1 x N hx hBN hFN
    rw [← g17] at this
    exact zb205_28f hT rfl hBN ((hFN 74 13 rfl).trans hrd) hn hmo (by omega) g16 (fun _ _ => this) (fun _ _ => this) (fun _ _ => this) (fun _ _ => this)
  have key : ∀ (j p : Nat) (M : zM), p + j = 4 → stA s p ≤ L → almP s L j p (stA s p) = almP s L 4 0 0 → zB M → zFr (inL raL) m M → M 74 16 = (stA s p : Int) → M 74 17 = -1 → (∀ i, i < p → placeOK s (M 83) (M 82) i) → T (D + 3) 205 (28, [(0, zr 74), (1, zi (p : Int)), (2, zi 1)], [], M) κ := by
    intro j
    induction j with
    | zero =>
      intro p M hp hst hal hBM hF g16 g17 hpl
      have ep : p = 4 := by omega
      subst ep
      rw [almP] at hal
      refine zb205_28c hT rfl hBM ((hF 74 13 rfl).trans hrd) (by omega) (by omega) (fun hz => ?_)
      have c17 : (zu M 74 17 (M 74 16)) 74 17 = (stA s 4 : Int) := by rw [zu_sm rfl]; exact g16
      have c16 : (zu M 74 17 (M 74 16)) 74 16 = (stA s 4 : Int) := by rw [zu_off (by omega)]; exact g16
      refine zb205_54f (n := 4) (k := 0) hT rfl hz ((hF 74 13 rfl).trans hrd) (by omega) (by omega) (by omega) (by omega) (fun q => absurd rfl q) (fun _ => ?_)
      exact bad _ 5 0 _ hal.symm hst (by omega) (by omega) hz (hF.set rfl) c17 (by omega)
    | succ j ih =>
      intro p M hp hst hal hBM hF g16 g17 hpl
      rw [almP] at hal
      have hdL := dgc_L hs 26 (stA s p) hst
      have hd26 := dgc_le (s := s) 26 (stA s p)
      refine zb205_28b hT rfl hBM ((hF 74 13 rfl).trans hrd) (by omega) (by omega) (by omega) ?_
      -- behind the digits
      have fin : ∀ N : zM, zB N → zFr (inL raL) m N → N 74 16 = ((stA s p + dgc s 26 (stA s p) : Nat) : Int) → N 74 17 = -1 → (∀ t, t < dgc s 26 (stA s p) → N 82 (26 * p + t) = s (stA s p + t) - 48) → (∀ u, u < 26 * p → N 82 u = M 82 u) → N 83 = M 83 → (dgc s 26 (stA s p) < 26 → ¬ (48 ≤ s (stA s p + dgc s 26 (stA s p)) ∧ s (stA s p + dgc s 26 (stA s p)) ≤ 57)) → T (D + 3) 205 (54, [(0, zr 74), (1, zi (p : Int)), (3, zi ((dgc s 26 (stA s p) : Nat) : Int))], [], N) κ := by
        intro N hBN hFN f16 f17 f1 f2 f3 f4
        generalize hd : dgc s 26 (stA s p) = d at *
        have hr : hrR N 80 = s (stA s p + d) := by rw [hsd]; exact hr_a hFN (by rw [← hsd]; exact f16)
        have hr2 : hrR (zu N 83 p (d : Int)) 80 = s (stA s p + d) := by rw [hsd]; exact hr_a (hFN.set rfl) (by rw [← hsd]; exact f16)
        have b14 : N 74 14 = (L : Int) := by rw [hFN 74 14 rfl]; exact hL
        have c17 : (zu N 74 17 (N 74 16)) 74 17 = ((stA s p + d : Nat) : Int) := by rw [zu_sm rfl]; exact f16
        have c16 : (zu N 74 17 (N 74 16)) 74 16 = ((stA s p + d : Nat) : Int) := by rw [zu_off (by omega)]; exact f16
        have new : 1 ≤ d → ∀ i, i < p + 1 → placeOK s ((zu N 83 p (d : Int)) 83) (N 82) i := fun hd1 i hi => by
          by_cases e : i = p
          · subst e
            exact ⟨by rw [zu_sm rfl, hd], by rw [hd]; exact hd1, by rw [hd]; exact f1⟩
          · obtain ⟨a1, a2, a3⟩ := hpl i (by omega)
            have hi26 := dgc_le (s := s) 26 (stA s i)
            exact ⟨by rw [zu_off (by omega), f3]; exact a1, a2, fun t ht => by rw [f2 _ (by omega)]; exact a3 t ht⟩
        have zero : d = 0 → zB (zu N 74 17 (N 74 16)) → T (D + 3) 205 (28, [(0, zr 74), (1, zi ((p : Int) + 1)), (2, zi 0)], [], zu N 74 17 (N 74 16)) κ := by
          intro h0 hz
          rw [if_pos h0] at hal
          refine bad (stA s p) (p + 1) 0 _ hal.symm hst (by omega) (by omega) hz (hFN.set rfl) ?_ (by omega)
          rw [c17]
          omega
        have slash : 1 ≤ d → s (stA s p + d) = 47 → zB (zu (zu N 83 p (d : Int)) 74 16 (N 74 16 + 1)) → T (D + 3) 205 (28, [(0, zr 74), (1, zi ((p : Int) + 1)), (2, zi 1)], [], zu (zu N 83 p (d : Int)) 74 16 (N 74 16 + 1)) κ := by
          intro hd1 h47 hz
          have hL2 := hlt (stA s p + d) (by omega)
          rw [if_neg (by omega), if_neg (by omega), if_pos h47] at hal
          refine ih (p + 1) _ (by omega) (by rw [stA, hd]; omega) (by rw [stA, hd]; exact hal) hz ((hFN.set rfl).set rfl) ?_ ?_ (fun i hi => ?_)
          · rw [zu_sm rfl, f16, stA, hd]
            omega
          · rw [zu_off (by omega), zu_dn (by omega)]
            exact f17
          · obtain ⟨a1, a2, a3⟩ := new hd1 i hi
            refine ⟨?_, a2, fun t ht => ?_⟩
            · rw [zu_dn (by omega)]
              exact a1
            · rw [zu_dn (by omega), zu_dn (by omega)]
              exact a3 t ht
        have other : 1 ≤ d → ¬ s (stA s p + d) = 47 → zB (zu N 83 p (d : Int)) → T (D + 3) 205 (28, [(0, zr 74), (1, zi ((p : Int) + 1)), (2, zi 0)], [], zu N 83 p (d : Int)) κ := by
          intro hd1 h47 hz
          have e14 : (zu N 83 p (d : Int)) 74 14 = (L : Int) := b14
          have e16 : (zu N 83 p (d : Int)) 74 16 = ((stA s p + d : Nat) : Int) := f16
          have e17 : (zu N 83 p (d : Int)) 74 17 = -1 := f17
          rw [if_neg (by omega)] at hal
          refine zb205_28a (n := p + 1) hT rfl hz ((hFN 74 13 rfl).trans hrd) (by omega) (by omega) (by omega) (fun q hz2 => ?_) (fun q hz2 => ?_)
          · rw [if_pos (by omega)] at hal
            refine z_almCopy hT (by omega) hz2 (fun M1 hB1 hF1 k1 k2 => ?_)
            refine h2 (p + 1) M1 hal.symm (by omega) hB1 ?_ ?_ (fun i hi => ?_)
            · exact (((hFN.set (q := 83) (i := p) (v := (d : Int)) rfl).sub (inL_sub (by decide))).set rfl).trans (hF1.sub (inL_sub (by decide)))
            · rw [hF1 74 1 rfl, zu_sm rfl]
            · obtain ⟨a1, a2, a3⟩ := new hd1 i hi
              have hi26 := dgc_le (s := s) 26 (stA s i)
              refine ⟨?_, a2, fun t ht => ?_⟩
              · rw [k1 i hi, zu_dn (by omega)]
                exact a1
              · rw [k2 _ (by omega), zu_dn (by omega), zu_dn (by omega)]
                exact a3 t ht
          · rw [if_neg (by omega), if_neg h47] at hal
            have := h1 _ _ hal.symm hz2 ((hFN.set (q := 83) (i := p) (v := (d : Int)) rfl).set rfl)
            rw [← e16] at this
            exact this
        refine zb205_54 hT rfl hBN ((hFN 74 13 rfl).trans hrd) (by omega) (by omega) (by omega) (by omega) (fun q1 q2 q3 hz => ?_) (fun q1 q2 q3 hz => ?_) (fun q1 q2 hz => ?_) (fun q1 q2 q3 q4 hz => ?_) (fun q1 q2 q3 q4 hz => ?_) (fun q1 q2 q3 hz => ?_) (fun q1 q2 q3 hz => ?_) (fun q1 q2 q3 hz => ?_)
        · rw [hr2] at q3
          exact slash (by omega) q3 hz
        · rw [hr2] at q3
          exact other (by omega) q3 hz
        · exact zero (by omega) hz
        · rw [hr2] at q4
          exact slash (by omega) q4 hz
        · rw [hr2] at q4
          exact other (by omega) q4 hz
        · exact zero (by omega) hz
        · rw [hr] at q1 q2
          have := f4 (by omega)
          omega
        · rw [hr] at q1 q2
          have hL2 := hlt (stA s p + d) (by omega)
          rw [if_neg (by omega), if_neg (by omega), if_neg (by omega)] at hal
          refine zb205_54f hT rfl hz ((hFN 74 13 rfl).trans hrd) (by omega) (by omega) (by omega) (by omega) (fun _ => ?_) (fun q => by omega)
          exact bad _ (p + 1) 0 _ hal.symm (by omega) (by omega) (by omega) hz (hFN.set rfl) c17 (by omega)
      have digits : ∀ (i t : Nat) (N : zM), t + i = 26 → t + dgc s i (stA s p + t) = dgc s 26 (stA s p) → stA s p + t ≤ L → zB N → zFr (inL raL) m N → N 74 16 = ((stA s p + t : Nat) : Int) → N 74 17 = -1 → (∀ u, u < t → N 82 (26 * p + u) = s (stA s p + u) - 48) → (∀ u, u < 26 * p → N 82 u = M 82 u) → N 83 = M 83 → T (D + 3) 205 (54, [(0, zr 74), (1, zi (p : Int)), (3, zi (t : Int))], [], N) κ := by
        intro i
        induction i with
        | zero =>
          intro t N ht hd hat hBN hFN f16 f17 f1 f2 f3
          rw [dgc] at hd
          have et : t = dgc s 26 (stA s p) := by omega
          subst et
          exact fin N hBN hFN f16 f17 f1 f2 f3 (fun q => by omega)
        | succ i ih2 =>
          intro t N ht hd hat hBN hFN f16 f17 f1 f2 f3
          rw [dgc] at hd
          have hr : hrR N 80 = s (stA s p + t) := by rw [hsd]; exact hr_a hFN (by rw [← hsd]; exact f16)
          by_cases q : 48 ≤ s (stA s p + t) ∧ s (stA s p + t) ≤ 57
          · rw [if_pos q] at hd
            have hL2 := hlt (stA s p + t) (by omega)
            refine zb205_54 hT rfl hBN ((hFN 74 13 rfl).trans hrd) (by omega) (by omega) (by omega) (by omega) (fun x => by omega) (fun x => by omega) (fun x => by omega) (fun _ x => by omega) (fun _ x => by omega) (fun _ x => by omega) (fun _ _ _ hz => ?_) (fun _ _ x => by omega)
            rw [hr] at hz ⊢
            refine ih2 (t + 1) _ (by omega) (by rw [show stA s p + (t + 1) = stA s p + t + 1 by omega]; omega) (by omega) hz ((hFN.set rfl).set rfl) ?_ ?_ (fun u hu => ?_) (fun u hu => ?_) ?_
            · rw [zu_sm rfl]
              omega
            · rw [zu_off (by omega), zu_dn (by omega)]
              exact f17
            · rw [zu_dn (by omega)]
              by_cases e : u = t
              · subst e
                rw [zu_sm rfl]
              · rw [zu_off (by omega)]
                exact f1 u (by omega)
            · rw [zu_dn (by omega), zu_off (by omega)]
              exact f2 u hu
            · rw [zu_dnR (by omega), zu_dnR (by omega)]
              exact f3
          · rw [if_neg q] at hd
            have et : t = dgc s 26 (stA s p) := by omega
            rw [et] at f16 f1 q ⊢
            exact fin N hBN hFN f16 f17 f1 f2 f3 (fun _ => q)
      exact digits 26 0 M (by omega) (by rw [Nat.zero_add]; rfl) (by omega) hBM hF (by rw [g16]; omega) g17 (fun u hu => by omega) (fun _ _ => rfl) rfl
  exact key 4 0 m (by omega) (by rw [stA]; omega) rfl hB zFr.refl (by rw [h16]; rfl) h17 (fun i hi => by omega)
end ZAlmR
end
-- 68.almw.lean.txt
section
/-! almanac(). -/
/-- THE TEXT's signs, up to so many -/
noncomputable def sgT (m : zM) (mx : Int) (a : Nat) : Int := if (a : Int) < m 2 1 ∧ (a : Int) < mx then m 3 a else -1
theorem sT_R {m N : zM} {mx : Int} (hT : TextRel m) (h80 : ∀ j, N 80 j = m 80 j) (h14 : N 74 14 = m 2 1) (h15 : N 74 15 = mx) : sgR N 80 = sgT m mx := by
  funext a
  unfold sgR sgT
  rw [h14, h15, h80]
  split
  · rename_i q
    rw [z_and255, hT.2 a q.1]
  · rfl
theorem sT_C {m N : zM} {mx : Int} (h3 : ∀ j, N 3 j = m 3 j) (h22 : N 2 2 = if m 2 1 < mx then m 2 1 else mx) : sgC N = sgT m mx := by
  funext a
  unfold sgC sgT
  rw [h22, h3]
  by_cases q : m 2 1 < mx
  · rw [if_pos q]
    by_cases x : (a : Int) < m 2 1
    · rw [if_pos x, if_pos ⟨x, by omega⟩]
    · rw [if_neg x, if_neg (fun y => x y.1)]
  · rw [if_neg q]
    by_cases x : (a : Int) < mx
    · rw [if_pos x, if_pos ⟨by omega, x⟩]
    · rw [if_neg x, if_neg (fun y => x y.2)]
section ZAlmW
variable {T : Nat → Nat → zG → (Option zA → zM → Prop) → Prop} {B : Int}
theorem w_almanac (hT : zRules T) : Way T 114 205 [(0, zr 1)] [(0, zr 74)] 5 3 B B True := by
  rintro D m sc ⟨n, k, hI⟩ κ hκ
  have hI0 := hI
  obtain ⟨i1, i2, i3, i4, i5, i6, i7, i8, i9, i10, i11⟩ := hI
  have b21 : 0 ≤ m 2 1 ∧ m 2 1 ≤ 80 := i1 2 1
  obtain ⟨L, hL⟩ : ∃ L : Nat, m 2 1 = (L : Int) := ⟨(m 2 1).toNat, by omega⟩
  have hs : ∀ a, L ≤ a → sgT m 80 a = -1 := fun a ha => by
    unfold sgT
    rw [if_neg (by omega)]
  -- the reference behind the class: M1 is as m but for rpL and the lengths
  have ref : ∀ (r : Option zA) (M1 : zM), zB M1 → zFr (inL [(2, some 1), (2, some 2), (2, some 3), (4, some 4), (5, none), (6, none), (7, none), (8, none)]) m M1 → M1 2 1 = 0 →
      (∀ x, almP (sgT m 80) L 4 0 0 = .inl x → r = some (zi (-1 - (x : Int))) ∧ Agree KL m M1) →
      (∀ q, almP (sgT m 80) L 4 0 0 = .inr q → r = some (zi (q : Int)) ∧ M1 4 4 = (q : Int) ∧ ∀ i, i < q → placeOK (sgT m 80) (M1 6) (M1 5) i) → κ r M1 := by
    intro r M1 hB1 hF1 h21 hx hq
    refine hκ _ _ (fun D2 κ2 h2 => ?_)
    refine zb205_0 hT hB1 (fun hz => ?_)
    generalize hN : (zu (zu (zu (zu (zu (zu (zu M1 74 12 0) 74 13 80) 74 14 (M1 74 9)) 74 15 80) 74 16 0) 74 17 (-1)) 74 9 0) = N at hz ⊢
    have f13 : N 74 13 = 80 := by rw [← hN]; simp (disch := omega) only [zu_off, zu_sm]
    have f14 : N 74 14 = m 2 1 := by
      rw [← hN]
      simp (disch := omega) only [zu_off, zu_sm]
      rw [hF1 74 9 rfl]
      exact i2.1
    have f15 : N 74 15 = 80 := by rw [← hN]; simp (disch := omega) only [zu_off, zu_sm]
    have f16 : N 74 16 = 0 := by rw [← hN]; simp (disch := omega) only [zu_off, zu_sm]
    have f17 : N 74 17 = -1 := by rw [← hN]; simp (disch := omega) only [zu_off, zu_sm]
    have f9 : N 74 9 = 0 := by rw [← hN]; simp (disch := omega) only [zu_sm]
    have hFN : zFr (inL [(74, some 9), (74, some 12), (74, some 13), (74, some 14), (74, some 15), (74, some 16), (74, some 17)]) M1 N := by
      rw [← hN]
      exact ((((((zFr.refl.set rfl).set rfl).set rfl).set rfl).set rfl).set rfl).set rfl
    have e80 : ∀ j, N 80 j = m 80 j := fun j => (hFN 80 j rfl).trans (hF1 80 j rfl)
    have hsR := sT_R i2 e80 f14 f15
    refine z_almR (s := sgT m 80) (L := L) hT hz f13 hsR.symm (f14.trans hL) (by omega) hs f16 f17 (fun x M2 hal hB2 hF2 => ?_) (fun q M2 hal hq4 hB2 hF2 g1 g2 => ?_)
    · obtain ⟨hr, hAL⟩ := hx x hal
      have hF : zFr (inL [(2, some 1), (2, some 2), (2, some 3), (4, some 4), (5, none), (6, none), (7, none), (8, none), (74, some 9), (74, some 12), (74, some 13), (74, some 14), (74, some 15), (74, some 16), (74, some 17), (82, none), (83, none)]) m M2 := ((hF1.sub (inL_sub (by decide))).trans (hFN.sub (inL_sub (by decide)))).trans (hF2.sub (inL_sub (by decide)))
      have hAL2 : Agree KL m M2 := hAL.trans ((Agree.of hFN rfl).trans (.of hF2 rfl))
      refine h2 _ _ (fun _ => hr) ⟨n, k, hB2, ⟨?_, fun j hj => ?_⟩, hAL2.law.1 i3, House_fr (.of hF rfl) i4, Term_fr (.of hF rfl) i5, Undo_fr (.of hF rfl) i6, Kept_fr (.of hF rfl) i7, Seen_fr (.of hF rfl) i8, Job_fr (.of hF rfl) i9, Now_fr (.of hF rfl) i10, Scr_fr (.of hF rfl) i11⟩
      · rw [hF2 74 9 rfl, hF2 2 1 rfl, hFN 2 1 rfl, f9, h21]
      · rw [hF2 2 1 rfl, hFN 2 1 rfl, h21] at hj
        omega
    · obtain ⟨hr, h44, hpl⟩ := hq q hal
      have hF : zFr (inL [(2, some 1), (2, some 2), (2, some 3), (4, some 4), (5, none), (6, none), (7, none), (8, none), (74, some 1), (74, some 9), (74, some 12), (74, some 13), (74, some 14), (74, some 15), (74, some 16), (74, some 17), (76, none), (77, none), (82, none), (83, none)]) m M2 := ((hF1.sub (inL_sub (by decide))).trans (hFN.sub (inL_sub (by decide)))).trans (hF2.sub (inL_sub (by decide)))
      have d44 : M2 4 4 = (q : Int) := by rw [hF2 4 4 rfl, hFN 4 4 rfl]; exact h44
      have d5 : M2 5 = M1 5 := funext fun j => (hF2 5 j rfl).trans (hFN 5 j rfl)
      have d6 : M2 6 = M1 6 := funext fun j => (hF2 6 j rfl).trans (hFN 6 j rfl)
      refine h2 _ _ (fun _ => hr) ⟨n, k, hB2, ⟨?_, fun j hj => ?_⟩, ⟨⟨fun p hp => ?_, ?_⟩, ⟨?_, fun p hp => ?_⟩, ?_⟩, House_fr (.of hF rfl) i4, Term_fr (.of hF rfl) i5, Undo_fr (.of hF rfl) i6, Kept_fr (.of hF rfl) i7, Seen_fr (.of hF rfl) i8, Job_fr (.of hF rfl) i9, Now_fr (.of hF rfl) i10, Scr_fr (.of hF rfl) i11⟩
      · rw [hF2 74 9 rfl, hF2 2 1 rfl, hFN 2 1 rfl, f9, h21]
      · rw [hF2 2 1 rfl, hFN 2 1 rfl, h21] at hj
        omega
      · rw [d44] at hp
        obtain ⟨a1, a2, a3⟩ := hpl p (by omega)
        rw [d6, a1]
        omega
      · have ec : ∀ c, (c = 10 ∨ c = 11 ∨ c = 12) → M2 c = m c := fun c hc => by
          rcases hc with rfl | rfl | rfl <;> exact funext fun j => hF _ j rfl
        rw [ec 10 (by omega), ec 11 (by omega), ec 12 (by omega), hF 9 4 rfl]
        exact i3.1.2
      · rw [g1, d44]
      · rw [d44] at hp
        obtain ⟨a1, a2, a3⟩ := hpl p (by omega)
        obtain ⟨c1, c2, c3⟩ := g2 p (by omega)
        refine ⟨by rw [c1, d6, a1], fun t ht => ?_⟩
        rw [d6, a1] at ht
        rw [c3 t (by omega), d5, a3 t (by omega)]
      · have h9 : Agree [(9, some 4), (10, none), (11, none), (12, none), (74, some 25), (86, none)] m M2 := .of hF rfl
        have es : sQ M2 = sQ m := by
          funext x
          unfold sQ
          rw [h9 74 25 rfl, h9 86 x rfl]
        have er : ruleV M2 = ruleV m := by
          funext x
          unfold ruleV
          rw [h9 9 4 rfl, show M2 10 = m 10 from funext fun j => h9 10 j rfl, show M2 11 = m 11 from funext fun j => h9 11 j rfl, show M2 12 = m 12 from funext fun j => h9 12 j rfl]
        unfold RuleRel
        rw [h9 9 4 rfl, h9 74 25 rfl, es, er]
        exact i3.2.2
  refine zb114_0 hT i1 (fun hz => ?_)
  have hsC : sgC (zu (zu m 2 3 0) 2 2 (m 2 1)) = sgT m 80 := sT_C (fun _ => rfl) (by
    rw [zu_sm rfl]
    by_cases q : m 2 1 < 80
    · rw [if_pos q]
    · rw [if_neg q]
      omega)
  have hF0 : zFr (inL [(2, some 2), (2, some 3)]) m (zu (zu m 2 3 0) 2 2 (m 2 1)) := (zFr.refl.set rfl).set rfl
  refine z_readPlaces (s := sgT m 80) (L := L) hT hz hsC.symm hL (by omega) hs rfl (fun x M1 hal hB1 hF1 g1 => ?_) (fun q M1 hal hq4 hB1 hF1 g1 g2 => ?_)
  · refine zb114_21 hT rfl hB1 (by omega) (fun q => by omega) (fun _ hz1 => ?_)
    rw [g1]
    refine ref _ _ hz1 (((hF0.sub (inL_sub (by decide))).trans (hF1.sub (inL_sub (by decide)))).set rfl) (by rw [zu_sm rfl]) (fun y hy => ?_) (fun y hy => ?_)
    · rw [hal] at hy
      cases hy
      exact ⟨rfl, (Agree.of hF0 rfl).trans ((Agree.of hF1 rfl).trans (.of (L := [(2, some 1)]) (zFr.refl.set rfl) rfl))⟩
    · rw [hal] at hy
      cases hy
  · refine zb114_21 hT rfl hB1 (by omega) (fun _ hz1 => ?_) (fun q => by omega)
    refine ref _ _ hz1 (((hF0.sub (inL_sub (by decide))).trans (hF1.sub (inL_sub (by decide)))).set rfl) (by rw [zu_sm rfl]) (fun y hy => ?_) (fun y hy => ?_)
    · rw [hal] at hy
      cases hy
    · rw [hal] at hy
      cases hy
      exact ⟨rfl, g1, g2⟩
end ZAlmW
end
-- 69.b9.lean.txt
section
section ZBlocks
variable {T : Nat → Nat → zG → (Option zA → zM → Prop) → Prop}
theorem zb50_0r (hT : zRules T) {D : Nat} {κ : Option zA → zM → Prop} {m : zM} 
    (o1 : ¬ wr (m 2 1) = 0 → T (D + 12) 52 (0, [(0, zr 9), (1, zr 2), (2, zi 0)], [], (zu m 9 8 0)) (fun r m1 => T (D + 13) 50 (18, [(0, zr 9), (1, zr 2)], r.toList ++ [], m1) κ))
    (o2 : wr (m 2 1) = 0 → κ (some (zi 0)) (zu (z_cp (z_cp (z_cp (zu m 9 8 0) 14 10 0 0 0) 15 11 0 0 0) 16 12 0 0 0) 9 4 0)) :
    T (D + 13) 50 (0, [(0, zr 9), (1, zr 2)], [], m) κ :=
  hT.1 [] 6 (D + 13) 50 _ κ (And.intro trivial (hT.1 [] 6 (D + 12) 65 _ _ (And.intro (fun a1 => (And.intro (z_b01L rfl) (hT.1 [] 6 (D + 13) 50 _ _ (And.intro (fun a3 => (z_litF a3 rfl).elim) (fun _ => (o1 a1)))))) (fun a2 => (And.intro (z_b01L rfl) (hT.1 [] 6 (D + 13) 50 _ _ (And.intro (fun _ => (hT.1 [] 6 (D + 13) 50 (40, [(0, zr 9), (1, zr 2)], [zr 10, zi 0, zr 14], (zu m 9 8 0)) _ (And.intro (And.intro (z_leL rfl) (And.intro (z_leL rfl) (And.intro (z_leL rfl) (And.intro (z_leL rfl) (z_leL rfl))))) (hT.1 [] 6 (D + 13) 50 (52, [(0, zr 9), (1, zr 2)], [zr 15], (z_cp (zu m 9 8 0) 14 10 0 0 0)) _ (hT.1 [] 6 (D + 13) 50 (62, [(0, zr 9), (1, zr 2)], [zi 0, zi 0, zr 11, zi 0, zr 15], (z_cp (zu m 9 8 0) 14 10 0 0 0)) _ (And.intro (And.intro (z_leL rfl) (And.intro (z_leL rfl) (And.intro (z_leL rfl) (And.intro (z_leL rfl) (z_leL rfl))))) (hT.1 [] 6 (D + 13) 50 (74, [(0, zr 9), (1, zr 2)], [zr 12, zi 0, zr 16], (z_cp (z_cp (zu m 9 8 0) 14 10 0 0 0) 15 11 0 0 0)) _ (And.intro (And.intro (z_leL rfl) (And.intro (z_leL rfl) (And.intro (z_leL rfl) (And.intro (z_leL rfl) (z_leL rfl))))) (hT.1 [] 6 (D + 13) 50 (84, [(0, zr 9), (1, zr 2)], [zr 9, zr 9], (z_cp (z_cp (z_cp (zu m 9 8 0) 14 10 0 0 0) 15 11 0 0 0) 16 12 0 0 0)) _ (And.intro trivial (o2 (Classical.byContradiction a2)))))))))))) (fun a4 => (a4 (z_litT rfl)).elim))))))))
theorem zb50_0 (hT : zRules T) {D : Nat} {κ : Option zA → zM → Prop} {m : zM}  (hB : zB m) 
    (k1 : ¬ (m 2 1) = 0 → zB (zu m 9 8 0) → T (D + 12) 52 (0, [(0, zr 9), (1, zr 2), (2, zi 0)], [], (zu m 9 8 0)) (fun r m1 => T (D + 13) 50 (18, [(0, zr 9), (1, zr 2)], r.toList ++ [], m1) κ))
    (k2 : (m 2 1) = 0 → zB (zu (z_cp (z_cp (z_cp (zu m 9 8 0) 14 10 0 0 0) 15 11 0 0 0) 16 12 0 0 0) 9 4 0) → κ (some (zi 0)) (zu (z_cp (z_cp (z_cp (zu m 9 8 0) 14 10 0 0 0) 15 11 0 0 0) 16 12 0 0 0) 9 4 0)) :
    T (D + 13) 50 (0, [(0, zr 9), (1, zr 2)], [], m) κ := by
  have hb0 : 0 ≤ (m 2 1) ∧ (m 2 1) ≤ 80 := hB 2 1
  have he0 : wr (m 2 1) = (m 2 1) := wr_id (by omega) (by omega)
  have key := @zb50_0r T hT D κ m 
  simp only [he0, Int.toNat_natCast] at key
  exact key
    (fun x0 => k1 x0 (zB_u hB (show 0 ≤ 0 ∧ 0 ≤ 40 from ⟨by omega, by omega⟩)))
    (fun x0 => k2 x0 (zB_u (zB_cpB (zB_cpB (zB_cpB (zB_u hB (show 0 ≤ 0 ∧ 0 ≤ 40 from ⟨by omega, by omega⟩)) rfl) rfl) rfl) (show 0 ≤ 0 ∧ 0 ≤ 40 from ⟨by omega, by omega⟩)))
theorem zb50_18r (hT : zRules T) {D : Nat} {κ : Option zA → zM → Prop} {m : zM} {v : Int} {lo : zL} (hlo : z_keep [0, 1] lo = [(0, zr 9), (1, zr 2)]) 
    (o1 : wr v = (-1) → κ (some (zi (-1))) m)
    (o2 : ¬ wr v = (-1) → ¬ wr (m 2 3) = wr (m 2 1) → κ (some (zi (-1))) m)
    (o3 : ¬ wr v = (-1) → wr (m 2 3) = wr (m 2 1) → ((0 : Int) ≤ 0 ∧ (0 : Int) ≤ 0 ∧ (0 : Int) ≤ wr (m 9 8) ∧ 0 + wr (m 9 8) ≤ 40 ∧ 0 + wr (m 9 8) ≤ 40))
    (o4 : ¬ wr v = (-1) → wr (m 2 3) = wr (m 2 1) → ((0 : Int) ≤ 0 ∧ (0 : Int) ≤ 0 ∧ (0 : Int) ≤ wr (m 9 8) ∧ 0 + wr (m 9 8) ≤ 40 ∧ 0 + wr (m 9 8) ≤ 40))
    (o5 : ¬ wr v = (-1) → wr (m 2 3) = wr (m 2 1) → ((0 : Int) ≤ 0 ∧ (0 : Int) ≤ 0 ∧ (0 : Int) ≤ wr (m 9 8) ∧ 0 + wr (m 9 8) ≤ 40 ∧ 0 + wr (m 9 8) ≤ 40))
    (o6 : ¬ wr v = (-1) → wr (m 2 3) = wr (m 2 1) → κ (some (zi 0)) (zu (z_cp (z_cp (z_cp m 14 10 0 0 ((wr (m 9 8)).toNat)) 15 11 0 0 ((wr (m 9 8)).toNat)) 16 12 0 0 ((wr (m 9 8)).toNat)) 9 4 (m 9 8))) :
    T (D + 13) 50 (18, lo, [zi v], m) κ :=
  zkeep hT hlo (hT.1 [] 6 (D + 13) 50 _ κ (And.intro (fun a1 => (o1 a1)) (fun a2 => (hT.1 [] 6 (D + 12) 68 _ _ (And.intro (fun a3 => (hT.1 [] 6 (D + 12) 68 (16, [(0, zr 2)], [zi 0], m) _ (And.intro (z_b01L rfl) (hT.1 [] 6 (D + 13) 50 _ _ (And.intro (fun a5 => (z_litF a5 rfl).elim) (fun _ => (o2 a2 a3))))))) (fun a4 => (hT.1 [] 6 (D + 12) 68 (12, [(0, zr 2)], [zi 1], m) _ (And.intro (z_b01L rfl) (hT.1 [] 6 (D + 13) 50 _ _ (And.intro (fun _ => (hT.1 [] 6 (D + 13) 50 (40, [(0, zr 9), (1, zr 2)], [zr 10, zi 0, zr 14], m) _ (And.intro (o3 a2 (Classical.byContradiction a4)) (hT.1 [] 6 (D + 13) 50 (52, [(0, zr 9), (1, zr 2)], [zr 15], (z_cp m 14 10 0 0 ((wr (m 9 8)).toNat))) _ (hT.1 [] 6 (D + 13) 50 (62, [(0, zr 9), (1, zr 2)], [zi (m 9 8), zi 0, zr 11, zi 0, zr 15], (z_cp m 14 10 0 0 ((wr (m 9 8)).toNat))) _ (And.intro (o4 a2 (Classical.byContradiction a4)) (hT.1 [] 6 (D + 13) 50 (74, [(0, zr 9), (1, zr 2)], [zr 12, zi 0, zr 16], (z_cp (z_cp m 14 10 0 0 ((wr (m 9 8)).toNat)) 15 11 0 0 ((wr (m 9 8)).toNat))) _ (And.intro (o5 a2 (Classical.byContradiction a4)) (hT.1 [] 6 (D + 13) 50 (84, [(0, zr 9), (1, zr 2)], [zr 9, zr 9], (z_cp (z_cp (z_cp m 14 10 0 0 ((wr (m 9 8)).toNat)) 15 11 0 0 ((wr (m 9 8)).toNat)) 16 12 0 0 ((wr (m 9 8)).toNat))) _ (And.intro trivial (o6 a2 (Classical.byContradiction a4)))))))))))) (fun a6 => (a6 (z_litT rfl)).elim)))))))))))
theorem zb50_18 (hT : zRules T) {D : Nat} {κ : Option zA → zM → Prop} {m : zM} {v : Int} {lo : zL} (hlo : z_keep [0, 1] lo = [(0, zr 9), (1, zr 2)])  (hB : zB m) (h_v : (-1) ≤ v ∧ v ≤ 39) (hf0 : 0 ≤ m 9 8 ∧ m 9 8 ≤ 40) (hf1 : 0 ≤ m 2 3 ∧ m 2 3 ≤ 80) 
    (k1 : v = (-1) → κ (some (zi (-1))) m)
    (k2 : ¬ v = (-1) → ¬ (m 2 3) = (m 2 1) → κ (some (zi (-1))) m)
    (k3 : ¬ v = (-1) → (m 2 3) = (m 2 1) → κ (some (zi 0)) (zu (z_cp (z_cp (z_cp m 14 10 0 0 ((m 9 8).toNat)) 15 11 0 0 ((m 9 8).toNat)) 16 12 0 0 ((m 9 8).toNat)) 9 4 (m 9 8))) :
    T (D + 13) 50 (18, lo, [zi v], m) κ := by
  have hb3 : 0 ≤ (m 2 1) ∧ (m 2 1) ≤ 80 := hB 2 1
  have he0 : wr v = v := wr_id (by omega) (by omega)
  have he1 : wr (m 2 3) = (m 2 3) := wr_id (by omega) (by omega)
  have he2 : wr (m 2 1) = (m 2 1) := wr_id (by omega) (by omega)
  have he3 : wr (m 9 8) = (m 9 8) := wr_id (by omega) (by omega)
  have key := @zb50_18r T hT D κ m v lo hlo
  simp only [he0, he1, he2, he3, Int.toNat_natCast] at key
  exact key
    k1
    k2
    (fun x0 x1 => by refine ⟨?_, ?_, ?_, ?_, ?_⟩ <;> omega)
    (fun x0 x1 => by refine ⟨?_, ?_, ?_, ?_, ?_⟩ <;> omega)
    (fun x0 x1 => by refine ⟨?_, ?_, ?_, ?_, ?_⟩ <;> omega)
    k3
theorem zb116_0r (hT : zRules T) {D : Nat} {κ : Option zA → zM → Prop} {m : zM} 
    (o1 : 40 < wr (m 2 1) → T (D + 13) 50 (0, [(0, zr 9), (1, zr 2)], [], (zu (zu m 2 3 0) 2 2 40)) (fun r m1 => T (D + 14) 116 (21, [(0, zr 1)], r.toList ++ [zr 1], m1) κ))
    (o2 : ¬ 40 < wr (m 2 1) → T (D + 13) 50 (0, [(0, zr 9), (1, zr 2)], [], (zu (zu m 2 3 0) 2 2 (wr (m 2 1)))) (fun r m1 => T (D + 14) 116 (21, [(0, zr 1)], r.toList ++ [zr 1], m1) κ)) :
    T (D + 14) 116 (0, [(0, zr 1)], [], m) κ :=
  hT.1 [] 6 (D + 14) 116 _ κ (hT.1 [] 6 (D + 13) 66 _ _ (And.intro trivial (hT.1 [] 6 (D + 13) 66 (10, [(0, zr 2), (1, zi 40)], [zi (m 2 1), zr 2], (zu m 2 3 0)) _ (hT.1 [] 6 (D + 12) 294 _ _ (And.intro (fun a1 => (hT.1 [] 6 (D + 13) 66 _ _ (And.intro trivial (hT.1 [] 6 (D + 14) 116 _ _ (o1 a1))))) (fun a2 => (hT.1 [] 6 (D + 13) 66 _ _ (And.intro trivial (hT.1 [] 6 (D + 14) 116 _ _ (o2 a2))))))))))
theorem zb116_0 (hT : zRules T) {D : Nat} {κ : Option zA → zM → Prop} {m : zM}  (hB : zB m) 
    (k1 : 40 < (m 2 1) → zB (zu (zu m 2 3 0) 2 2 40) → T (D + 13) 50 (0, [(0, zr 9), (1, zr 2)], [], (zu (zu m 2 3 0) 2 2 40)) (fun r m1 => T (D + 14) 116 (21, [(0, zr 1)], r.toList ++ [zr 1], m1) κ))
    (k2 : ¬ 40 < (m 2 1) → zB (zu (zu m 2 3 0) 2 2 (m 2 1)) → T (D + 13) 50 (0, [(0, zr 9), (1, zr 2)], [], (zu (zu m 2 3 0) 2 2 (m 2 1))) (fun r m1 => T (D + 14) 116 (21, [(0, zr 1)], r.toList ++ [zr 1], m1) κ)) :
    T (D + 14) 116 (0, [(0, zr 1)], [], m) κ := by
  have hb0 : 0 ≤ (m 2 1) ∧ (m 2 1) ≤ 80 := hB 2 1
  have he0 : wr (m 2 1) = (m 2 1) := wr_id (by omega) (by omega)
  have key := @zb116_0r T hT D κ m 
  simp only [he0, Int.toNat_natCast] at key
  exact key
    (fun x0 => k1 x0 (zB_u (zB_u hB (show (-1) ≤ 0 ∧ 0 ≤ 100 from ⟨by omega, by omega⟩)) (show 0 ≤ 40 ∧ 40 ≤ 80 from ⟨by omega, by omega⟩)))
    (fun x0 => k2 x0 (zB_u (zB_u hB (show (-1) ≤ 0 ∧ 0 ≤ 100 from ⟨by omega, by omega⟩)) (show 0 ≤ (m 2 1) ∧ (m 2 1) ≤ 80 from ⟨by omega, by omega⟩)))
theorem zb116_21r (hT : zRules T) {D : Nat} {κ : Option zA → zM → Prop} {m : zM} {v : Int} {lo : zL} (hlo : z_keep [] lo = []) 
    (o1 : ¬ wr v < 0 → κ (some (zi (wr (wr v)))) (zu m 2 1 0))
    (o2 : wr v < 0 → κ (some (zi (wr (wr ((-1) - (m 2 3)))))) (zu m 2 1 0)) :
    T (D + 14) 116 (21, lo, [zi v, zr 1], m) κ :=
  zkeep hT hlo (hT.1 [] 6 (D + 14) 116 _ κ (hT.1 [] 6 (D + 13) 168 _ _ (And.intro (fun a1 => (hT.1 [] 6 (D + 13) 168 (22, [(0, zr 1), (1, zi v), (2, zi v)], [zr 2], m) _ (And.intro trivial (hT.1 [] 6 (D + 14) 116 _ _ (o1 a1))))) (fun a2 => (hT.1 [] 6 (D + 13) 168 (12, [(0, zr 1), (1, zi v)], [zi (m 2 3), zi (-1)], m) _ (hT.1 [] 6 (D + 13) 168 (23, [(0, zr 1), (1, zi v), (2, zi ((-1) - (m 2 3)))], [zi 0, zr 2], m) _ (And.intro trivial (hT.1 [] 6 (D + 14) 116 _ _ (o2 (Classical.byContradiction a2))))))))))
theorem zb116_21 (hT : zRules T) {D : Nat} {κ : Option zA → zM → Prop} {m : zM} {v : Int} {lo : zL} (hlo : z_keep [] lo = [])  (hB : zB m) (h_v : (-1) ≤ v ∧ v ≤ 0) 
    (k1 : ¬ v < 0 → zB (zu m 2 1 0) → κ (some (zi v)) (zu m 2 1 0))
    (k2 : v < 0 → zB (zu m 2 1 0) → κ (some (zi ((-1) - (m 2 3)))) (zu m 2 1 0)) :
    T (D + 14) 116 (21, lo, [zi v, zr 1], m) κ := by
  have hb1 : (-1) ≤ (m 2 3) ∧ (m 2 3) ≤ 100 := hB 2 3
  have he0 : wr v = v := wr_id (by omega) (by omega)
  have he1 : wr ((-1) - (m 2 3)) = ((-1) - (m 2 3)) := wr_id (by omega) (by omega)
  have key := @zb116_21r T hT D κ m v lo hlo
  simp only [he0, he1, Int.toNat_natCast] at key
  exact key
    (fun x0 => k1 x0 (zB_u hB (show 0 ≤ 0 ∧ 0 ≤ 80 from ⟨by omega, by omega⟩)))
    (fun x0 => k2 x0 (zB_u hB (show 0 ≤ 0 ∧ 0 ≤ 80 from ⟨by omega, by omega⟩)))
theorem zb212_0r (hT : zRules T) {D : Nat} {κ : Option zA → zM → Prop} {m : zM} 
    (o1 : ¬ 0 < wr (m 74 9) → T (D + 5) 212 (73, [(0, zr 74), (1, zi (m 74 9)), (2, zi 0)], [], (zu (zu (zu (zu (zu (zu (zu (zu m 74 12 0) 74 13 80) 74 14 (m 74 9)) 74 15 40) 74 16 0) 74 17 (-1)) 74 9 0) 74 26 0)) κ)
    (o2 : 0 < wr (m 74 9) → T (D + 4) 208 (0, [(0, zr 74), (1, zi 0)], [], (zu (zu (zu (zu (zu (zu (zu (zu m 74 12 0) 74 13 80) 74 14 (m 74 9)) 74 15 40) 74 16 0) 74 17 (-1)) 74 9 0) 74 26 0)) (fun r m1 => T (D + 5) 212 (40, [(0, zr 74), (1, zi (m 74 9))], r.toList ++ [], m1) κ)) :
    T (D + 5) 212 (0, [(0, zr 74)], [], m) κ :=
  hT.1 [(73, [0, 1, 2])] 6 (D + 5) 212 _ κ (And.intro trivial (hT.1 [(73, [0, 1, 2])] 6 (D + 5) 212 (10, [(0, zr 74), (1, zi (m 74 9))], [], (zu m 74 12 0)) _ (hT.1 [] 6 (D + 4) 197 _ _ (And.intro trivial (hT.1 [] 6 (D + 4) 197 (10, [(0, zr 74), (1, zr 80), (2, zi (m 74 9)), (3, zi 40)], [], (zu (zu (zu m 74 12 0) 74 13 80) 74 14 (m 74 9))) _ (And.intro trivial (And.intro trivial (hT.1 [] 6 (D + 4) 197 (20, [(0, zr 74), (1, zr 80), (2, zi (m 74 9)), (3, zi 40)], [], (zu (zu (zu (zu (zu m 74 12 0) 74 13 80) 74 14 (m 74 9)) 74 15 40) 74 16 0)) _ (And.intro trivial (hT.1 [(73, [0, 1, 2])] 6 (D + 5) 212 _ _ (And.intro trivial (And.intro (z_b01L rfl) (hT.1 [(73, [0, 1, 2])] 6 (D + 5) 212 (31, [(0, zr 74), (1, zi (m 74 9))], [], (zu (zu (zu (zu (zu (zu (zu (zu m 74 12 0) 74 13 80) 74 14 (m 74 9)) 74 15 40) 74 16 0) 74 17 (-1)) 74 9 0) 74 26 0)) _ (And.intro (fun a1 => (o1 a1)) (fun a2 => (o2 (Classical.byContradiction a2)))))))))))))))))
theorem zb212_0 (hT : zRules T) {D : Nat} {κ : Option zA → zM → Prop} {m : zM}  (hB : zB m) 
    (k1 : ¬ 0 < (m 74 9) → zB (zu (zu (zu (zu (zu (zu (zu (zu m 74 12 0) 74 13 80) 74 14 (m 74 9)) 74 15 40) 74 16 0) 74 17 (-1)) 74 9 0) 74 26 0) → T (D + 5) 212 (73, [(0, zr 74), (1, zi (m 74 9)), (2, zi 0)], [], (zu (zu (zu (zu (zu (zu (zu (zu m 74 12 0) 74 13 80) 74 14 (m 74 9)) 74 15 40) 74 16 0) 74 17 (-1)) 74 9 0) 74 26 0)) κ)
    (k2 : 0 < (m 74 9) → zB (zu (zu (zu (zu (zu (zu (zu (zu m 74 12 0) 74 13 80) 74 14 (m 74 9)) 74 15 40) 74 16 0) 74 17 (-1)) 74 9 0) 74 26 0) → T (D + 4) 208 (0, [(0, zr 74), (1, zi 0)], [], (zu (zu (zu (zu (zu (zu (zu (zu m 74 12 0) 74 13 80) 74 14 (m 74 9)) 74 15 40) 74 16 0) 74 17 (-1)) 74 9 0) 74 26 0)) (fun r m1 => T (D + 5) 212 (40, [(0, zr 74), (1, zi (m 74 9))], r.toList ++ [], m1) κ)) :
    T (D + 5) 212 (0, [(0, zr 74)], [], m) κ := by
  have hb0 : 0 ≤ (m 74 9) ∧ (m 74 9) ≤ 80 := hB 74 9
  have he0 : wr (m 74 9) = (m 74 9) := wr_id (by omega) (by omega)
  have key := @zb212_0r T hT D κ m 
  simp only [he0, Int.toNat_natCast] at key
  exact key
    (fun x0 => k1 x0 (zB_u (zB_u (zB_u (zB_u (zB_u (zB_u (zB_u (zB_u hB trivial) trivial) (show 0 ≤ (m 74 9) ∧ (m 74 9) ≤ 80 from ⟨by omega, by omega⟩)) (show 0 ≤ 40 ∧ 40 ≤ 80 from ⟨by omega, by omega⟩)) (show 0 ≤ 0 ∧ 0 ≤ 100 from ⟨by omega, by omega⟩)) trivial) (show 0 ≤ 0 ∧ 0 ≤ 80 from ⟨by omega, by omega⟩)) (show 0 ≤ 0 ∧ 0 ≤ 1 from ⟨by omega, by omega⟩)))
    (fun x0 => k2 x0 (zB_u (zB_u (zB_u (zB_u (zB_u (zB_u (zB_u (zB_u hB trivial) trivial) (show 0 ≤ (m 74 9) ∧ (m 74 9) ≤ 80 from ⟨by omega, by omega⟩)) (show 0 ≤ 40 ∧ 40 ≤ 80 from ⟨by omega, by omega⟩)) (show 0 ≤ 0 ∧ 0 ≤ 100 from ⟨by omega, by omega⟩)) trivial) (show 0 ≤ 0 ∧ 0 ≤ 80 from ⟨by omega, by omega⟩)) (show 0 ≤ 0 ∧ 0 ≤ 1 from ⟨by omega, by omega⟩)))
theorem zb212_40r (hT : zRules T) {D : Nat} {κ : Option zA → zM → Prop} {m : zM} {n : Nat} {v : Int} {lo : zL} (hlo : z_keep [0, 1] lo = [(0, zr 74), (1, zi (n : Int))]) 
    (o1 : ¬ wr (m 74 16) < wr (n : Int) → ¬ wr (m 74 17) = (-1) → False)
    (o2 : ¬ wr (m 74 16) < wr (n : Int) → wr (m 74 17) = (-1) → T (D + 5) 212 (73, [(0, zr 74), (1, zi (n : Int)), (2, zi 0)], [], m) κ)
    (o3 : wr (m 74 16) < wr (n : Int) → ¬ wr (m 74 17) = (-1) → False)
    (o4 : wr (m 74 16) < wr (n : Int) → wr (m 74 17) = (-1) → ¬ wr (m 74 16) = (-1) → κ (some (zi (wr ((-1) - (m 74 16))))) (zu m 74 17 (m 74 16)))
    (o5 : wr (m 74 16) < wr (n : Int) → wr (m 74 17) = (-1) → wr (m 74 16) = (-1) → False) :
    T (D + 5) 212 (40, lo, [zi v], m) κ :=
  zkeep hT hlo (hT.1 [(73, [0, 1, 2])] 6 (D + 5) 212 _ κ (And.intro (fun a1 => (hT.1 [(73, [0, 1, 2])] 6 (D + 5) 212 (58, [(0, zr 74), (1, zi (n : Int))], [zr 74], m) _ (hT.1 [] 6 (D + 4) 199 _ _ (And.intro (fun a3 => (o1 a1 a3).elim) (fun a4 => (hT.1 [] 6 (D + 4) 199 (13, [(0, zr 74)], [zi 1], m) _ (And.intro (z_b01L rfl) (hT.1 [(73, [0, 1, 2])] 6 (D + 5) 212 _ _ (And.intro (fun _ => (o2 a1 (Classical.byContradiction a4))) (fun a5 => (a5 (z_litT rfl)).elim)))))))))) (fun a2 => (hT.1 [(73, [0, 1, 2])] 6 (D + 5) 212 (50, [(0, zr 74), (1, zi (n : Int))], [zr 74], m) _ (hT.1 [] 6 (D + 4) 200 _ _ (hT.1 [] 6 (D + 3) 199 _ _ (And.intro (fun a6 => (o3 (Classical.byContradiction a2) a6).elim) (fun a7 => (hT.1 [] 6 (D + 3) 199 (13, [(0, zr 74)], [zi 1], m) _ (And.intro (z_b01L rfl) (hT.1 [] 6 (D + 4) 200 _ _ (And.intro (fun a8 => (z_litF a8 rfl).elim) (fun _ => (And.intro trivial (hT.1 [(73, [0, 1, 2])] 6 (D + 5) 212 _ _ (hT.1 [] 6 (D + 4) 199 _ _ (And.intro (fun a9 => (And.intro (z_b01L rfl) (hT.1 [(73, [0, 1, 2])] 6 (D + 5) 212 _ _ (And.intro (fun a11 => (z_litF a11 rfl).elim) (fun _ => (o4 (Classical.byContradiction a2) (Classical.byContradiction a7) a9)))))) (fun a10 => (o5 (Classical.byContradiction a2) (Classical.byContradiction a7) (Classical.byContradiction a10)).elim))))))))))))))))))
theorem zb212_40 (hT : zRules T) {D : Nat} {κ : Option zA → zM → Prop} {m : zM} {n : Nat} {v : Int} {lo : zL} (hlo : z_keep [0, 1] lo = [(0, zr 74), (1, zi (n : Int))])  (hB : zB m) (h_n : n ≤ 80) (hf0 : (-1) ≤ m 74 17 ∧ m 74 17 ≤ (-1)) (hf1 : 0 ≤ m 74 16 ∧ m 74 16 ≤ 80) 
    (k1 : ¬ (m 74 16) < (n : Int) → T (D + 5) 212 (73, [(0, zr 74), (1, zi (n : Int)), (2, zi 0)], [], m) κ)
    (k2 : (m 74 16) < (n : Int) → zB (zu m 74 17 (m 74 16)) → κ (some (zi ((-1) - (m 74 16)))) (zu m 74 17 (m 74 16))) :
    T (D + 5) 212 (40, lo, [zi v], m) κ := by
  have he0 : wr (m 74 16) = (m 74 16) := wr_id (by omega) (by omega)
  have he1 : wr (n : Int) = (n : Int) := wr_id (by omega) (by omega)
  have he2 : wr (m 74 17) = (m 74 17) := wr_id (by omega) (by omega)
  have he3 : wr ((-1) - (m 74 16)) = ((-1) - (m 74 16)) := wr_id (by omega) (by omega)
  have key := @zb212_40r T hT D κ m n v lo hlo
  simp only [he0, he1, he2, he3, Int.toNat_natCast] at key
  exact key
    (fun x0 x1 => by omega)
    (fun x0 x1 => k1 x0)
    (fun x0 x1 => by omega)
    (fun x0 x1 x2 => k2 x0 (zB_u hB trivial))
    (fun x0 x1 x2 => by omega)
theorem zb212_40fr (hT : zRules T) {D : Nat} {κ : Option zA → zM → Prop} {m : zM} {n : Nat} {v : Int} {lo : zL} (hlo : z_keep [0, 1] lo = [(0, zr 74), (1, zi (n : Int))]) 
    (o1 : ¬ wr (m 74 16) < wr (n : Int) → ¬ wr (m 74 17) = (-1) → κ (some (zi (wr ((-1) - (m 74 17))))) m)
    (o2 : ¬ wr (m 74 16) < wr (n : Int) → wr (m 74 17) = (-1) → False)
    (o3 : wr (m 74 16) < wr (n : Int) → ¬ wr (m 74 17) = (-1) → ¬ wr (m 74 17) = (-1) → κ (some (zi (wr ((-1) - (m 74 17))))) m)
    (o4 : wr (m 74 16) < wr (n : Int) → ¬ wr (m 74 17) = (-1) → wr (m 74 17) = (-1) → False)
    (o5 : wr (m 74 16) < wr (n : Int) → wr (m 74 17) = (-1) → False) :
    T (D + 5) 212 (40, lo, [zi v], m) κ :=
  zkeep hT hlo (hT.1 [(73, [0, 1, 2])] 6 (D + 5) 212 _ κ (And.intro (fun a1 => (hT.1 [(73, [0, 1, 2])] 6 (D + 5) 212 (58, [(0, zr 74), (1, zi (n : Int))], [zr 74], m) _ (hT.1 [] 6 (D + 4) 199 _ _ (And.intro (fun a3 => (And.intro (z_b01L rfl) (hT.1 [(73, [0, 1, 2])] 6 (D + 5) 212 _ _ (And.intro (fun a5 => (z_litF a5 rfl).elim) (fun _ => (o1 a1 a3)))))) (fun a4 => (o2 a1 (Classical.byContradiction a4)).elim))))) (fun a2 => (hT.1 [(73, [0, 1, 2])] 6 (D + 5) 212 (50, [(0, zr 74), (1, zi (n : Int))], [zr 74], m) _ (hT.1 [] 6 (D + 4) 200 _ _ (hT.1 [] 6 (D + 3) 199 _ _ (And.intro (fun a6 => (And.intro (z_b01L rfl) (hT.1 [] 6 (D + 4) 200 _ _ (And.intro (fun _ => (hT.1 [(73, [0, 1, 2])] 6 (D + 5) 212 _ _ (hT.1 [] 6 (D + 4) 199 _ _ (And.intro (fun a9 => (And.intro (z_b01L rfl) (hT.1 [(73, [0, 1, 2])] 6 (D + 5) 212 _ _ (And.intro (fun a11 => (z_litF a11 rfl).elim) (fun _ => (o3 (Classical.byContradiction a2) a6 a9)))))) (fun a10 => (o4 (Classical.byContradiction a2) a6 (Classical.byContradiction a10)).elim))))) (fun a8 => (a8 (z_litT rfl)).elim))))) (fun a7 => (o5 (Classical.byContradiction a2) (Classical.byContradiction a7)).elim))))))))
theorem zb212_40f (hT : zRules T) {D : Nat} {κ : Option zA → zM → Prop} {m : zM} {n : Nat} {v : Int} {lo : zL} (hlo : z_keep [0, 1] lo = [(0, zr 74), (1, zi (n : Int))])  (hB : zB m) (h_n : n ≤ 80) (hf0 : 0 ≤ m 74 17 ∧ m 74 17 ≤ 100) 
    (k1 : ¬ (m 74 16) < (n : Int) → κ (some (zi ((-1) - (m 74 17)))) m)
    (k2 : (m 74 16) < (n : Int) → κ (some (zi ((-1) - (m 74 17)))) m) :
    T (D + 5) 212 (40, lo, [zi v], m) κ := by
  have hb2 : 0 ≤ (m 74 16) ∧ (m 74 16) ≤ 100 := hB 74 16
  have he0 : wr (m 74 16) = (m 74 16) := wr_id (by omega) (by omega)
  have he1 : wr (n : Int) = (n : Int) := wr_id (by omega) (by omega)
  have he2 : wr (m 74 17) = (m 74 17) := wr_id (by omega) (by omega)
  have he3 : wr ((-1) - (m 74 17)) = ((-1) - (m 74 17)) := wr_id (by omega) (by omega)
  have key := @zb212_40fr T hT D κ m n v lo hlo
  simp only [he0, he1, he2, he3, Int.toNat_natCast] at key
  exact key
    (fun x0 x1 => k1 x0)
    (fun x0 x1 => by omega)
    (fun x0 x1 x2 => k2 x0)
    (fun x0 x1 x2 => by omega)
    (fun x0 x1 => by omega)
theorem zb212_73r (hT : zRules T) {D : Nat} {κ : Option zA → zM → Prop} {m : zM} {n : Nat} {k : Nat} {lo : zL} (hlo : z_keep [0, 1, 2] lo = [(0, zr 74), (1, zi (n : Int)), (2, zi (k : Int))]) 
    (o1 : ¬ wr (k : Int) < wr (n : Int) → κ (some (zi 0)) (zu m 74 25 (n : Int)))
    (o2 : wr (k : Int) < wr (n : Int) → (0 ≤ wr (k : Int) ∧ wr (k : Int) < 80))
    (o3 : wr (k : Int) < wr (n : Int) → (0 ≤ wr (k : Int) ∧ wr (k : Int) < 40))
    (o4 : wr (k : Int) < wr (n : Int) → ((-128) ≤ wr (m 80 ((wr (k : Int)).toNat)) ∧ wr (m 80 ((wr (k : Int)).toNat)) ≤ 127))
    (o5 : wr (k : Int) < wr (n : Int) → T (D + 5) 212 (73, [(0, zr 74), (1, zi (n : Int)), (2, zi ((k : Int) + 1))], [], (zu m 86 ((wr (k : Int)).toNat) (m 80 ((wr (k : Int)).toNat)))) κ) :
    T (D + 5) 212 (73, lo, [], m) κ :=
  zkeep hT hlo (hT.1 [(73, [0, 1, 2])] 6 (D + 5) 212 _ κ (And.intro (fun a1 => (And.intro trivial (hT.1 [(73, [0, 1, 2])] 6 (D + 5) 212 (101, [(0, zr 74), (1, zi (n : Int)), (2, zi (k : Int))], [], (zu m 74 25 (n : Int))) _ (o1 a1)))) (fun a2 => (hT.1 [(73, [0, 1, 2])] 6 (D + 5) 212 (83, [(0, zr 74), (1, zi (n : Int)), (2, zi (k : Int))], [zi (k : Int), zr 86], m) _ (And.intro (o2 (Classical.byContradiction a2)) (And.intro (And.intro (o3 (Classical.byContradiction a2)) (o4 (Classical.byContradiction a2))) (hT.1 [(73, [0, 1, 2])] 6 (D + 5) 212 (93, [(0, zr 74), (1, zi (n : Int)), (2, zi ((k : Int) + 1))], [], (zu m 86 ((wr (k : Int)).toNat) (m 80 ((wr (k : Int)).toNat)))) _ (o5 (Classical.byContradiction a2)))))))))
theorem zb212_73 (hT : zRules T) {D : Nat} {κ : Option zA → zM → Prop} {m : zM} {n : Nat} {k : Nat} {lo : zL} (hlo : z_keep [0, 1, 2] lo = [(0, zr 74), (1, zi (n : Int)), (2, zi (k : Int))])  (hB : zB m) (h_n : n ≤ 40) (h_k : k ≤ 40) 
    (k1 : ¬ (k : Int) < (n : Int) → zB (zu m 74 25 (n : Int)) → κ (some (zi 0)) (zu m 74 25 (n : Int)))
    (k2 : (k : Int) < (n : Int) → zB (zu m 86 k (m 80 k)) → T (D + 5) 212 (73, [(0, zr 74), (1, zi (n : Int)), (2, zi ((k : Int) + 1))], [], (zu m 86 k (m 80 k))) κ) :
    T (D + 5) 212 (73, lo, [], m) κ := by
  have hb2 : (-128) ≤ (m 80 k) ∧ (m 80 k) ≤ 127 := hB 80 k
  have he0 : wr (k : Int) = (k : Int) := wr_id (by omega) (by omega)
  have he1 : wr (n : Int) = (n : Int) := wr_id (by omega) (by omega)
  have he2 : (k : Int).toNat = k := by omega
  have he3 : wr (m 80 k) = (m 80 k) := wr_id (by omega) (by omega)
  have key := @zb212_73r T hT D κ m n k lo hlo
  simp only [he0, he1, he2, he3, Int.toNat_natCast] at key
  exact key
    (fun x0 => k1 x0 (zB_u hB (show 0 ≤ (n : Int) ∧ (n : Int) ≤ 40 from ⟨by omega, by omega⟩)))
    (fun x0 => by refine ⟨?_, ?_⟩ <;> omega)
    (fun x0 => by refine ⟨?_, ?_⟩ <;> omega)
    (fun x0 => by refine ⟨?_, ?_⟩ <;> omega)
    (fun x0 => k2 x0 (zB_u hB (show (-128) ≤ (m 80 k) ∧ (m 80 k) ≤ 127 from ⟨by omega, by omega⟩)))
end ZBlocks
end
-- 70.rulew.lean.txt
section
/-! rule(). -/
theorem pWL : ∀ c j, pW c j = true → inL [(74, some 16), (74, some 17)] c j = true := by
  intro c j h
  simp only [pW, Bool.and_eq_true, Bool.or_eq_true] at h
  obtain ⟨h1, h2⟩ := h
  have e := Nat.eq_of_beq_eq_true h1
  subst e
  rcases h2 with q | q
  · have := Nat.eq_of_beq_eq_true q
    subst this
    rfl
  · have := Nat.eq_of_beq_eq_true q
    subst this
    rfl
theorem cWL : ∀ c j, cW c j = true → inL [(2, some 3), (9, some 8), (14, none), (15, none), (16, none)] c j = true := by
  intro c j h
  simp only [cW, Bool.and_eq_true, Bool.or_eq_true] at h
  rcases h with ⟨a, b⟩ | a | a | a | ⟨a, b⟩
  · have e1 := Nat.eq_of_beq_eq_true a
    have e2 := Nat.eq_of_beq_eq_true b
    subst e1 e2
    rfl
  · have e1 := Nat.eq_of_beq_eq_true a
    subst e1
    rfl
  · have e1 := Nat.eq_of_beq_eq_true a
    subst e1
    rfl
  · have e1 := Nat.eq_of_beq_eq_true a
    subst e1
    rfl
  · have e1 := Nat.eq_of_beq_eq_true a
    have e2 := Nat.eq_of_beq_eq_true b
    subst e1 e2
    rfl
theorem ruleV_of {M N : zM} {k : Nat} {e : zEnv} (h94 : N 9 4 = ((k + 1 : Nat) : Int)) (hc : ∀ j, j < k + 1 → N 10 j = M 14 j ∧ N 11 j = M 15 j ∧ N 12 j = M 16 j) : ruleV N e = wr (pv (M 14) (M 15) (M 16) e k) := by
  unfold ruleV pv
  rw [if_neg (by omega), h94, Int.toNat_natCast, valsN_congr (k + 1) hc]
  rfl
/-- what a text of L signs is, as a RULE: at fault, none, or what it is worth -/
noncomputable def ruO (s : Nat → Int) (L : Nat) : Nat ⊕ Option (zEnv → Int) := if L = 0 then .inr none else match rp s 164 0 0 0 e0f with
  | .inl x => .inl x
  | .inr q => if q.1 = L then .inr (some q.2) else .inl q.1
theorem ruO_0 {s : Nat → Int} : ruO s 0 = .inr none := rfl
theorem ruO_l {s : Nat → Int} {L x : Nat} (hL : ¬ L = 0) (h : rp s 164 0 0 0 e0f = .inl x) : ruO s L = .inl x := by
  unfold ruO
  rw [if_neg hL, h]
theorem ruO_b {s : Nat → Int} {L b : Nat} {v : zEnv → Int} (hL : ¬ L = 0) (h : rp s 164 0 0 0 e0f = .inr (b, v)) (hb : ¬ b = L) : ruO s L = .inl b := by
  unfold ruO
  rw [if_neg hL, h]
  exact if_neg hb
theorem ruO_r {s : Nat → Int} {L b : Nat} {v : zEnv → Int} (hL : ¬ L = 0) (h : rp s 164 0 0 0 e0f = .inr (b, v)) (hb : b = L) : ruO s L = .inr (some v) := by
  unfold ruO
  rw [if_neg hL, h]
  exact if_pos hb
section ZRuleW
variable {T : Nat → Nat → zG → (Option zA → zM → Prop) → Prop} {B : Int}
theorem z_ruleCopy (hT : zRules T) {D : Nat} {κ : Option zA → zM → Prop} {n : Nat} {M : zM} (hn : n ≤ 40) (hB : zB M)
    (h : ∀ M1, zB M1 → zFr (inL [(74, some 25), (86, none)]) M M1 → M1 74 25 = (n : Int) → (∀ u, u < n → M1 86 u = M 80 u) → κ (some (zi 0)) M1) : T (D + 5) 212 (73, [(0, zr 74), (1, zi (n : Int)), (2, zi 0)], [], M) κ := by
  have key : ∀ (j k : Nat) (N : zM), k + j = n → zB N → zFr (inL [(74, some 25), (86, none)]) M N → (∀ u, u < k → N 86 u = M 80 u) → T (D + 5) 212 (73, [(0, zr 74), (1, zi (n : Int)), (2, zi (k : Int))], [], N) κ := by
    intro j
    induction j with
    | zero =>
      intro k N hk hBN hF g
      refine zb212_73 hT rfl hBN hn (by omega) (fun _ hz => h _ hz (hF.set rfl) (by rw [zu_sm rfl]) (fun u hu => ?_)) (fun q => by omega)
      rw [zu_dn (by omega)]
      exact g u (by omega)
    | succ j ih =>
      intro k N hk hBN hF g
      refine zb212_73 hT rfl hBN hn (by omega) (fun q => by omega) (fun _ hz => ?_)
      refine ih (k + 1) _ (by omega) hz (hF.set rfl) (fun u hu => ?_)
      by_cases e : u = k
      · subst e
        rw [zu_sm rfl, hF 80 _ rfl]
      · rw [zu_off e]
        exact g u (by omega)
  exact key n 0 M (by omega) hB zFr.refl (fun u hu => by omega)
theorem w_rule (hT : zRules T) : Way T 116 212 [(0, zr 1)] [(0, zr 74)] 38 169 B B True := by
  rintro D m sc ⟨n, k, hI⟩ κ hκ
  have hI0 := hI
  obtain ⟨i1, i2, i3, i4, i5, i6, i7, i8, i9, i10, i11⟩ := hI
  have b21 : 0 ≤ m 2 1 ∧ m 2 1 ≤ 80 := i1 2 1
  obtain ⟨L, hL⟩ : ∃ L : Nat, m 2 1 = (L : Int) := ⟨(m 2 1).toNat, by omega⟩
  obtain ⟨Lm, hm1, hm2⟩ : ∃ Lm : Nat, (L ≤ 40 → Lm = L) ∧ (40 < L → Lm = 40) := by
    rcases Nat.lt_or_ge 40 L with q | q
    · exact ⟨40, fun x => by omega, fun _ => rfl⟩
    · exact ⟨L, fun _ => rfl, fun x => by omega⟩
  have hLm : Lm ≤ 40 ∧ Lm ≤ L := by
    rcases Nat.lt_or_ge 40 L with q | q
    · have := hm2 q
      omega
    · have := hm1 q
      omega
  have hs : ∀ a, Lm ≤ a → sgT m 40 a = -1 := fun a ha => by
    unfold sgT
    rw [if_neg (fun x => by
      obtain ⟨x1, x2⟩ := x
      rcases Nat.lt_or_ge 40 L with q | q
      · have := hm2 q
        omega
      · have := hm1 q
        omega)]
  have hok := rp_ok hs 164 0 0 0 e0f (Nat.zero_le Lm) (fun _ => rfl)
  -- the reference behind the class
  have ref : ∀ (r : Option zA) (M1 : zM), zB M1 → zFr (inL [(2, some 1), (2, some 2), (2, some 3), (9, some 4), (9, some 8), (10, none), (11, none), (12, none), (14, none), (15, none), (16, none)]) m M1 → M1 2 1 = 0 →
      (∀ x, ruO (sgT m 40) L = .inl x → r = some (zi (-1 - (x : Int))) ∧ Agree KL m M1) →
      (∀ o, ruO (sgT m 40) L = .inr o → r = some (zi 0) ∧ ((o = none ∧ M1 9 4 = 0) ∨ ∃ (v : zEnv → Int) (q : Nat), o = some v ∧ M1 9 4 = ((q + 1 : Nat) : Int) ∧ WFp (M1 10) (M1 11) (M1 12) (q + 1) ∧ ∀ e, okE e → ruleV M1 e = v e)) → κ r M1 := by
    intro r M1 hB1 hF1 h21 hx hq
    refine hκ _ _ (fun D2 κ2 h2 => ?_)
    have e9 : M1 74 9 = (L : Int) := by rw [hF1 74 9 rfl, i2.1, hL]
    -- what is at fault
    have bad : ∀ (x : Nat) (M2 : zM), ruO (sgT m 40) L = .inl x → zB M2 → M2 74 9 = 0 → zFr (inL [(74, some 9), (74, some 12), (74, some 13), (74, some 14), (74, some 15), (74, some 16), (74, some 17), (74, some 26)]) M1 M2 → κ2 (some (zi (-1 - (x : Int)))) M2 := by
      intro x M2 hal hB2 h9 hF2
      obtain ⟨hr, hAL⟩ := hx x hal
      have hF : zFr (inL [(2, some 1), (2, some 2), (2, some 3), (9, some 4), (9, some 8), (10, none), (11, none), (12, none), (14, none), (15, none), (16, none), (74, some 9), (74, some 12), (74, some 13), (74, some 14), (74, some 15), (74, some 16), (74, some 17), (74, some 26)]) m M2 := (hF1.sub (inL_sub (by decide))).trans (hF2.sub (inL_sub (by decide)))
      have hAL2 : Agree KL m M2 := hAL.trans (.of hF2 rfl)
      refine h2 _ _ (fun _ => hr) ⟨n, k, hB2, ⟨?_, fun j hj => ?_⟩, hAL2.law.1 i3, House_fr (.of hF rfl) i4, Term_fr (.of hF rfl) i5, Undo_fr (.of hF rfl) i6, Kept_fr (.of hF rfl) i7, Seen_fr (.of hF rfl) i8, Job_fr (.of hF rfl) i9, Now_fr (.of hF rfl) i10, Scr_fr (.of hF rfl) i11⟩
      · rw [h9, hF2 2 1 rfl, h21]
      · rw [hF2 2 1 rfl, h21] at hj
        omega
    -- what is fine
    have good : ∀ (o : Option (zEnv → Int)) (M2 M3 : zM), ruO (sgT m 40) L = .inr o → (∀ v, o = some v → ¬ L = 0 ∧ rp (sgT m 40) 164 0 0 0 e0f = .inr (L, v)) → (o = none → L = 0) → L ≤ 40 → zB M3 → M3 74 9 = 0 → zFr (inL [(74, some 9), (74, some 12), (74, some 13), (74, some 14), (74, some 15), (74, some 16), (74, some 17), (74, some 26)]) M1 M2 → zFr (inL [(74, some 25), (86, none)]) M2 M3 → M3 74 25 = (L : Int) → (∀ u, u < L → M3 86 u = M2 80 u) → κ2 (some (zi 0)) M3 := by
      intro o M2 M3 hal ho ho0 hL40 hB3 h9 hF2 hF3 h25 h86
      obtain ⟨hr, hcl⟩ := hq o hal
      have hF : zFr (inL [(2, some 1), (2, some 2), (2, some 3), (9, some 4), (9, some 8), (10, none), (11, none), (12, none), (14, none), (15, none), (16, none), (74, some 9), (74, some 12), (74, some 13), (74, some 14), (74, some 15), (74, some 16), (74, some 17), (74, some 25), (74, some 26), (86, none)]) m M3 := ((hF1.sub (inL_sub (by decide))).trans (hF2.sub (inL_sub (by decide)))).trans (hF3.sub (inL_sub (by decide)))
      have hA3 : Agree [(9, some 4), (10, none), (11, none), (12, none)] M1 M3 := (Agree.of hF2 rfl).trans (.of hF3 rfl)
      have c10 : M3 10 = M1 10 := funext fun j => hA3 10 j rfl
      have c11 : M3 11 = M1 11 := funext fun j => hA3 11 j rfl
      have c12 : M3 12 = M1 12 := funext fun j => hA3 12 j rfl
      have c94 : M3 9 4 = M1 9 4 := hA3 9 4 rfl
      have hAl : Agree [(4, some 4), (5, none), (6, none), (74, some 1), (76, none), (77, none)] m M3 := .of hF rfl
      have a44 : M3 4 4 = m 4 4 := hAl 4 4 rfl
      have a5 : M3 5 = m 5 := funext fun j => hAl 5 j rfl
      have a6 : M3 6 = m 6 := funext fun j => hAl 6 j rfl
      have a741 : M3 74 1 = m 74 1 := hAl 74 1 rfl
      have a76 : M3 76 = m 76 := funext fun j => hAl 76 j rfl
      have a77 : M3 77 = m 77 := funext fun j => hAl 77 j rfl
      have hAlm : AlmRel M3 := by
        unfold AlmRel
        rw [a44, a5, a6, a741, a76, a77]
        exact i3.2.1
      have hW1 : ∀ p : Nat, (p : Int) < M3 4 4 → 1 ≤ M3 6 p := by
        rw [a44, a6]
        exact i3.1.1
      have hsQ : sQ M3 = sgT m 40 := by
        funext a
        unfold sQ sgT
        rw [h25, hL]
        by_cases q : a < L
        · rw [if_pos (by omega), if_pos ⟨by omega, by omega⟩, h86 a q, hF2 80 a rfl, hF1 80 a rfl, z_and255, i2.2 a (by omega)]
        · rw [if_neg (by omega), if_neg (fun x => by omega)]
      have hlaw : LawRel M3 := by
        rcases hcl with ⟨rfl, e94⟩ | ⟨v, q, rfl, e94, hW, hv⟩
        · refine ⟨⟨hW1, ?_⟩, hAlm, Or.inl ⟨by rw [c94, e94]; omega, by rw [h25, ho0 rfl]; rfl⟩⟩
          rw [c94, e94]
          intro k hk
          exact absurd hk (Nat.not_lt_zero k)
        · obtain ⟨hL0, hrp⟩ := ho v rfl
          refine ⟨⟨hW1, ?_⟩, hAlm, Or.inr ⟨by rw [c94, e94]; omega, by rw [h25]; omega, v, ?_, fun e he => ?_⟩⟩
          · rw [c94, e94, Int.toNat_natCast, c10, c11, c12]
            exact hW
          · rw [hsQ, h25, Int.toNat_natCast]
            exact hrp
          · rw [← hv e he]
            unfold ruleV
            rw [c94, c10, c11, c12]
      refine h2 _ _ (fun _ => hr) ⟨n, k, hB3, ⟨?_, fun j hj => ?_⟩, hlaw, House_fr (.of hF rfl) i4, Term_fr (.of hF rfl) i5, Undo_fr (.of hF rfl) i6, Kept_fr (.of hF rfl) i7, Seen_fr (.of hF rfl) i8, Job_fr (.of hF rfl) i9, Now_fr (.of hF rfl) i10, Scr_fr (.of hF rfl) i11⟩
      · rw [h9, hF3 2 1 rfl, hF2 2 1 rfl, h21]
      · rw [hF3 2 1 rfl, hF2 2 1 rfl, h21] at hj
        omega
    refine zb212_0 (D := D2 + 164) hT hB1 (fun q hz => ?_) (fun q hz => ?_)
    · rw [e9] at hz ⊢
      have eL : L = 0 := by omega
      subst eL
      refine z_ruleCopy (n := 0) (D := D2 + 164) hT (by omega) hz (fun M3 hB3 hF3 h25 h86 => ?_)
      refine good none _ M3 ruO_0 (fun v hv => by cases hv) (fun _ => rfl) (by omega) hB3 ?_ (((((((zFr.refl.set rfl).set rfl).set rfl).set rfl).set rfl).set rfl).set rfl |>.set rfl) hF3 h25 h86
      rw [hF3 74 9 rfl]
      simp (disch := omega) only [zu_off, zu_sm]
    · rw [e9] at hz ⊢
      have hL0 : ¬ L = 0 := by omega
      generalize hN : (zu (zu (zu (zu (zu (zu (zu (zu M1 74 12 0) 74 13 80) 74 14 (L : Int)) 74 15 40) 74 16 0) 74 17 (-1)) 74 9 0) 74 26 0) = N at hz ⊢
      have f13 : N 74 13 = 80 := by rw [← hN]; simp (disch := omega) only [zu_off, zu_sm]
      have f14 : N 74 14 = m 2 1 := by rw [← hN, hL]; simp (disch := omega) only [zu_off, zu_sm]
      have f15 : N 74 15 = 40 := by rw [← hN]; simp (disch := omega) only [zu_off, zu_sm]
      have f16 : N 74 16 = 0 := by rw [← hN]; simp (disch := omega) only [zu_off, zu_sm]
      have f17 : N 74 17 = -1 := by rw [← hN]; simp (disch := omega) only [zu_off, zu_sm]
      have f9 : N 74 9 = 0 := by rw [← hN]; simp (disch := omega) only [zu_off, zu_sm]
      have f26 : N 74 26 = 0 := by rw [← hN]; simp (disch := omega) only [zu_sm]
      have hFN : zFr (inL [(74, some 9), (74, some 12), (74, some 13), (74, some 14), (74, some 15), (74, some 16), (74, some 17), (74, some 26)]) M1 N := by
        rw [← hN]
        exact (((((((zFr.refl.set rfl).set rfl).set rfl).set rfl).set rfl).set rfl).set rfl).set rfl
      have e80 : ∀ j, N 80 j = m 80 j := fun j => (hFN 80 j rfl).trans (hF1 80 j rfl)
      have hsR := sT_R i2 e80 f14 f15
      have key := (rr_all_80 (m := N) (s := sgT m 40) (L := Lm) hT f13 hsR.symm (by omega) (by omega) hs (Or.inl f26) 164).1
      refine key D2 0 0 N _ (by omega) hz zFr.refl f16 f17 (by omega) (by omega) ?_
      revert hok
      cases hr : rp (sgT m 40) 164 0 0 0 e0f with
      | inl x =>
        intro hok v M2 hv hB2 hF2 h17
        have hx2 := hok.2
        have hF3 := hFN.trans ((hF2.sub pWL).sub (inL_sub (L := [(74, some 16), (74, some 17)]) (K := [(74, some 9), (74, some 12), (74, some 13), (74, some 14), (74, some 15), (74, some 16), (74, some 17), (74, some 26)]) (by decide)))
        have fin : κ2 (some (zi (-1 - M2 74 17))) M2 := by
          rw [h17]
          exact bad x M2 (ruO_l hL0 hr) hB2 (by rw [hF2 74 9 rfl, f9]) hF3
        exact zb212_40f (n := L) (v := v) (D := D2 + 164) hT rfl hB2 (by omega) (by omega) (fun _ => fin) (fun _ => fin)
      | inr y =>
        obtain ⟨b, w⟩ := y
        intro hok M2 hB2 hF2 h16 h17
        obtain ⟨⟨o1, o2, o3⟩, o4⟩ := hok
        dsimp only at o1 o2 o3 h16
        have hF3 := hFN.trans ((hF2.sub pWL).sub (inL_sub (L := [(74, some 16), (74, some 17)]) (K := [(74, some 9), (74, some 12), (74, some 13), (74, some 14), (74, some 15), (74, some 16), (74, some 17), (74, some 26)]) (by decide)))
        refine zb212_40 (n := L) (v := w (envR N)) (D := D2 + 164) hT rfl hB2 (by omega) (by omega) (by omega) (fun q => ?_) (fun q hz2 => ?_)
        · have eb : b = L := by omega
          refine z_ruleCopy (n := L) (D := D2 + 164) hT (by omega) hB2 (fun M3 hB3 hF4 h25 h86 => ?_)
          refine good (some w) M2 M3 (ruO_r hL0 hr eb) (fun v hv => ?_) (fun x => by cases x) (by omega) hB3 ?_ hF3 hF4 h25 h86
          · cases hv
            rw [eb] at hr
            exact ⟨hL0, hr⟩
          · rw [hF4 74 9 rfl, hF2 74 9 rfl, f9]
        · rw [h16]
          refine bad b _ (ruO_b hL0 hr (by omega)) (by rw [← h16]; exact hz2) ?_ (hF3.set rfl)
          rw [zu_off (by omega), hF2 74 9 rfl, f9]
  -- the class
  have cls : ∀ top : Int, top = (if m 2 1 < 40 then m 2 1 else 40) → zB (zu (zu m 2 3 0) 2 2 top) → T (D + 37) 50 (0, [(0, zr 9), (1, zr 2)], [], zu (zu m 2 3 0) 2 2 top) (fun r m1 => T (D + 38) 116 (21, [(0, zr 1)], r.toList ++ [zr 1], m1) κ) := by
    intro top htop hz
    generalize hN : zu (zu m 2 3 0) 2 2 top = N at hz ⊢
    have f21 : N 2 1 = (L : Int) := by rw [← hN]; simp (disch := omega) only [zu_off]; exact hL
    have f22 : N 2 2 = top := by rw [← hN]; simp (disch := omega) only [zu_sm]
    have f23 : N 2 3 = 0 := by rw [← hN]; simp (disch := omega) only [zu_off, zu_sm]
    have hFN : zFr (inL [(2, some 2), (2, some 3)]) m N := by
      rw [← hN]
      exact (zFr.refl.set rfl).set rfl
    refine zb50_0 (D := D + 24) hT hz (fun q hz1 => ?_) (fun q hz1 => ?_)
    · have hL0 : ¬ L = 0 := by omega
      have hs1 : sgC (zu N 9 8 0) = sgT m 40 := sT_C (fun j => by rw [zu_dn (by omega)]; exact hFN 3 j rfl) (by rw [zu_dn (by omega), f22, htop])
      have key := (cr_all (m := zu N 9 8 0) (s := sgT m 40) (L := Lm) hT hs1.symm (by omega) hs 164).1
      refine key D 0 4 0 0 (zu N 9 8 0) _ (by omega) hz1 zFr.refl (by rw [zu_dn (by omega), f23]; rfl) ⟨by rw [zu_sm rfl]; rfl, fun k hk => absurd hk (Nat.not_lt_zero k)⟩ (by omega) (by omega) (by omega) ?_
      have hF0 : zFr (inL [(2, some 2), (2, some 3), (9, some 8)]) m (zu N 9 8 0) := (hFN.sub (inL_sub (by decide))).set rfl
      revert hok
      cases hr : rp (sgT m 40) 164 0 0 0 e0f with
      | inl x =>
        intro hok M1 hB1 hF1 h23
        have hx2 := hok.2
        have hF2 : zFr (inL [(2, some 1), (2, some 2), (2, some 3), (9, some 8), (14, none), (15, none), (16, none)]) m (zu M1 2 1 0) := ((hF0.sub (inL_sub (by decide))).trans ((hF1.sub cWL).sub (inL_sub (by decide)))).set rfl
        refine zb50_18 (v := -1) (D := D + 24) hT rfl hB1 (by omega) (hB1 9 8) (by omega) (fun _ => ?_) (fun q => absurd rfl q) (fun q => absurd rfl q)
        refine zb116_21 (v := -1) (D := D + 24) hT rfl hB1 (by omega) (fun q => by omega) (fun _ hz2 => ?_)
        rw [h23]
        refine ref _ _ hz2 (hF2.sub (inL_sub (by decide))) (by rw [zu_sm rfl]) (fun y hy => ?_) (fun y hy => ?_)
        · rw [ruO_l hL0 hr] at hy
          cases hy
          exact ⟨rfl, .of hF2 rfl⟩
        · rw [ruO_l hL0 hr] at hy
          cases hy
      | inr y =>
        obtain ⟨b, w⟩ := y
        intro hok j n1 M1 hB1 hF1 h23 hD1 hn1 hs2 hj hnb hw
        obtain ⟨⟨o1, o2, o3⟩, o4⟩ := hok
        dsimp only at o1 o2 o3 o4 h23 hnb hw
        have e98 := hD1.1
        have c21 : M1 2 1 = (L : Int) := by rw [hF1 2 1 rfl, zu_dn (by omega), f21]
        have hF2 : zFr (inL [(2, some 1), (2, some 2), (2, some 3), (9, some 8), (14, none), (15, none), (16, none)]) m M1 := (hF0.sub (inL_sub (by decide))).trans ((hF1.sub cWL).sub (inL_sub (by decide)))
        have hb : b ≤ 40 := by omega
        refine zb50_18 (v := (j : Int)) (D := D + 24) hT rfl hB1 (by omega) (hB1 9 8) (by omega) (fun q => by omega) (fun _ q2 => ?_) (fun _ q2 => ?_)
        · refine zb116_21 (v := -1) (D := D + 24) hT rfl hB1 (by omega) (fun q => by omega) (fun _ hz2 => ?_)
          rw [h23]
          refine ref _ _ hz2 ((hF2.set rfl).sub (inL_sub (by decide))) (by rw [zu_sm rfl]) (fun y hy => ?_) (fun y hy => ?_)
          · rw [ruO_b hL0 hr (by omega)] at hy
            cases hy
            exact ⟨rfl, .of (hF2.set rfl) rfl⟩
          · rw [ruO_b hL0 hr (by omega)] at hy
            cases hy
        · have eb : b = L := by omega
          have hz2 : zB (zu (z_cp (z_cp (z_cp M1 14 10 0 0 ((M1 9 8).toNat)) 15 11 0 0 ((M1 9 8).toNat)) 16 12 0 0 ((M1 9 8).toNat)) 9 4 (M1 9 8)) := by
            refine zB_u (zB_cp (zB_cp (zB_cp hB1 (fun j _ _ => ?_)) (fun j _ _ => ?_)) (fun j _ _ => ?_)) (show 0 ≤ M1 9 8 ∧ M1 9 8 ≤ 40 from hB1 9 8)
            · exact hB1 14 _
            · rw [z_cp_dn (by omega)]
              exact hB1 15 _
            · rw [z_cp_dn (by omega), z_cp_dn (by omega)]
              exact hB1 16 _
          refine zb116_21 (v := 0) (D := D + 24) hT rfl hz2 (by omega) (fun _ hz3 => ?_) (fun q => by omega)
          have en : (M1 9 8).toNat = n1 := by omega
          rw [en, e98] at hz3 ⊢
          have hF4 : zFr (inL [(2, some 1), (2, some 2), (2, some 3), (9, some 4), (9, some 8), (10, none), (11, none), (12, none), (14, none), (15, none), (16, none)]) m (zu (zu (z_cp (z_cp (z_cp M1 14 10 0 0 n1) 15 11 0 0 n1) 16 12 0 0 n1) 9 4 (n1 : Int)) 2 1 0) := (((((hF2.sub (inL_sub (by decide))).cp (fun _ => rfl)).cp (fun _ => rfl)).cp (fun _ => rfl)).set rfl).set rfl
          refine ref _ _ hz3 hF4 (by rw [zu_sm rfl]) (fun y hy => ?_) (fun y hy => ?_)
          · rw [ruO_r hL0 hr eb] at hy
            cases hy
          · rw [ruO_r hL0 hr eb] at hy
            cases hy
            generalize hQ : (zu (zu (z_cp (z_cp (z_cp M1 14 10 0 0 n1) 15 11 0 0 n1) 16 12 0 0 n1) 9 4 (n1 : Int)) 2 1 0) = Q at hz3 hF4 ⊢
            have q94 : Q 9 4 = ((j + 1 : Nat) : Int) := by
              rw [← hQ, zu_dn (by omega), zu_sm rfl]
              omega
            have qc : ∀ t, t < j + 1 → Q 10 t = M1 14 t ∧ Q 11 t = M1 15 t ∧ Q 12 t = M1 16 t := fun t ht => by
              rw [← hQ]
              refine ⟨?_, ?_, ?_⟩
              · rw [zu_dn (by omega), zu_dn (by omega), z_cp_dn (by omega), z_cp_dn (by omega), z_cp_in (by omega), Nat.zero_add, Nat.sub_zero]
              · rw [zu_dn (by omega), zu_dn (by omega), z_cp_dn (by omega), z_cp_in (by omega), z_cp_dn (by omega), Nat.zero_add, Nat.sub_zero]
              · rw [zu_dn (by omega), zu_dn (by omega), z_cp_in (by omega), z_cp_dn (by omega), z_cp_dn (by omega), Nat.zero_add, Nat.sub_zero]
            refine ⟨rfl, Or.inr ⟨w, j, rfl, q94, fun x hx ho => ?_, fun e he => ?_⟩⟩
            · obtain ⟨t1, t2, t3⟩ := qc x hx
              rw [t1] at ho
              rw [t2, t3]
              exact hD1.2 x (by omega) ho
            · rw [ruleV_of q94 qc, hw e he, o4 e]
    · have hL0 : L = 0 := by omega
      refine zb116_21 (v := 0) (D := D + 24) hT rfl hz1 (by omega) (fun _ hz2 => ?_) (fun q => by omega)
      have hF2 : zFr (inL [(2, some 1), (2, some 2), (2, some 3), (9, some 4), (9, some 8), (10, none), (11, none), (12, none), (14, none), (15, none), (16, none)]) m (zu (zu (z_cp (z_cp (z_cp (zu N 9 8 0) 14 10 0 0 0) 15 11 0 0 0) 16 12 0 0 0) 9 4 0) 2 1 0) := ((((((((hFN.sub (inL_sub (by decide))).set rfl)).cp (fun _ => rfl)).cp (fun _ => rfl)).cp (fun _ => rfl)).set rfl)).set rfl
      refine ref _ _ hz2 hF2 (by rw [zu_sm rfl]) (fun y hy => ?_) (fun y hy => ?_)
      · rw [hL0, ruO_0] at hy
        cases hy
      · rw [hL0, ruO_0] at hy
        cases hy
        refine ⟨rfl, Or.inl ⟨rfl, ?_⟩⟩
        rw [zu_dn (by omega), zu_sm rfl]
  exact zb116_0 (D := D + 24) hT i1 (fun q hz => cls 40 (by rw [if_neg (by omega)]) hz) (fun q hz => cls (m 2 1) (by split <;> omega) hz)
end ZRuleW
end
