section ZBlocks
variable {T : Nat → Nat → zG → (Option zA → zM → Prop) → Prop}
theorem zb3_0r (hT : zRules T) {D : Nat} {κ : Option zA → zM → Prop} {m : zM} {f : Nat} 
    (o1 : T (D + 3) 3 (2, [(0, zr 4), (1, zr 2), (2, zi (f : Int)), (3, zi 0)], [], m) κ) :
    T (D + 3) 3 (0, [(0, zr 4), (1, zr 2), (2, zi (f : Int))], [], m) κ :=
  hT.1 [(2, [0, 1, 2, 3])] 6 (D + 3) 3 _ κ (o1)
theorem zb3_0 (hT : zRules T) {D : Nat} {κ : Option zA → zM → Prop} {m : zM} {f : Nat}  (h_f : f ≤ 78) 
    (k1 : T (D + 3) 3 (2, [(0, zr 4), (1, zr 2), (2, zi (f : Int)), (3, zi 0)], [], m) κ) :
    T (D + 3) 3 (0, [(0, zr 4), (1, zr 2), (2, zi (f : Int))], [], m) κ := by
  exact zb3_0r hT
    k1
theorem zb3_2r (hT : zRules T) {D : Nat} {κ : Option zA → zM → Prop} {m : zM} {f : Nat} {k : Nat} {lo : zL} (hlo : z_keep [0, 1, 2, 3] lo = [(0, zr 4), (1, zr 2), (2, zi (f : Int)), (3, zi (k : Int))]) 
    (o1 : ¬ wr (k : Int) < 26 → κ (some (zi 26)) m)
    (o2 : wr (k : Int) < 26 → ∀ j, zbd 3 j (m 3 j))
    (o3 : wr (k : Int) < 26 → (0 ≤ (m 2 3) ∧ (m 2 3) ≤ 1000))
    (o4 : wr (k : Int) < 26 → (0 ≤ (m 2 2) ∧ (m 2 2) ≤ 80))
    (o5 : wr (k : Int) < 26 → wr (nxC m) < 48 → κ (some (zi (wr (k : Int)))) m)
    (o6 : wr (k : Int) < 26 → ¬ wr (nxC m) < 48 → ¬ 57 < wr (nxC m) → ¬ wr (wr ((nxC m) - 48)) = (-1) → (0 ≤ wr ((f : Int) + (k : Int)) ∧ wr ((f : Int) + (k : Int)) < 104))
    (o7 : wr (k : Int) < 26 → ¬ wr (nxC m) < 48 → ¬ 57 < wr (nxC m) → ¬ wr (wr ((nxC m) - 48)) = (-1) → T (D + 3) 3 (2, [(0, zr 4), (1, zr 2), (2, zi (f : Int)), (3, zi ((k : Int) + 1))], [], (zu (zu m 2 3 ((m 2 3) + 1)) 7 ((wr ((f : Int) + (k : Int))).toNat) (wr ((nxC m) - 48)))) κ)
    (o8 : wr (k : Int) < 26 → ¬ wr (nxC m) < 48 → ¬ 57 < wr (nxC m) → wr (wr ((nxC m) - 48)) = (-1) → False)
    (o9 : wr (k : Int) < 26 → ¬ wr (nxC m) < 48 → 57 < wr (nxC m) → κ (some (zi (wr (k : Int)))) m) :
    T (D + 3) 3 (2, lo, [], m) κ :=
  zkeep hT hlo (hT.1 [(2, [0, 1, 2, 3])] 6 (D + 3) 3 _ κ (And.intro (fun a1 => (o1 a1)) (fun a2 => (hT.1 [(2, [0, 1, 2, 3])] 6 (D + 3) 3 (12, [(0, zr 4), (1, zr 2), (2, zi (f : Int)), (3, zi (k : Int))], [zi 9, zi 0, zr 2], m) _ (hT.1 [] 6 (D + 2) 71 _ _ (z_next hT (o2 (Classical.byContradiction a2)) (o3 (Classical.byContradiction a2)) (o4 (Classical.byContradiction a2)) (hT.1 [] 6 (D + 2) 71 _ _ (And.intro (fun a3 => (hT.1 [] 6 (D + 2) 71 (21, [(0, zr 2), (1, zi 0), (2, zi 9), (3, zi (nxC m))], [], m) _ (hT.1 [(2, [0, 1, 2, 3])] 6 (D + 3) 3 _ _ (And.intro (fun a5 => (z_litF a5 rfl).elim) (fun _ => (o5 (Classical.byContradiction a2) a3)))))) (fun a4 => (hT.1 [] 6 (D + 2) 71 (13, [(0, zr 2), (1, zi 0), (2, zi 9), (3, zi (nxC m))], [], m) _ (And.intro (fun a6 => (hT.1 [] 6 (D + 2) 71 (24, [(0, zr 2), (1, zi 0), (2, zi 9), (3, zi (nxC m))], [zr 2], m) _ (And.intro trivial (hT.1 [] 6 (D + 2) 71 (34, [(0, zr 2), (1, zi 0), (2, zi 9), (3, zi (nxC m))], [zi (nxC m)], (zu m 2 3 ((m 2 3) + 1))) _ (hT.1 [(2, [0, 1, 2, 3])] 6 (D + 3) 3 _ _ (And.intro (fun a8 => (hT.1 [(2, [0, 1, 2, 3])] 6 (D + 3) 3 (29, [(0, zr 4), (1, zr 2), (2, zi (f : Int)), (3, zi (k : Int)), (4, zi (wr ((nxC m) - 48)))], [zr 7], (zu m 2 3 ((m 2 3) + 1))) _ (And.intro (And.intro (o6 (Classical.byContradiction a2) a4 a6 a8) trivial) (hT.1 [(2, [0, 1, 2, 3])] 6 (D + 3) 3 (38, [(0, zr 4), (1, zr 2), (2, zi (f : Int)), (3, zi ((k : Int) + 1)), (4, zi (wr ((nxC m) - 48)))], [], (zu (zu m 2 3 ((m 2 3) + 1)) 7 ((wr ((f : Int) + (k : Int))).toNat) (wr ((nxC m) - 48)))) _ (o7 (Classical.byContradiction a2) a4 a6 a8))))) (fun a9 => (o8 (Classical.byContradiction a2) a4 a6 (Classical.byContradiction a9)).elim))))))) (fun a7 => (hT.1 [] 6 (D + 2) 71 (22, [(0, zr 2), (1, zi 0), (2, zi 9), (3, zi (nxC m))], [zi (-1)], m) _ (hT.1 [(2, [0, 1, 2, 3])] 6 (D + 3) 3 _ _ (And.intro (fun a10 => (z_litF a10 rfl).elim) (fun _ => (o9 (Classical.byContradiction a2) a4 (Classical.byContradiction a7))))))))))))))))))
theorem zb3_2 (hT : zRules T) {D : Nat} {κ : Option zA → zM → Prop} {m : zM} {f : Nat} {k : Nat} {lo : zL} (hlo : z_keep [0, 1, 2, 3] lo = [(0, zr 4), (1, zr 2), (2, zi (f : Int)), (3, zi (k : Int))])  (hB : zB m) (h_f : f ≤ 78) (h_k : k ≤ 26) (hf0 : 0 ≤ m 2 3 ∧ m 2 3 ≤ 80) 
    (k1 : ¬ (k : Int) < 26 → κ (some (zi 26)) m)
    (k2 : (k : Int) < 26 → (nxC m) < 48 → κ (some (zi (k : Int))) m)
    (k3 : (k : Int) < 26 → ¬ (nxC m) < 48 → ¬ 57 < (nxC m) → zB (zu (zu m 2 3 ((m 2 3) + 1)) 7 (f + k) ((nxC m) - 48)) → T (D + 3) 3 (2, [(0, zr 4), (1, zr 2), (2, zi (f : Int)), (3, zi ((k : Int) + 1))], [], (zu (zu m 2 3 ((m 2 3) + 1)) 7 (f + k) ((nxC m) - 48))) κ)
    (k4 : (k : Int) < 26 → ¬ (nxC m) < 48 → 57 < (nxC m) → κ (some (zi (k : Int))) m) :
    T (D + 3) 3 (2, lo, [], m) κ := by
  have hb3 : 0 ≤ (m 2 2) ∧ (m 2 2) ≤ 80 := hB 2 2
  have hb4 : (-1) ≤ (nxC m) ∧ (nxC m) ≤ 65535 := nxCBo m (fun j => hB 3 j)
  have he0 : wr (k : Int) = (k : Int) := wr_id (by omega) (by omega)
  have he1 : wr (nxC m) = (nxC m) := wr_id (by omega) (by omega)
  have he2 : wr ((nxC m) - 48) = ((nxC m) - 48) := wr_id (by omega) (by omega)
  have he3 : wr ((f : Int) + (k : Int)) = ((f : Int) + (k : Int)) := wr_id (by omega) (by omega)
  have he4 : ((f : Int) + (k : Int)).toNat = f + k := by omega
  have key := @zb3_2r T hT D κ m f k lo hlo
  simp only [he0, he1, he2, he3, he4, Int.toNat_natCast] at key
  exact key
    k1
    (fun x0 => fun j => hB 3 j)
    (fun x0 => by refine ⟨?_, ?_⟩ <;> omega)
    (fun x0 => by refine ⟨?_, ?_⟩ <;> omega)
    k2
    (fun x0 x1 x2 x3 => by refine ⟨?_, ?_⟩ <;> omega)
    (fun x0 x1 x2 x3 => k3 x0 x1 x2 (zB_u (zB_u hB (show (-1) ≤ ((m 2 3) + 1) ∧ ((m 2 3) + 1) ≤ 100 from ⟨by omega, by omega⟩)) (show 0 ≤ ((nxC m) - 48) ∧ ((nxC m) - 48) ≤ 9 from ⟨by omega, by omega⟩)))
    (fun x0 x1 x2 x3 => by omega)
    k4
theorem zb4_0r (hT : zRules T) {D : Nat} {κ : Option zA → zM → Prop} {m : zM} {n : Nat} 
    (o1 : ((0 : Int) ≤ 0 ∧ (0 : Int) ≤ 0 ∧ (0 : Int) ≤ wr ((n : Int) * 26) ∧ 0 + wr ((n : Int) * 26) ≤ 104 ∧ 0 + wr ((n : Int) * 26) ≤ 104))
    (o2 : ((0 : Int) ≤ 0 ∧ (0 : Int) ≤ 0 ∧ (0 : Int) ≤ wr (n : Int) ∧ 0 + wr (n : Int) ≤ 4 ∧ 0 + wr (n : Int) ≤ 4))
    (o3 : κ (none) (zu (z_cp (z_cp m 7 5 0 0 ((wr ((n : Int) * 26)).toNat)) 8 6 0 0 ((wr (n : Int)).toNat)) 4 4 (n : Int))) :
    T (D + 2) 4 (0, [(0, zr 4), (1, zi (n : Int))], [], m) κ :=
  hT.1 [] 6 (D + 2) 4 _ κ (hT.1 [] 6 (D + 2) 4 (10, [(0, zr 4), (1, zi (n : Int))], [zi 0, zr 5, zi 0, zr 7], m) _ (And.intro (o1) (hT.1 [] 6 (D + 2) 4 (21, [(0, zr 4), (1, zi (n : Int))], [zr 8], (z_cp m 7 5 0 0 ((wr ((n : Int) * 26)).toNat))) _ (And.intro (o2) (hT.1 [] 6 (D + 2) 4 (31, [(0, zr 4), (1, zi (n : Int))], [], (z_cp (z_cp m 7 5 0 0 ((wr ((n : Int) * 26)).toNat)) 8 6 0 0 ((wr (n : Int)).toNat))) _ (And.intro trivial (o3)))))))
theorem zb4_0 (hT : zRules T) {D : Nat} {κ : Option zA → zM → Prop} {m : zM} {n : Nat}  (hB : zB m) (h_n : n ≤ 4) 
    (k1 : κ (none) (zu (z_cp (z_cp m 7 5 0 0 (26 * n)) 8 6 0 0 n) 4 4 (n : Int))) :
    T (D + 2) 4 (0, [(0, zr 4), (1, zi (n : Int))], [], m) κ := by
  have he0 : wr ((n : Int) * 26) = ((n : Int) * 26) := wr_id (by omega) (by omega)
  have he1 : ((n : Int) * 26).toNat = 26 * n := by omega
  have he2 : wr (n : Int) = (n : Int) := wr_id (by omega) (by omega)
  have he3 : (n : Int).toNat = n := by omega
  have key := @zb4_0r T hT D κ m n
  simp only [he0, he1, he2, he3, Int.toNat_natCast] at key
  exact key
    (by refine ⟨?_, ?_, ?_, ?_, ?_⟩ <;> omega)
    (by refine ⟨?_, ?_, ?_, ?_, ?_⟩ <;> omega)
    k1
theorem zb2_0r (hT : zRules T) {D : Nat} {κ : Option zA → zM → Prop} {m : zM} 
    (o1 : T (D + 4) 2 (2, [(0, zr 4), (1, zr 2), (2, zi 0)], [], m) κ) :
    T (D + 4) 2 (0, [(0, zr 4), (1, zr 2)], [], m) κ :=
  hT.1 [(2, [0, 1, 2])] 6 (D + 4) 2 _ κ (o1)
theorem zb2_0 (hT : zRules T) {D : Nat} {κ : Option zA → zM → Prop} {m : zM}  
    (k1 : T (D + 4) 2 (2, [(0, zr 4), (1, zr 2), (2, zi 0)], [], m) κ) :
    T (D + 4) 2 (0, [(0, zr 4), (1, zr 2)], [], m) κ := by
  exact zb2_0r hT
    k1
theorem zb2_2r (hT : zRules T) {D : Nat} {κ : Option zA → zM → Prop} {m : zM} {p : Nat} {lo : zL} (hlo : z_keep [0, 1, 2] lo = [(0, zr 4), (1, zr 2), (2, zi (p : Int))]) 
    (o1 : ¬ wr (p : Int) < 4 → κ (some (zi (-1))) m)
    (o2 : wr (p : Int) < 4 → T (D + 3) 3 (0, [(0, zr 4), (1, zr 2), (2, zi ((p : Int) * 26))], [], m) (fun r m1 => T (D + 4) 2 (21, [(0, zr 4), (1, zr 2), (2, zi (p : Int))], r.toList ++ [zi (p : Int), zr 8], m1) κ)) :
    T (D + 4) 2 (2, lo, [], m) κ :=
  zkeep hT hlo (hT.1 [(2, [0, 1, 2])] 6 (D + 4) 2 _ κ (And.intro (fun a1 => (o1 a1)) (fun a2 => (hT.1 [(2, [0, 1, 2])] 6 (D + 4) 2 (12, [(0, zr 4), (1, zr 2), (2, zi (p : Int))], [zi (p : Int), zr 8], m) _ (o2 (Classical.byContradiction a2))))))
theorem zb2_2 (hT : zRules T) {D : Nat} {κ : Option zA → zM → Prop} {m : zM} {p : Nat} {lo : zL} (hlo : z_keep [0, 1, 2] lo = [(0, zr 4), (1, zr 2), (2, zi (p : Int))])  (hB : zB m) (h_p : p ≤ 4) 
    (k1 : ¬ (p : Int) < 4 → κ (some (zi (-1))) m)
    (k2 : (p : Int) < 4 → T (D + 3) 3 (0, [(0, zr 4), (1, zr 2), (2, zi ((p : Int) * 26))], [], m) (fun r m1 => T (D + 4) 2 (21, [(0, zr 4), (1, zr 2), (2, zi (p : Int))], r.toList ++ [zi (p : Int), zr 8], m1) κ)) :
    T (D + 4) 2 (2, lo, [], m) κ := by
  have he0 : wr (p : Int) = (p : Int) := wr_id (by omega) (by omega)
  have key := @zb2_2r T hT D κ m p lo hlo
  simp only [he0, Int.toNat_natCast] at key
  exact key
    k1
    k2
theorem zb2_21r (hT : zRules T) {D : Nat} {κ : Option zA → zM → Prop} {m : zM} {p : Nat} {v : Nat} {lo : zL} (hlo : z_keep [0, 1, 2] lo = [(0, zr 4), (1, zr 2), (2, zi (p : Int))]) 
    (o1 : (0 ≤ wr (p : Int) ∧ wr (p : Int) < 4))
    (o2 : (0 ≤ wr (p : Int) ∧ wr (p : Int) < 4))
    (o3 : ¬ wr ((zu m 8 ((wr (p : Int)).toNat) (v : Int)) 8 ((wr (p : Int)).toNat)) < 1 → ¬ wr (m 2 3) = wr (m 2 1) → ∀ j, zbd 3 j ((zu m 8 ((wr (p : Int)).toNat) (v : Int)) 3 j))
    (o4 : ¬ wr ((zu m 8 ((wr (p : Int)).toNat) (v : Int)) 8 ((wr (p : Int)).toNat)) < 1 → ¬ wr (m 2 3) = wr (m 2 1) → (0 ≤ (m 2 3) ∧ (m 2 3) ≤ 1000))
    (o5 : ¬ wr ((zu m 8 ((wr (p : Int)).toNat) (v : Int)) 8 ((wr (p : Int)).toNat)) < 1 → ¬ wr (m 2 3) = wr (m 2 1) → (0 ≤ (m 2 2) ∧ (m 2 2) ≤ 80))
    (o6 : ¬ wr ((zu m 8 ((wr (p : Int)).toNat) (v : Int)) 8 ((wr (p : Int)).toNat)) < 1 → ¬ wr (m 2 3) = wr (m 2 1) → wr (nxC (zu m 8 ((wr (p : Int)).toNat) (v : Int))) = 47 → T (D + 4) 2 (2, [(0, zr 4), (1, zr 2), (2, zi ((p : Int) + 1))], [], (zu (zu m 8 ((wr (p : Int)).toNat) (v : Int)) 2 3 ((m 2 3) + 1))) κ)
    (o7 : ¬ wr ((zu m 8 ((wr (p : Int)).toNat) (v : Int)) 8 ((wr (p : Int)).toNat)) < 1 → ¬ wr (m 2 3) = wr (m 2 1) → ¬ wr (nxC (zu m 8 ((wr (p : Int)).toNat) (v : Int))) = 47 → κ (some (zi (-1))) (zu m 8 ((wr (p : Int)).toNat) (v : Int)))
    (o8 : ¬ wr ((zu m 8 ((wr (p : Int)).toNat) (v : Int)) 8 ((wr (p : Int)).toNat)) < 1 → wr (m 2 3) = wr (m 2 1) → ((0 : Int) ≤ 0 ∧ (0 : Int) ≤ 0 ∧ (0 : Int) ≤ wr (((p : Int) + 1) * 26) ∧ 0 + wr (((p : Int) + 1) * 26) ≤ 104 ∧ 0 + wr (((p : Int) + 1) * 26) ≤ 104))
    (o9 : ¬ wr ((zu m 8 ((wr (p : Int)).toNat) (v : Int)) 8 ((wr (p : Int)).toNat)) < 1 → wr (m 2 3) = wr (m 2 1) → ((0 : Int) ≤ 0 ∧ (0 : Int) ≤ 0 ∧ (0 : Int) ≤ wr ((p : Int) + 1) ∧ 0 + wr ((p : Int) + 1) ≤ 4 ∧ 0 + wr ((p : Int) + 1) ≤ 4))
    (o10 : ¬ wr ((zu m 8 ((wr (p : Int)).toNat) (v : Int)) 8 ((wr (p : Int)).toNat)) < 1 → wr (m 2 3) = wr (m 2 1) → κ (some (zi (wr ((p : Int) + 1)))) (zu (z_cp (z_cp (zu m 8 ((wr (p : Int)).toNat) (v : Int)) 7 5 0 0 ((wr (((p : Int) + 1) * 26)).toNat)) 8 6 0 0 ((wr ((p : Int) + 1)).toNat)) 4 4 ((p : Int) + 1)))
    (o11 : wr ((zu m 8 ((wr (p : Int)).toNat) (v : Int)) 8 ((wr (p : Int)).toNat)) < 1 → κ (some (zi (-1))) (zu m 8 ((wr (p : Int)).toNat) (v : Int))) :
    T (D + 4) 2 (21, lo, [zi (v : Int), zi (p : Int), zr 8], m) κ :=
  zkeep hT hlo (hT.1 [(2, [0, 1, 2])] 6 (D + 4) 2 _ κ (And.intro (And.intro (o1) trivial) (And.intro (o2) (hT.1 [(2, [0, 1, 2])] 6 (D + 4) 2 (29, [(0, zr 4), (1, zr 2), (2, zi (p : Int))], [zi 1, zi ((zu m 8 ((wr (p : Int)).toNat) (v : Int)) 8 ((wr (p : Int)).toNat))], (zu m 8 ((wr (p : Int)).toNat) (v : Int))) _ (And.intro (fun a1 => (hT.1 [] 6 (D + 3) 68 _ _ (And.intro (fun a3 => (hT.1 [] 6 (D + 3) 68 (16, [(0, zr 2)], [zi 0], (zu m 8 ((wr (p : Int)).toNat) (v : Int))) _ (And.intro (z_b01L rfl) (hT.1 [(2, [0, 1, 2])] 6 (D + 4) 2 _ _ (And.intro (fun _ => (hT.1 [] 6 (D + 3) 70 _ _ (z_next hT (o3 a1 a3) (o4 a1 a3) (o5 a1 a3) (hT.1 [] 6 (D + 3) 70 _ _ (And.intro (fun a6 => (hT.1 [] 6 (D + 3) 70 (16, [(0, zr 2), (1, zi 47)], [zi 1, zi (m 2 3), zr 2], (zu m 8 ((wr (p : Int)).toNat) (v : Int))) _ (And.intro trivial (And.intro (z_b01L rfl) (hT.1 [(2, [0, 1, 2])] 6 (D + 4) 2 _ _ (And.intro (fun _ => (o6 a1 a3 a6)) (fun a8 => (a8 (z_litT rfl)).elim))))))) (fun a7 => (And.intro (z_b01L rfl) (hT.1 [(2, [0, 1, 2])] 6 (D + 4) 2 _ _ (And.intro (fun a9 => (z_litF a9 rfl).elim) (fun _ => (o7 a1 a3 a7))))))))))) (fun a5 => (a5 (z_litT rfl)).elim)))))) (fun a4 => (hT.1 [] 6 (D + 3) 68 (12, [(0, zr 2)], [zi 1], (zu m 8 ((wr (p : Int)).toNat) (v : Int))) _ (And.intro (z_b01L rfl) (hT.1 [(2, [0, 1, 2])] 6 (D + 4) 2 _ _ (And.intro (fun a10 => (z_litF a10 rfl).elim) (fun _ => (hT.1 [] 6 (D + 3) 4 _ _ (hT.1 [] 6 (D + 3) 4 (10, [(0, zr 4), (1, zi ((p : Int) + 1))], [zi 0, zr 5, zi 0, zr 7], (zu m 8 ((wr (p : Int)).toNat) (v : Int))) _ (And.intro (o8 a1 (Classical.byContradiction a4)) (hT.1 [] 6 (D + 3) 4 (21, [(0, zr 4), (1, zi ((p : Int) + 1))], [zr 8], (z_cp (zu m 8 ((wr (p : Int)).toNat) (v : Int)) 7 5 0 0 ((wr (((p : Int) + 1) * 26)).toNat))) _ (And.intro (o9 a1 (Classical.byContradiction a4)) (hT.1 [] 6 (D + 3) 4 (31, [(0, zr 4), (1, zi ((p : Int) + 1))], [], (z_cp (z_cp (zu m 8 ((wr (p : Int)).toNat) (v : Int)) 7 5 0 0 ((wr (((p : Int) + 1) * 26)).toNat)) 8 6 0 0 ((wr ((p : Int) + 1)).toNat))) _ (And.intro trivial (hT.1 [(2, [0, 1, 2])] 6 (D + 4) 2 _ _ (o10 a1 (Classical.byContradiction a4))))))))))))))))))) (fun a2 => (o11 (Classical.byContradiction a2))))))))
theorem zb2_21 (hT : zRules T) {D : Nat} {κ : Option zA → zM → Prop} {m : zM} {p : Nat} {v : Nat} {lo : zL} (hlo : z_keep [0, 1, 2] lo = [(0, zr 4), (1, zr 2), (2, zi (p : Int))])  (hB : zB m) (h_p : p ≤ 3) (h_v : v ≤ 26) (hf0 : 0 ≤ m 2 3 ∧ m 2 3 ≤ 80) 
    (k1 : ¬ (v : Int) < 1 → ¬ (m 2 3) = (m 2 1) → (nxC (zu m 8 p (v : Int))) = 47 → zB (zu (zu m 8 p (v : Int)) 2 3 ((m 2 3) + 1)) → T (D + 4) 2 (2, [(0, zr 4), (1, zr 2), (2, zi ((p : Int) + 1))], [], (zu (zu m 8 p (v : Int)) 2 3 ((m 2 3) + 1))) κ)
    (k2 : ¬ (v : Int) < 1 → ¬ (m 2 3) = (m 2 1) → ¬ (nxC (zu m 8 p (v : Int))) = 47 → zB (zu m 8 p (v : Int)) → κ (some (zi (-1))) (zu m 8 p (v : Int)))
    (k3 : ¬ (v : Int) < 1 → (m 2 3) = (m 2 1) → κ (some (zi ((p : Int) + 1))) (zu (z_cp (z_cp (zu m 8 p (v : Int)) 7 5 0 0 (26 * p + 26)) 8 6 0 0 (p + 1)) 4 4 ((p : Int) + 1)))
    (k4 : (v : Int) < 1 → zB (zu m 8 p (v : Int)) → κ (some (zi (-1))) (zu m 8 p (v : Int))) :
    T (D + 4) 2 (21, lo, [zi (v : Int), zi (p : Int), zr 8], m) κ := by
  have hb3 : 0 ≤ (m 2 1) ∧ (m 2 1) ≤ 80 := hB 2 1
  have hb4 : 0 ≤ (m 2 2) ∧ (m 2 2) ≤ 80 := hB 2 2
  have hb5 : (-1) ≤ (nxC (zu m 8 p (v : Int))) ∧ (nxC (zu m 8 p (v : Int))) ≤ 65535 := nxCBo (zu m 8 p (v : Int)) (fun j => hB 3 j)
  have he0 : wr (p : Int) = (p : Int) := wr_id (by omega) (by omega)
  have he1 : (p : Int).toNat = p := by omega
  have he2 : ((zu m 8 p (v : Int)) 8 p) = (v : Int) := (zu_sm (by omega))
  have he3 : wr (v : Int) = (v : Int) := wr_id (by omega) (by omega)
  have he4 : wr (m 2 3) = (m 2 3) := wr_id (by omega) (by omega)
  have he5 : wr (m 2 1) = (m 2 1) := wr_id (by omega) (by omega)
  have he6 : wr (((p : Int) + 1) * 26) = (((p : Int) + 1) * 26) := wr_id (by omega) (by omega)
  have he7 : (((p : Int) + 1) * 26).toNat = 26 * p + 26 := by omega
  have he8 : wr ((p : Int) + 1) = ((p : Int) + 1) := wr_id (by omega) (by omega)
  have he9 : ((p : Int) + 1).toNat = p + 1 := by omega
  have he10 : wr (nxC (zu m 8 p (v : Int))) = (nxC (zu m 8 p (v : Int))) := wr_id (by omega) (by omega)
  have key := @zb2_21r T hT D κ m p v lo hlo
  simp only [he0, he1, he2, he3, he4, he5, he6, he7, he8, he9, he10, Int.toNat_natCast] at key
  exact key
    (by refine ⟨?_, ?_⟩ <;> omega)
    (by refine ⟨?_, ?_⟩ <;> omega)
    (fun x0 x1 => fun j => hB 3 j)
    (fun x0 x1 => by refine ⟨?_, ?_⟩ <;> omega)
    (fun x0 x1 => by refine ⟨?_, ?_⟩ <;> omega)
    (fun x0 x1 x2 => k1 x0 x1 x2 (zB_u (zB_u hB (show 0 ≤ (v : Int) ∧ (v : Int) ≤ 26 from ⟨by omega, by omega⟩)) (show (-1) ≤ ((m 2 3) + 1) ∧ ((m 2 3) + 1) ≤ 100 from ⟨by omega, by omega⟩)))
    (fun x0 x1 x2 => k2 x0 x1 x2 (zB_u hB (show 0 ≤ (v : Int) ∧ (v : Int) ≤ 26 from ⟨by omega, by omega⟩)))
    (fun x0 x1 => by refine ⟨?_, ?_, ?_, ?_, ?_⟩ <;> omega)
    (fun x0 x1 => by refine ⟨?_, ?_, ?_, ?_, ?_⟩ <;> omega)
    k3
    (fun x0 => k4 x0 (zB_u hB (show 0 ≤ (v : Int) ∧ (v : Int) ≤ 26 from ⟨by omega, by omega⟩)))
theorem zb114_0r (hT : zRules T) {D : Nat} {κ : Option zA → zM → Prop} {m : zM} 
    (o1 : 80 < wr (m 2 1) → False)
    (o2 : ¬ 80 < wr (m 2 1) → T (D + 4) 2 (0, [(0, zr 4), (1, zr 2)], [], (zu (zu m 2 3 0) 2 2 (wr (m 2 1)))) (fun r m1 => T (D + 5) 114 (21, [(0, zr 1)], r.toList ++ [zr 1], m1) κ)) :
    T (D + 5) 114 (0, [(0, zr 1)], [], m) κ :=
  hT.1 [] 6 (D + 5) 114 _ κ (hT.1 [] 6 (D + 4) 66 _ _ (And.intro trivial (hT.1 [] 6 (D + 4) 66 (10, [(0, zr 2), (1, zi 80)], [zi (m 2 1), zr 2], (zu m 2 3 0)) _ (hT.1 [] 6 (D + 3) 294 _ _ (And.intro (fun a1 => (o1 a1).elim) (fun a2 => (hT.1 [] 6 (D + 4) 66 _ _ (And.intro trivial (hT.1 [] 6 (D + 5) 114 _ _ (o2 a2))))))))))
theorem zb114_0 (hT : zRules T) {D : Nat} {κ : Option zA → zM → Prop} {m : zM}  (hB : zB m) 
    (k1 : zB (zu (zu m 2 3 0) 2 2 (m 2 1)) → T (D + 4) 2 (0, [(0, zr 4), (1, zr 2)], [], (zu (zu m 2 3 0) 2 2 (m 2 1))) (fun r m1 => T (D + 5) 114 (21, [(0, zr 1)], r.toList ++ [zr 1], m1) κ)) :
    T (D + 5) 114 (0, [(0, zr 1)], [], m) κ := by
  have hb0 : 0 ≤ (m 2 1) ∧ (m 2 1) ≤ 80 := hB 2 1
  have he0 : wr (m 2 1) = (m 2 1) := wr_id (by omega) (by omega)
  have key := @zb114_0r T hT D κ m 
  simp only [he0, Int.toNat_natCast] at key
  exact key
    (fun x0 => by omega)
    (fun x0 => k1  (zB_u (zB_u hB (show (-1) ≤ 0 ∧ 0 ≤ 100 from ⟨by omega, by omega⟩)) (show 0 ≤ (m 2 1) ∧ (m 2 1) ≤ 80 from ⟨by omega, by omega⟩)))
theorem zb114_21r (hT : zRules T) {D : Nat} {κ : Option zA → zM → Prop} {m : zM} {v : Int} {lo : zL} (hlo : z_keep [] lo = []) 
    (o1 : ¬ wr v < 0 → κ (some (zi (wr (wr v)))) (zu m 2 1 0))
    (o2 : wr v < 0 → κ (some (zi (wr (wr ((-1) - (m 2 3)))))) (zu m 2 1 0)) :
    T (D + 5) 114 (21, lo, [zi v, zr 1], m) κ :=
  zkeep hT hlo (hT.1 [] 6 (D + 5) 114 _ κ (hT.1 [] 6 (D + 4) 168 _ _ (And.intro (fun a1 => (hT.1 [] 6 (D + 4) 168 (22, [(0, zr 1), (1, zi v), (2, zi v)], [zr 2], m) _ (And.intro trivial (hT.1 [] 6 (D + 5) 114 _ _ (o1 a1))))) (fun a2 => (hT.1 [] 6 (D + 4) 168 (12, [(0, zr 1), (1, zi v)], [zi (m 2 3), zi (-1)], m) _ (hT.1 [] 6 (D + 4) 168 (23, [(0, zr 1), (1, zi v), (2, zi ((-1) - (m 2 3)))], [zi 0, zr 2], m) _ (And.intro trivial (hT.1 [] 6 (D + 5) 114 _ _ (o2 (Classical.byContradiction a2))))))))))
theorem zb114_21 (hT : zRules T) {D : Nat} {κ : Option zA → zM → Prop} {m : zM} {v : Int} {lo : zL} (hlo : z_keep [] lo = [])  (hB : zB m) (h_v : (-1) ≤ v ∧ v ≤ 4) 
    (k1 : ¬ v < 0 → zB (zu m 2 1 0) → κ (some (zi v)) (zu m 2 1 0))
    (k2 : v < 0 → zB (zu m 2 1 0) → κ (some (zi ((-1) - (m 2 3)))) (zu m 2 1 0)) :
    T (D + 5) 114 (21, lo, [zi v, zr 1], m) κ := by
  have hb1 : (-1) ≤ (m 2 3) ∧ (m 2 3) ≤ 100 := hB 2 3
  have he0 : wr v = v := wr_id (by omega) (by omega)
  have he1 : wr ((-1) - (m 2 3)) = ((-1) - (m 2 3)) := wr_id (by omega) (by omega)
  have key := @zb114_21r T hT D κ m v lo hlo
  simp only [he0, he1, Int.toNat_natCast] at key
  exact key
    (fun x0 => k1 x0 (zB_u hB (show 0 ≤ 0 ∧ 0 ≤ 80 from ⟨by omega, by omega⟩)))
    (fun x0 => k2 x0 (zB_u hB (show 0 ≤ 0 ∧ 0 ≤ 80 from ⟨by omega, by omega⟩)))
theorem zb205_0r (hT : zRules T) {D : Nat} {κ : Option zA → zM → Prop} {m : zM} 
    (o1 : T (D + 3) 205 (28, [(0, zr 74), (1, zi 0), (2, zi 1)], [], (zu (zu (zu (zu (zu (zu (zu m 74 12 0) 74 13 80) 74 14 (m 74 9)) 74 15 80) 74 16 0) 74 17 (-1)) 74 9 0)) κ) :
    T (D + 3) 205 (0, [(0, zr 74)], [], m) κ :=
  hT.1 [(28, [0, 1, 2]), (54, [0, 1, 3]), (205, [0, 1, 3]), (225, [0, 1, 3, 4])] 6 (D + 3) 205 _ κ (And.intro trivial (hT.1 [(28, [0, 1, 2]), (54, [0, 1, 3]), (205, [0, 1, 3]), (225, [0, 1, 3, 4])] 6 (D + 3) 205 (10, [(0, zr 74)], [zr 80, zr 74], (zu m 74 12 0)) _ (hT.1 [] 6 (D + 2) 197 _ _ (And.intro trivial (hT.1 [] 6 (D + 2) 197 (10, [(0, zr 74), (1, zr 80), (2, zi (m 74 9)), (3, zi 80)], [], (zu (zu (zu m 74 12 0) 74 13 80) 74 14 (m 74 9))) _ (And.intro trivial (And.intro trivial (hT.1 [] 6 (D + 2) 197 (20, [(0, zr 74), (1, zr 80), (2, zi (m 74 9)), (3, zi 80)], [], (zu (zu (zu (zu (zu m 74 12 0) 74 13 80) 74 14 (m 74 9)) 74 15 80) 74 16 0)) _ (And.intro trivial (hT.1 [(28, [0, 1, 2]), (54, [0, 1, 3]), (205, [0, 1, 3]), (225, [0, 1, 3, 4])] 6 (D + 3) 205 _ _ (And.intro trivial (hT.1 [(28, [0, 1, 2]), (54, [0, 1, 3]), (205, [0, 1, 3]), (225, [0, 1, 3, 4])] 6 (D + 3) 205 (27, [(0, zr 74), (1, zi 0)], [zi 1], (zu (zu (zu (zu (zu (zu (zu m 74 12 0) 74 13 80) 74 14 (m 74 9)) 74 15 80) 74 16 0) 74 17 (-1)) 74 9 0)) _ (o1)))))))))))))
theorem zb205_0 (hT : zRules T) {D : Nat} {κ : Option zA → zM → Prop} {m : zM}  (hB : zB m) 
    (k1 : zB (zu (zu (zu (zu (zu (zu (zu m 74 12 0) 74 13 80) 74 14 (m 74 9)) 74 15 80) 74 16 0) 74 17 (-1)) 74 9 0) → T (D + 3) 205 (28, [(0, zr 74), (1, zi 0), (2, zi 1)], [], (zu (zu (zu (zu (zu (zu (zu m 74 12 0) 74 13 80) 74 14 (m 74 9)) 74 15 80) 74 16 0) 74 17 (-1)) 74 9 0)) κ) :
    T (D + 3) 205 (0, [(0, zr 74)], [], m) κ := by
  have hb0 : 0 ≤ (m 74 9) ∧ (m 74 9) ≤ 80 := hB 74 9
  exact zb205_0r hT
    (k1  (zB_u (zB_u (zB_u (zB_u (zB_u (zB_u (zB_u hB trivial) trivial) (show 0 ≤ (m 74 9) ∧ (m 74 9) ≤ 80 from ⟨by omega, by omega⟩)) (show 0 ≤ 80 ∧ 80 ≤ 80 from ⟨by omega, by omega⟩)) (show 0 ≤ 0 ∧ 0 ≤ 100 from ⟨by omega, by omega⟩)) trivial) (show 0 ≤ 0 ∧ 0 ≤ 80 from ⟨by omega, by omega⟩)))
theorem zb205_28ar (hT : zRules T) {D : Nat} {κ : Option zA → zM → Prop} {m : zM} {n : Nat} {lo : zL} (hlo : z_keep [0, 1, 2] lo = [(0, zr 74), (1, zi (n : Int)), (2, zi 0)]) 
    (o1 : ¬ wr (m 74 16) < wr (m 74 14) → ¬ wr (m 74 17) = (-1) → False)
    (o2 : ¬ wr (m 74 16) < wr (m 74 14) → wr (m 74 17) = (-1) → T (D + 3) 205 (205, [(0, zr 74), (1, zi (n : Int)), (3, zi 0)], [], (zu m 74 1 (n : Int))) κ)
    (o3 : wr (m 74 16) < wr (m 74 14) → ¬ wr (m 74 17) = (-1) → False)
    (o4 : wr (m 74 16) < wr (m 74 14) → wr (m 74 17) = (-1) → ¬ wr (m 74 16) = (-1) → κ (some (zi (wr ((-1) - (m 74 16))))) (zu m 74 17 (m 74 16)))
    (o5 : wr (m 74 16) < wr (m 74 14) → wr (m 74 17) = (-1) → wr (m 74 16) = (-1) → False) :
    T (D + 3) 205 (28, lo, [], m) κ :=
  zkeep hT hlo (hT.1 [(28, [0, 1, 2]), (54, [0, 1, 3]), (205, [0, 1, 3]), (225, [0, 1, 3, 4])] 6 (D + 3) 205 _ κ (And.intro (fun _ => (hT.1 [(28, [0, 1, 2]), (54, [0, 1, 3]), (205, [0, 1, 3]), (225, [0, 1, 3, 4])] 6 (D + 3) 205 (173, [(0, zr 74), (1, zi (n : Int)), (2, zi 0)], [zi (m 74 14), zi (m 74 16)], m) _ (And.intro (fun a2 => (hT.1 [] 6 (D + 2) 199 _ _ (And.intro (fun a4 => (o1 a2 a4).elim) (fun a5 => (hT.1 [] 6 (D + 2) 199 (13, [(0, zr 74)], [zi 1], m) _ (And.intro (z_b01L rfl) (hT.1 [(28, [0, 1, 2]), (54, [0, 1, 3]), (205, [0, 1, 3]), (225, [0, 1, 3, 4])] 6 (D + 3) 205 _ _ (And.intro (fun _ => (And.intro trivial (o2 a2 (Classical.byContradiction a5)))) (fun a6 => (a6 (z_litT rfl)).elim))))))))) (fun a3 => (hT.1 [] 6 (D + 2) 200 _ _ (hT.1 [] 6 (D + 1) 199 _ _ (And.intro (fun a7 => (o3 (Classical.byContradiction a3) a7).elim) (fun a8 => (hT.1 [] 6 (D + 1) 199 (13, [(0, zr 74)], [zi 1], m) _ (And.intro (z_b01L rfl) (hT.1 [] 6 (D + 2) 200 _ _ (And.intro (fun a9 => (z_litF a9 rfl).elim) (fun _ => (And.intro trivial (hT.1 [(28, [0, 1, 2]), (54, [0, 1, 3]), (205, [0, 1, 3]), (225, [0, 1, 3, 4])] 6 (D + 3) 205 _ _ (hT.1 [] 6 (D + 2) 199 _ _ (And.intro (fun a10 => (And.intro (z_b01L rfl) (hT.1 [(28, [0, 1, 2]), (54, [0, 1, 3]), (205, [0, 1, 3]), (225, [0, 1, 3, 4])] 6 (D + 3) 205 _ _ (And.intro (fun a12 => (z_litF a12 rfl).elim) (fun _ => (o4 (Classical.byContradiction a3) (Classical.byContradiction a8) a10)))))) (fun a11 => (o5 (Classical.byContradiction a3) (Classical.byContradiction a8) (Classical.byContradiction a11)).elim)))))))))))))))))) (fun a1 => (a1 (z_litT rfl)).elim)))
theorem zb205_28a (hT : zRules T) {D : Nat} {κ : Option zA → zM → Prop} {m : zM} {n : Nat} {lo : zL} (hlo : z_keep [0, 1, 2] lo = [(0, zr 74), (1, zi (n : Int)), (2, zi 0)])  (hB : zB m) (hrd : m 74 13 = 80) (h_n : n ≤ 4) (hf0 : (-1) ≤ m 74 17 ∧ m 74 17 ≤ (-1)) (hf1 : 0 ≤ m 74 16 ∧ m 74 16 ≤ 80) 
    (k1 : ¬ (m 74 16) < (m 74 14) → zB (zu m 74 1 (n : Int)) → T (D + 3) 205 (205, [(0, zr 74), (1, zi (n : Int)), (3, zi 0)], [], (zu m 74 1 (n : Int))) κ)
    (k2 : (m 74 16) < (m 74 14) → zB (zu m 74 17 (m 74 16)) → κ (some (zi ((-1) - (m 74 16)))) (zu m 74 17 (m 74 16))) :
    T (D + 3) 205 (28, lo, [], m) κ := by
  have hb3 : 0 ≤ (m 74 14) ∧ (m 74 14) ≤ 80 := hB 74 14
  have he0 : wr (m 74 16) = (m 74 16) := wr_id (by omega) (by omega)
  have he1 : wr (m 74 14) = (m 74 14) := wr_id (by omega) (by omega)
  have he2 : wr (m 74 17) = (m 74 17) := wr_id (by omega) (by omega)
  have he3 : wr ((-1) - (m 74 16)) = ((-1) - (m 74 16)) := wr_id (by omega) (by omega)
  have key := @zb205_28ar T hT D κ m n lo hlo
  simp only [he0, he1, he2, he3, Int.toNat_natCast] at key
  exact key
    (fun x0 x1 => by omega)
    (fun x0 x1 => k1 x0 (zB_u hB (show 0 ≤ (n : Int) ∧ (n : Int) ≤ 4 from ⟨by omega, by omega⟩)))
    (fun x0 x1 => by omega)
    (fun x0 x1 x2 => k2 x0 (zB_u hB trivial))
    (fun x0 x1 x2 => by omega)
theorem zb205_28br (hT : zRules T) {D : Nat} {κ : Option zA → zM → Prop} {m : zM} {n : Nat} {lo : zL} (hlo : z_keep [0, 1, 2] lo = [(0, zr 74), (1, zi (n : Int)), (2, zi 1)]) 
    (o1 : ¬ wr (m 74 17) = (-1) → False)
    (o2 : wr (m 74 17) = (-1) → ¬ wr (n : Int) = 4 → T (D + 3) 205 (54, [(0, zr 74), (1, zi (n : Int)), (3, zi 0)], [], m) κ)
    (o3 : wr (m 74 17) = (-1) → wr (n : Int) = 4 → False) :
    T (D + 3) 205 (28, lo, [], m) κ :=
  zkeep hT hlo (hT.1 [(28, [0, 1, 2]), (54, [0, 1, 3]), (205, [0, 1, 3]), (225, [0, 1, 3, 4])] 6 (D + 3) 205 _ κ (And.intro (fun a1 => (z_litF a1 rfl).elim) (fun _ => (hT.1 [] 6 (D + 2) 199 _ _ (And.intro (fun a2 => (o1 a2).elim) (fun a3 => (hT.1 [] 6 (D + 2) 199 (13, [(0, zr 74)], [zi 1], m) _ (And.intro (z_b01L rfl) (hT.1 [(28, [0, 1, 2]), (54, [0, 1, 3]), (205, [0, 1, 3]), (225, [0, 1, 3, 4])] 6 (D + 3) 205 _ _ (And.intro (fun a4 => (z_litF a4 rfl).elim) (fun _ => (And.intro (fun a5 => (o2 (Classical.byContradiction a3) a5)) (fun a6 => (o3 (Classical.byContradiction a3) (Classical.byContradiction a6)).elim)))))))))))))
theorem zb205_28b (hT : zRules T) {D : Nat} {κ : Option zA → zM → Prop} {m : zM} {n : Nat} {lo : zL} (hlo : z_keep [0, 1, 2] lo = [(0, zr 74), (1, zi (n : Int)), (2, zi 1)])  (hB : zB m) (hrd : m 74 13 = 80) (h_n : n ≤ 3) (hf0 : (-1) ≤ m 74 17 ∧ m 74 17 ≤ (-1)) (hf1 : 0 ≤ m 74 16 ∧ m 74 16 ≤ 80) 
    (k1 : T (D + 3) 205 (54, [(0, zr 74), (1, zi (n : Int)), (3, zi 0)], [], m) κ) :
    T (D + 3) 205 (28, lo, [], m) κ := by
  have he0 : wr (m 74 17) = (m 74 17) := wr_id (by omega) (by omega)
  have he1 : wr (n : Int) = (n : Int) := wr_id (by omega) (by omega)
  have key := @zb205_28br T hT D κ m n lo hlo
  simp only [he0, he1, Int.toNat_natCast] at key
  exact key
    (fun x0 => by omega)
    (fun x0 x1 => k1 )
    (fun x0 x1 => by omega)
theorem zb205_28cr (hT : zRules T) {D : Nat} {κ : Option zA → zM → Prop} {m : zM} {lo : zL} (hlo : z_keep [0, 1, 2] lo = [(0, zr 74), (1, zi 4), (2, zi 1)]) 
    (o1 : ¬ wr (m 74 17) = (-1) → False)
    (o2 : wr (m 74 17) = (-1) → ¬ wr (m 74 17) = (-1) → False)
    (o3 : wr (m 74 17) = (-1) → wr (m 74 17) = (-1) → T (D + 3) 205 (54, [(0, zr 74), (1, zi 4), (3, zi 0)], [], (zu m 74 17 (m 74 16))) κ) :
    T (D + 3) 205 (28, lo, [], m) κ :=
  zkeep hT hlo (hT.1 [(28, [0, 1, 2]), (54, [0, 1, 3]), (205, [0, 1, 3]), (225, [0, 1, 3, 4])] 6 (D + 3) 205 _ κ (And.intro (fun a1 => (z_litF a1 rfl).elim) (fun _ => (hT.1 [] 6 (D + 2) 199 _ _ (And.intro (fun a2 => (o1 a2).elim) (fun a3 => (hT.1 [] 6 (D + 2) 199 (13, [(0, zr 74)], [zi 1], m) _ (And.intro (z_b01L rfl) (hT.1 [(28, [0, 1, 2]), (54, [0, 1, 3]), (205, [0, 1, 3]), (225, [0, 1, 3, 4])] 6 (D + 3) 205 _ _ (And.intro (fun a4 => (z_litF a4 rfl).elim) (fun _ => (And.intro (fun a5 => (z_litF a5 rfl).elim) (fun _ => (hT.1 [(28, [0, 1, 2]), (54, [0, 1, 3]), (205, [0, 1, 3]), (225, [0, 1, 3, 4])] 6 (D + 3) 205 (46, [(0, zr 74), (1, zi 4), (2, zi 1)], [zr 74, zr 74], m) _ (hT.1 [] 6 (D + 2) 200 _ _ (hT.1 [] 6 (D + 1) 199 _ _ (And.intro (fun a6 => (o2 (Classical.byContradiction a3) a6).elim) (fun a7 => (hT.1 [] 6 (D + 1) 199 (13, [(0, zr 74)], [zi 1], m) _ (And.intro (z_b01L rfl) (hT.1 [] 6 (D + 2) 200 _ _ (And.intro (fun a8 => (z_litF a8 rfl).elim) (fun _ => (And.intro trivial (hT.1 [(28, [0, 1, 2]), (54, [0, 1, 3]), (205, [0, 1, 3]), (225, [0, 1, 3, 4])] 6 (D + 3) 205 _ _ (o3 (Classical.byContradiction a3) (Classical.byContradiction a7)))))))))))))))))))))))))))
theorem zb205_28c (hT : zRules T) {D : Nat} {κ : Option zA → zM → Prop} {m : zM} {lo : zL} (hlo : z_keep [0, 1, 2] lo = [(0, zr 74), (1, zi 4), (2, zi 1)])  (hB : zB m) (hrd : m 74 13 = 80) (hf0 : (-1) ≤ m 74 17 ∧ m 74 17 ≤ (-1)) (hf1 : 0 ≤ m 74 16 ∧ m 74 16 ≤ 80) 
    (k1 : zB (zu m 74 17 (m 74 16)) → T (D + 3) 205 (54, [(0, zr 74), (1, zi 4), (3, zi 0)], [], (zu m 74 17 (m 74 16))) κ) :
    T (D + 3) 205 (28, lo, [], m) κ := by
  have he0 : wr (m 74 17) = (m 74 17) := wr_id (by omega) (by omega)
  have key := @zb205_28cr T hT D κ m  lo hlo
  simp only [he0, Int.toNat_natCast] at key
  exact key
    (fun x0 => by omega)
    (fun x0 x1 => by omega)
    (fun x0 x1 => k1  (zB_u hB trivial))
theorem zb205_28fr (hT : zRules T) {D : Nat} {κ : Option zA → zM → Prop} {m : zM} {n : Nat} {mo : Int} {lo : zL} (hlo : z_keep [0, 1, 2] lo = [(0, zr 74), (1, zi (n : Int)), (2, zi mo)]) 
    (o1 : wr mo = 0 → ¬ wr (m 74 16) < wr (m 74 14) → ¬ wr (m 74 17) = (-1) → κ (some (zi (wr ((-1) - (m 74 17))))) m)
    (o2 : wr mo = 0 → ¬ wr (m 74 16) < wr (m 74 14) → wr (m 74 17) = (-1) → False)
    (o3 : wr mo = 0 → wr (m 74 16) < wr (m 74 14) → ¬ wr (m 74 17) = (-1) → ¬ wr (m 74 17) = (-1) → κ (some (zi (wr ((-1) - (m 74 17))))) m)
    (o4 : wr mo = 0 → wr (m 74 16) < wr (m 74 14) → ¬ wr (m 74 17) = (-1) → wr (m 74 17) = (-1) → False)
    (o5 : wr mo = 0 → wr (m 74 16) < wr (m 74 14) → wr (m 74 17) = (-1) → False)
    (o6 : ¬ wr mo = 0 → ¬ wr (m 74 17) = (-1) → ¬ wr (m 74 16) < wr (m 74 14) → ¬ wr (m 74 17) = (-1) → κ (some (zi (wr ((-1) - (m 74 17))))) m)
    (o7 : ¬ wr mo = 0 → ¬ wr (m 74 17) = (-1) → ¬ wr (m 74 16) < wr (m 74 14) → wr (m 74 17) = (-1) → False)
    (o8 : ¬ wr mo = 0 → ¬ wr (m 74 17) = (-1) → wr (m 74 16) < wr (m 74 14) → ¬ wr (m 74 17) = (-1) → ¬ wr (m 74 17) = (-1) → κ (some (zi (wr ((-1) - (m 74 17))))) m)
    (o9 : ¬ wr mo = 0 → ¬ wr (m 74 17) = (-1) → wr (m 74 16) < wr (m 74 14) → ¬ wr (m 74 17) = (-1) → wr (m 74 17) = (-1) → False)
    (o10 : ¬ wr mo = 0 → ¬ wr (m 74 17) = (-1) → wr (m 74 16) < wr (m 74 14) → wr (m 74 17) = (-1) → False)
    (o11 : ¬ wr mo = 0 → wr (m 74 17) = (-1) → False) :
    T (D + 3) 205 (28, lo, [], m) κ :=
  zkeep hT hlo (hT.1 [(28, [0, 1, 2]), (54, [0, 1, 3]), (205, [0, 1, 3]), (225, [0, 1, 3, 4])] 6 (D + 3) 205 _ κ (And.intro (fun a1 => (hT.1 [(28, [0, 1, 2]), (54, [0, 1, 3]), (205, [0, 1, 3]), (225, [0, 1, 3, 4])] 6 (D + 3) 205 (173, [(0, zr 74), (1, zi (n : Int)), (2, zi mo)], [zi (m 74 14), zi (m 74 16)], m) _ (And.intro (fun a3 => (hT.1 [] 6 (D + 2) 199 _ _ (And.intro (fun a5 => (And.intro (z_b01L rfl) (hT.1 [(28, [0, 1, 2]), (54, [0, 1, 3]), (205, [0, 1, 3]), (225, [0, 1, 3, 4])] 6 (D + 3) 205 _ _ (And.intro (fun a7 => (z_litF a7 rfl).elim) (fun _ => (o1 a1 a3 a5)))))) (fun a6 => (o2 a1 a3 (Classical.byContradiction a6)).elim)))) (fun a4 => (hT.1 [] 6 (D + 2) 200 _ _ (hT.1 [] 6 (D + 1) 199 _ _ (And.intro (fun a8 => (And.intro (z_b01L rfl) (hT.1 [] 6 (D + 2) 200 _ _ (And.intro (fun _ => (hT.1 [(28, [0, 1, 2]), (54, [0, 1, 3]), (205, [0, 1, 3]), (225, [0, 1, 3, 4])] 6 (D + 3) 205 _ _ (hT.1 [] 6 (D + 2) 199 _ _ (And.intro (fun a11 => (And.intro (z_b01L rfl) (hT.1 [(28, [0, 1, 2]), (54, [0, 1, 3]), (205, [0, 1, 3]), (225, [0, 1, 3, 4])] 6 (D + 3) 205 _ _ (And.intro (fun a13 => (z_litF a13 rfl).elim) (fun _ => (o3 a1 (Classical.byContradiction a4) a8 a11)))))) (fun a12 => (o4 a1 (Classical.byContradiction a4) a8 (Classical.byContradiction a12)).elim))))) (fun a10 => (a10 (z_litT rfl)).elim))))) (fun a9 => (o5 a1 (Classical.byContradiction a4) (Classical.byContradiction a9)).elim)))))))) (fun a2 => (hT.1 [] 6 (D + 2) 199 _ _ (And.intro (fun a14 => (And.intro (z_b01L rfl) (hT.1 [(28, [0, 1, 2]), (54, [0, 1, 3]), (205, [0, 1, 3]), (225, [0, 1, 3, 4])] 6 (D + 3) 205 _ _ (And.intro (fun _ => (And.intro (fun a17 => (hT.1 [(28, [0, 1, 2]), (54, [0, 1, 3]), (205, [0, 1, 3]), (225, [0, 1, 3, 4])] 6 (D + 3) 205 (184, [(0, zr 74), (1, zi (n : Int)), (2, zi mo)], [], m) _ (hT.1 [] 6 (D + 2) 199 _ _ (And.intro (fun a19 => (And.intro (z_b01L rfl) (hT.1 [(28, [0, 1, 2]), (54, [0, 1, 3]), (205, [0, 1, 3]), (225, [0, 1, 3, 4])] 6 (D + 3) 205 _ _ (And.intro (fun a21 => (z_litF a21 rfl).elim) (fun _ => (o6 a2 a14 a17 a19)))))) (fun a20 => (o7 a2 a14 a17 (Classical.byContradiction a20)).elim))))) (fun a18 => (hT.1 [(28, [0, 1, 2]), (54, [0, 1, 3]), (205, [0, 1, 3]), (225, [0, 1, 3, 4])] 6 (D + 3) 205 (176, [(0, zr 74), (1, zi (n : Int)), (2, zi mo)], [], m) _ (hT.1 [] 6 (D + 2) 200 _ _ (hT.1 [] 6 (D + 1) 199 _ _ (And.intro (fun a22 => (And.intro (z_b01L rfl) (hT.1 [] 6 (D + 2) 200 _ _ (And.intro (fun _ => (hT.1 [(28, [0, 1, 2]), (54, [0, 1, 3]), (205, [0, 1, 3]), (225, [0, 1, 3, 4])] 6 (D + 3) 205 _ _ (hT.1 [] 6 (D + 2) 199 _ _ (And.intro (fun a25 => (And.intro (z_b01L rfl) (hT.1 [(28, [0, 1, 2]), (54, [0, 1, 3]), (205, [0, 1, 3]), (225, [0, 1, 3, 4])] 6 (D + 3) 205 _ _ (And.intro (fun a27 => (z_litF a27 rfl).elim) (fun _ => (o8 a2 a14 (Classical.byContradiction a18) a22 a25)))))) (fun a26 => (o9 a2 a14 (Classical.byContradiction a18) a22 (Classical.byContradiction a26)).elim))))) (fun a24 => (a24 (z_litT rfl)).elim))))) (fun a23 => (o10 a2 a14 (Classical.byContradiction a18) (Classical.byContradiction a23)).elim)))))))) (fun a16 => (a16 (z_litT rfl)).elim))))) (fun a15 => (o11 a2 (Classical.byContradiction a15)).elim))))))
theorem zb205_28f (hT : zRules T) {D : Nat} {κ : Option zA → zM → Prop} {m : zM} {n : Nat} {mo : Int} {lo : zL} (hlo : z_keep [0, 1, 2] lo = [(0, zr 74), (1, zi (n : Int)), (2, zi mo)])  (hB : zB m) (hrd : m 74 13 = 80) (h_n : n ≤ 5) (h_mo : 0 ≤ mo ∧ mo ≤ 1) (hf0 : 0 ≤ m 74 17 ∧ m 74 17 ≤ 100) (hf1 : 0 ≤ m 74 16 ∧ m 74 16 ≤ 80) 
    (k1 : mo = 0 → ¬ (m 74 16) < (m 74 14) → κ (some (zi ((-1) - (m 74 17)))) m)
    (k2 : mo = 0 → (m 74 16) < (m 74 14) → κ (some (zi ((-1) - (m 74 17)))) m)
    (k3 : ¬ mo = 0 → ¬ (m 74 16) < (m 74 14) → κ (some (zi ((-1) - (m 74 17)))) m)
    (k4 : ¬ mo = 0 → (m 74 16) < (m 74 14) → κ (some (zi ((-1) - (m 74 17)))) m) :
    T (D + 3) 205 (28, lo, [], m) κ := by
  have hb4 : 0 ≤ (m 74 14) ∧ (m 74 14) ≤ 80 := hB 74 14
  have he0 : wr mo = mo := wr_id (by omega) (by omega)
  have he1 : wr (m 74 16) = (m 74 16) := wr_id (by omega) (by omega)
  have he2 : wr (m 74 14) = (m 74 14) := wr_id (by omega) (by omega)
  have he3 : wr (m 74 17) = (m 74 17) := wr_id (by omega) (by omega)
  have he4 : wr ((-1) - (m 74 17)) = ((-1) - (m 74 17)) := wr_id (by omega) (by omega)
  have key := @zb205_28fr T hT D κ m n mo lo hlo
  simp only [he0, he1, he2, he3, he4, Int.toNat_natCast] at key
  exact key
    (fun x0 x1 x2 => k1 x0 x1)
    (fun x0 x1 x2 => by omega)
    (fun x0 x1 x2 x3 => k2 x0 x1)
    (fun x0 x1 x2 x3 => by omega)
    (fun x0 x1 x2 => by omega)
    (fun x0 x1 x2 x3 => k3 x0 x2)
    (fun x0 x1 x2 x3 => by omega)
    (fun x0 x1 x2 x3 x4 => k4 x0 x2)
    (fun x0 x1 x2 x3 x4 => by omega)
    (fun x0 x1 x2 x3 => by omega)
    (fun x0 x1 => by omega)
theorem zb205_54r (hT : zRules T) {D : Nat} {κ : Option zA → zM → Prop} {m : zM} {n : Nat} {k : Nat} {lo : zL} (hlo : z_keep [0, 1, 3] lo = [(0, zr 74), (1, zi (n : Int)), (3, zi (k : Int))]) 
    (o1 : ¬ wr (m 74 17) = (-1) → False)
    (o2 : wr (m 74 17) = (-1) → (m 74 13) = 80)
    (o3 : wr (m 74 17) = (-1) → (0 ≤ (m 74 16) ∧ (m 74 16) ≤ 1000))
    (o4 : wr (m 74 17) = (-1) → (0 ≤ (m 74 14) ∧ (m 74 14) ≤ 80))
    (o5 : wr (m 74 17) = (-1) → (0 ≤ (m 74 15) ∧ (m 74 15) ≤ 80))
    (o6 : wr (m 74 17) = (-1) → wr (hrR m 80) < 48 → ¬ wr (k : Int) = 0 → ¬ wr (m 74 17) = (-1) → False)
    (o7 : wr (m 74 17) = (-1) → wr (hrR m 80) < 48 → ¬ wr (k : Int) = 0 → wr (m 74 17) = (-1) → (0 ≤ wr (n : Int) ∧ wr (n : Int) < 4))
    (o8 : wr (m 74 17) = (-1) → wr (hrR m 80) < 48 → ¬ wr (k : Int) = 0 → wr (m 74 17) = (-1) → ¬ wr (m 74 17) = (-1) → False)
    (o9 : wr (m 74 17) = (-1) → wr (hrR m 80) < 48 → ¬ wr (k : Int) = 0 → wr (m 74 17) = (-1) → wr (m 74 17) = (-1) → (m 74 13) = 80)
    (o10 : wr (m 74 17) = (-1) → wr (hrR m 80) < 48 → ¬ wr (k : Int) = 0 → wr (m 74 17) = (-1) → wr (m 74 17) = (-1) → (0 ≤ (m 74 16) ∧ (m 74 16) ≤ 1000))
    (o11 : wr (m 74 17) = (-1) → wr (hrR m 80) < 48 → ¬ wr (k : Int) = 0 → wr (m 74 17) = (-1) → wr (m 74 17) = (-1) → (0 ≤ (m 74 14) ∧ (m 74 14) ≤ 80))
    (o12 : wr (m 74 17) = (-1) → wr (hrR m 80) < 48 → ¬ wr (k : Int) = 0 → wr (m 74 17) = (-1) → wr (m 74 17) = (-1) → (0 ≤ (m 74 15) ∧ (m 74 15) ≤ 80))
    (o13 : wr (m 74 17) = (-1) → wr (hrR m 80) < 48 → ¬ wr (k : Int) = 0 → wr (m 74 17) = (-1) → wr (m 74 17) = (-1) → wr (hrR (zu m 83 ((wr (n : Int)).toNat) (k : Int)) 80) = 47 → T (D + 3) 205 (28, [(0, zr 74), (1, zi ((n : Int) + 1)), (2, zi 1)], [], (zu (zu m 83 ((wr (n : Int)).toNat) (k : Int)) 74 16 ((m 74 16) + 1))) κ)
    (o14 : wr (m 74 17) = (-1) → wr (hrR m 80) < 48 → ¬ wr (k : Int) = 0 → wr (m 74 17) = (-1) → wr (m 74 17) = (-1) → ¬ wr (hrR (zu m 83 ((wr (n : Int)).toNat) (k : Int)) 80) = 47 → T (D + 3) 205 (28, [(0, zr 74), (1, zi ((n : Int) + 1)), (2, zi 0)], [], (zu m 83 ((wr (n : Int)).toNat) (k : Int))) κ)
    (o15 : wr (m 74 17) = (-1) → wr (hrR m 80) < 48 → wr (k : Int) = 0 → ¬ wr (m 74 17) = (-1) → False)
    (o16 : wr (m 74 17) = (-1) → wr (hrR m 80) < 48 → wr (k : Int) = 0 → wr (m 74 17) = (-1) → ¬ wr (m 74 16) = (-1) → ¬ wr (m 74 16) = (-1) → T (D + 3) 205 (28, [(0, zr 74), (1, zi ((n : Int) + 1)), (2, zi 0)], [], (zu m 74 17 (m 74 16))) κ)
    (o17 : wr (m 74 17) = (-1) → wr (hrR m 80) < 48 → wr (k : Int) = 0 → wr (m 74 17) = (-1) → ¬ wr (m 74 16) = (-1) → wr (m 74 16) = (-1) → False)
    (o18 : wr (m 74 17) = (-1) → wr (hrR m 80) < 48 → wr (k : Int) = 0 → wr (m 74 17) = (-1) → wr (m 74 16) = (-1) → False)
    (o19 : wr (m 74 17) = (-1) → ¬ wr (hrR m 80) < 48 → 57 < wr (hrR m 80) → ¬ wr (k : Int) = 0 → ¬ wr (m 74 17) = (-1) → False)
    (o20 : wr (m 74 17) = (-1) → ¬ wr (hrR m 80) < 48 → 57 < wr (hrR m 80) → ¬ wr (k : Int) = 0 → wr (m 74 17) = (-1) → (0 ≤ wr (n : Int) ∧ wr (n : Int) < 4))
    (o21 : wr (m 74 17) = (-1) → ¬ wr (hrR m 80) < 48 → 57 < wr (hrR m 80) → ¬ wr (k : Int) = 0 → wr (m 74 17) = (-1) → ¬ wr (m 74 17) = (-1) → False)
    (o22 : wr (m 74 17) = (-1) → ¬ wr (hrR m 80) < 48 → 57 < wr (hrR m 80) → ¬ wr (k : Int) = 0 → wr (m 74 17) = (-1) → wr (m 74 17) = (-1) → (m 74 13) = 80)
    (o23 : wr (m 74 17) = (-1) → ¬ wr (hrR m 80) < 48 → 57 < wr (hrR m 80) → ¬ wr (k : Int) = 0 → wr (m 74 17) = (-1) → wr (m 74 17) = (-1) → (0 ≤ (m 74 16) ∧ (m 74 16) ≤ 1000))
    (o24 : wr (m 74 17) = (-1) → ¬ wr (hrR m 80) < 48 → 57 < wr (hrR m 80) → ¬ wr (k : Int) = 0 → wr (m 74 17) = (-1) → wr (m 74 17) = (-1) → (0 ≤ (m 74 14) ∧ (m 74 14) ≤ 80))
    (o25 : wr (m 74 17) = (-1) → ¬ wr (hrR m 80) < 48 → 57 < wr (hrR m 80) → ¬ wr (k : Int) = 0 → wr (m 74 17) = (-1) → wr (m 74 17) = (-1) → (0 ≤ (m 74 15) ∧ (m 74 15) ≤ 80))
    (o26 : wr (m 74 17) = (-1) → ¬ wr (hrR m 80) < 48 → 57 < wr (hrR m 80) → ¬ wr (k : Int) = 0 → wr (m 74 17) = (-1) → wr (m 74 17) = (-1) → wr (hrR (zu m 83 ((wr (n : Int)).toNat) (k : Int)) 80) = 47 → T (D + 3) 205 (28, [(0, zr 74), (1, zi ((n : Int) + 1)), (2, zi 1)], [], (zu (zu m 83 ((wr (n : Int)).toNat) (k : Int)) 74 16 ((m 74 16) + 1))) κ)
    (o27 : wr (m 74 17) = (-1) → ¬ wr (hrR m 80) < 48 → 57 < wr (hrR m 80) → ¬ wr (k : Int) = 0 → wr (m 74 17) = (-1) → wr (m 74 17) = (-1) → ¬ wr (hrR (zu m 83 ((wr (n : Int)).toNat) (k : Int)) 80) = 47 → T (D + 3) 205 (28, [(0, zr 74), (1, zi ((n : Int) + 1)), (2, zi 0)], [], (zu m 83 ((wr (n : Int)).toNat) (k : Int))) κ)
    (o28 : wr (m 74 17) = (-1) → ¬ wr (hrR m 80) < 48 → 57 < wr (hrR m 80) → wr (k : Int) = 0 → ¬ wr (m 74 17) = (-1) → False)
    (o29 : wr (m 74 17) = (-1) → ¬ wr (hrR m 80) < 48 → 57 < wr (hrR m 80) → wr (k : Int) = 0 → wr (m 74 17) = (-1) → ¬ wr (m 74 16) = (-1) → ¬ wr (m 74 16) = (-1) → T (D + 3) 205 (28, [(0, zr 74), (1, zi ((n : Int) + 1)), (2, zi 0)], [], (zu m 74 17 (m 74 16))) κ)
    (o30 : wr (m 74 17) = (-1) → ¬ wr (hrR m 80) < 48 → 57 < wr (hrR m 80) → wr (k : Int) = 0 → wr (m 74 17) = (-1) → ¬ wr (m 74 16) = (-1) → wr (m 74 16) = (-1) → False)
    (o31 : wr (m 74 17) = (-1) → ¬ wr (hrR m 80) < 48 → 57 < wr (hrR m 80) → wr (k : Int) = 0 → wr (m 74 17) = (-1) → wr (m 74 16) = (-1) → False)
    (o32 : wr (m 74 17) = (-1) → ¬ wr (hrR m 80) < 48 → ¬ 57 < wr (hrR m 80) → ¬ wr (k : Int) = 26 → (m 74 13) = 80)
    (o33 : wr (m 74 17) = (-1) → ¬ wr (hrR m 80) < 48 → ¬ 57 < wr (hrR m 80) → ¬ wr (k : Int) = 26 → (0 ≤ (m 74 16) ∧ (m 74 16) ≤ 1000))
    (o34 : wr (m 74 17) = (-1) → ¬ wr (hrR m 80) < 48 → ¬ 57 < wr (hrR m 80) → ¬ wr (k : Int) = 26 → (0 ≤ (m 74 14) ∧ (m 74 14) ≤ 80))
    (o35 : wr (m 74 17) = (-1) → ¬ wr (hrR m 80) < 48 → ¬ 57 < wr (hrR m 80) → ¬ wr (k : Int) = 26 → (0 ≤ (m 74 15) ∧ (m 74 15) ≤ 80))
    (o36 : wr (m 74 17) = (-1) → ¬ wr (hrR m 80) < 48 → ¬ 57 < wr (hrR m 80) → ¬ wr (k : Int) = 26 → (0 ≤ wr ((26 * (n : Int)) + (k : Int)) ∧ wr ((26 * (n : Int)) + (k : Int)) < 104))
    (o37 : wr (m 74 17) = (-1) → ¬ wr (hrR m 80) < 48 → ¬ 57 < wr (hrR m 80) → ¬ wr (k : Int) = 26 → T (D + 3) 205 (54, [(0, zr 74), (1, zi (n : Int)), (3, zi ((k : Int) + 1))], [], (zu (zu m 82 ((wr ((26 * (n : Int)) + (k : Int))).toNat) ((hrR m 80) - 48)) 74 16 ((m 74 16) + 1))) κ)
    (o38 : wr (m 74 17) = (-1) → ¬ wr (hrR m 80) < 48 → ¬ 57 < wr (hrR m 80) → wr (k : Int) = 26 → ¬ wr (m 74 17) = (-1) → False)
    (o39 : wr (m 74 17) = (-1) → ¬ wr (hrR m 80) < 48 → ¬ 57 < wr (hrR m 80) → wr (k : Int) = 26 → wr (m 74 17) = (-1) → T (D + 3) 205 (54, [(0, zr 74), (1, zi (n : Int)), (3, zi (k : Int))], [], (zu m 74 17 (m 74 16))) κ) :
    T (D + 3) 205 (54, lo, [], m) κ :=
  zkeep hT hlo (hT.1 [(28, [0, 1, 2]), (54, [0, 1, 3]), (205, [0, 1, 3]), (225, [0, 1, 3, 4])] 6 (D + 3) 205 _ κ (hT.1 [] 6 (D + 2) 199 _ _ (And.intro (fun a1 => (o1 a1).elim) (fun a2 => (hT.1 [] 6 (D + 2) 199 (13, [(0, zr 74)], [zi 1], m) _ (And.intro (z_b01L rfl) (hT.1 [(28, [0, 1, 2]), (54, [0, 1, 3]), (205, [0, 1, 3]), (225, [0, 1, 3, 4])] 6 (D + 3) 205 _ _ (And.intro (fun a3 => (z_litF a3 rfl).elim) (fun _ => (z_here80 hT (o2 (Classical.byContradiction a2)) (o3 (Classical.byContradiction a2)) (o4 (Classical.byContradiction a2)) (o5 (Classical.byContradiction a2)) (hT.1 [(28, [0, 1, 2]), (54, [0, 1, 3]), (205, [0, 1, 3]), (225, [0, 1, 3, 4])] 6 (D + 3) 205 _ _ (hT.1 [] 6 (D + 2) 186 _ _ (And.intro (fun a4 => (And.intro (z_b01L rfl) (hT.1 [(28, [0, 1, 2]), (54, [0, 1, 3]), (205, [0, 1, 3]), (225, [0, 1, 3, 4])] 6 (D + 3) 205 _ _ (And.intro (fun _ => (And.intro (fun a7 => (hT.1 [] 6 (D + 2) 199 _ _ (And.intro (fun a9 => (o6 (Classical.byContradiction a2) a4 a7 a9).elim) (fun a10 => (hT.1 [] 6 (D + 2) 199 (13, [(0, zr 74)], [zi 1], m) _ (And.intro (z_b01L rfl) (hT.1 [(28, [0, 1, 2]), (54, [0, 1, 3]), (205, [0, 1, 3]), (225, [0, 1, 3, 4])] 6 (D + 3) 205 _ _ (And.intro (fun a11 => (z_litF a11 rfl).elim) (fun _ => (And.intro (And.intro (o7 (Classical.byContradiction a2) a4 a7 (Classical.byContradiction a10)) trivial) (hT.1 [(28, [0, 1, 2]), (54, [0, 1, 3]), (205, [0, 1, 3]), (225, [0, 1, 3, 4])] 6 (D + 3) 205 (152, [(0, zr 74), (1, zi (n : Int)), (3, zi (k : Int))], [], (zu m 83 ((wr (n : Int)).toNat) (k : Int))) _ (hT.1 [] 6 (D + 2) 201 _ _ (hT.1 [] 6 (D + 1) 199 _ _ (And.intro (fun a12 => (o8 (Classical.byContradiction a2) a4 a7 (Classical.byContradiction a10) a12).elim) (fun a13 => (hT.1 [] 6 (D + 1) 199 (13, [(0, zr 74)], [zi 1], (zu m 83 ((wr (n : Int)).toNat) (k : Int))) _ (And.intro (z_b01L rfl) (hT.1 [] 6 (D + 2) 201 _ _ (And.intro (fun a14 => (z_litF a14 rfl).elim) (fun _ => (z_here80 hT (o9 (Classical.byContradiction a2) a4 a7 (Classical.byContradiction a10) (Classical.byContradiction a13)) (o10 (Classical.byContradiction a2) a4 a7 (Classical.byContradiction a10) (Classical.byContradiction a13)) (o11 (Classical.byContradiction a2) a4 a7 (Classical.byContradiction a10) (Classical.byContradiction a13)) (o12 (Classical.byContradiction a2) a4 a7 (Classical.byContradiction a10) (Classical.byContradiction a13)) (hT.1 [] 6 (D + 2) 201 _ _ (And.intro (fun a15 => (hT.1 [] 6 (D + 2) 201 (23, [(0, zr 74), (1, zi 47)], [zi 1, zi (m 74 16), zr 74], (zu m 83 ((wr (n : Int)).toNat) (k : Int))) _ (And.intro trivial (And.intro (z_b01L rfl) (hT.1 [(28, [0, 1, 2]), (54, [0, 1, 3]), (205, [0, 1, 3]), (225, [0, 1, 3, 4])] 6 (D + 3) 205 _ _ (o13 (Classical.byContradiction a2) a4 a7 (Classical.byContradiction a10) (Classical.byContradiction a13) a15)))))) (fun a16 => (And.intro (z_b01L rfl) (hT.1 [(28, [0, 1, 2]), (54, [0, 1, 3]), (205, [0, 1, 3]), (225, [0, 1, 3, 4])] 6 (D + 3) 205 _ _ (o14 (Classical.byContradiction a2) a4 a7 (Classical.byContradiction a10) (Classical.byContradiction a13) a16))))))))))))))))))))))))))) (fun a8 => (hT.1 [(28, [0, 1, 2]), (54, [0, 1, 3]), (205, [0, 1, 3]), (225, [0, 1, 3, 4])] 6 (D + 3) 205 (135, [(0, zr 74), (1, zi (n : Int)), (3, zi (k : Int))], [zi (m 74 16), zr 74], m) _ (hT.1 [] 6 (D + 2) 200 _ _ (hT.1 [] 6 (D + 1) 199 _ _ (And.intro (fun a17 => (o15 (Classical.byContradiction a2) a4 (Classical.byContradiction a8) a17).elim) (fun a18 => (hT.1 [] 6 (D + 1) 199 (13, [(0, zr 74)], [zi 1], m) _ (And.intro (z_b01L rfl) (hT.1 [] 6 (D + 2) 200 _ _ (And.intro (fun a19 => (z_litF a19 rfl).elim) (fun _ => (And.intro trivial (hT.1 [(28, [0, 1, 2]), (54, [0, 1, 3]), (205, [0, 1, 3]), (225, [0, 1, 3, 4])] 6 (D + 3) 205 _ _ (hT.1 [] 6 (D + 2) 199 _ _ (And.intro (fun a20 => (And.intro (z_b01L rfl) (hT.1 [(28, [0, 1, 2]), (54, [0, 1, 3]), (205, [0, 1, 3]), (225, [0, 1, 3, 4])] 6 (D + 3) 205 _ _ (And.intro (fun _ => (hT.1 [] 6 (D + 2) 201 _ _ (hT.1 [] 6 (D + 1) 199 _ _ (And.intro (fun a23 => (And.intro (z_b01L rfl) (hT.1 [] 6 (D + 2) 201 _ _ (And.intro (fun _ => (And.intro (z_b01L rfl) (hT.1 [(28, [0, 1, 2]), (54, [0, 1, 3]), (205, [0, 1, 3]), (225, [0, 1, 3, 4])] 6 (D + 3) 205 _ _ (o16 (Classical.byContradiction a2) a4 (Classical.byContradiction a8) (Classical.byContradiction a18) a20 a23)))) (fun a25 => (a25 (z_litT rfl)).elim))))) (fun a24 => (o17 (Classical.byContradiction a2) a4 (Classical.byContradiction a8) (Classical.byContradiction a18) a20 (Classical.byContradiction a24)).elim))))) (fun a22 => (a22 (z_litT rfl)).elim))))) (fun a21 => (o18 (Classical.byContradiction a2) a4 (Classical.byContradiction a8) (Classical.byContradiction a18) (Classical.byContradiction a21)).elim)))))))))))))))))) (fun a6 => (a6 (z_litT rfl)).elim))))) (fun a5 => (And.intro (fun a26 => (hT.1 [] 6 (D + 2) 186 (14, [(0, zi (hrR m 80)), (1, zi 48), (2, zi 57)], [], m) _ (And.intro (z_b01L rfl) (hT.1 [(28, [0, 1, 2]), (54, [0, 1, 3]), (205, [0, 1, 3]), (225, [0, 1, 3, 4])] 6 (D + 3) 205 _ _ (And.intro (fun _ => (And.intro (fun a29 => (hT.1 [] 6 (D + 2) 199 _ _ (And.intro (fun a31 => (o19 (Classical.byContradiction a2) a5 a26 a29 a31).elim) (fun a32 => (hT.1 [] 6 (D + 2) 199 (13, [(0, zr 74)], [zi 1], m) _ (And.intro (z_b01L rfl) (hT.1 [(28, [0, 1, 2]), (54, [0, 1, 3]), (205, [0, 1, 3]), (225, [0, 1, 3, 4])] 6 (D + 3) 205 _ _ (And.intro (fun a33 => (z_litF a33 rfl).elim) (fun _ => (And.intro (And.intro (o20 (Classical.byContradiction a2) a5 a26 a29 (Classical.byContradiction a32)) trivial) (hT.1 [(28, [0, 1, 2]), (54, [0, 1, 3]), (205, [0, 1, 3]), (225, [0, 1, 3, 4])] 6 (D + 3) 205 (152, [(0, zr 74), (1, zi (n : Int)), (3, zi (k : Int))], [], (zu m 83 ((wr (n : Int)).toNat) (k : Int))) _ (hT.1 [] 6 (D + 2) 201 _ _ (hT.1 [] 6 (D + 1) 199 _ _ (And.intro (fun a34 => (o21 (Classical.byContradiction a2) a5 a26 a29 (Classical.byContradiction a32) a34).elim) (fun a35 => (hT.1 [] 6 (D + 1) 199 (13, [(0, zr 74)], [zi 1], (zu m 83 ((wr (n : Int)).toNat) (k : Int))) _ (And.intro (z_b01L rfl) (hT.1 [] 6 (D + 2) 201 _ _ (And.intro (fun a36 => (z_litF a36 rfl).elim) (fun _ => (z_here80 hT (o22 (Classical.byContradiction a2) a5 a26 a29 (Classical.byContradiction a32) (Classical.byContradiction a35)) (o23 (Classical.byContradiction a2) a5 a26 a29 (Classical.byContradiction a32) (Classical.byContradiction a35)) (o24 (Classical.byContradiction a2) a5 a26 a29 (Classical.byContradiction a32) (Classical.byContradiction a35)) (o25 (Classical.byContradiction a2) a5 a26 a29 (Classical.byContradiction a32) (Classical.byContradiction a35)) (hT.1 [] 6 (D + 2) 201 _ _ (And.intro (fun a37 => (hT.1 [] 6 (D + 2) 201 (23, [(0, zr 74), (1, zi 47)], [zi 1, zi (m 74 16), zr 74], (zu m 83 ((wr (n : Int)).toNat) (k : Int))) _ (And.intro trivial (And.intro (z_b01L rfl) (hT.1 [(28, [0, 1, 2]), (54, [0, 1, 3]), (205, [0, 1, 3]), (225, [0, 1, 3, 4])] 6 (D + 3) 205 _ _ (o26 (Classical.byContradiction a2) a5 a26 a29 (Classical.byContradiction a32) (Classical.byContradiction a35) a37)))))) (fun a38 => (And.intro (z_b01L rfl) (hT.1 [(28, [0, 1, 2]), (54, [0, 1, 3]), (205, [0, 1, 3]), (225, [0, 1, 3, 4])] 6 (D + 3) 205 _ _ (o27 (Classical.byContradiction a2) a5 a26 a29 (Classical.byContradiction a32) (Classical.byContradiction a35) a38))))))))))))))))))))))))))) (fun a30 => (hT.1 [(28, [0, 1, 2]), (54, [0, 1, 3]), (205, [0, 1, 3]), (225, [0, 1, 3, 4])] 6 (D + 3) 205 (135, [(0, zr 74), (1, zi (n : Int)), (3, zi (k : Int))], [zi (m 74 16), zr 74], m) _ (hT.1 [] 6 (D + 2) 200 _ _ (hT.1 [] 6 (D + 1) 199 _ _ (And.intro (fun a39 => (o28 (Classical.byContradiction a2) a5 a26 (Classical.byContradiction a30) a39).elim) (fun a40 => (hT.1 [] 6 (D + 1) 199 (13, [(0, zr 74)], [zi 1], m) _ (And.intro (z_b01L rfl) (hT.1 [] 6 (D + 2) 200 _ _ (And.intro (fun a41 => (z_litF a41 rfl).elim) (fun _ => (And.intro trivial (hT.1 [(28, [0, 1, 2]), (54, [0, 1, 3]), (205, [0, 1, 3]), (225, [0, 1, 3, 4])] 6 (D + 3) 205 _ _ (hT.1 [] 6 (D + 2) 199 _ _ (And.intro (fun a42 => (And.intro (z_b01L rfl) (hT.1 [(28, [0, 1, 2]), (54, [0, 1, 3]), (205, [0, 1, 3]), (225, [0, 1, 3, 4])] 6 (D + 3) 205 _ _ (And.intro (fun _ => (hT.1 [] 6 (D + 2) 201 _ _ (hT.1 [] 6 (D + 1) 199 _ _ (And.intro (fun a45 => (And.intro (z_b01L rfl) (hT.1 [] 6 (D + 2) 201 _ _ (And.intro (fun _ => (And.intro (z_b01L rfl) (hT.1 [(28, [0, 1, 2]), (54, [0, 1, 3]), (205, [0, 1, 3]), (225, [0, 1, 3, 4])] 6 (D + 3) 205 _ _ (o29 (Classical.byContradiction a2) a5 a26 (Classical.byContradiction a30) (Classical.byContradiction a40) a42 a45)))) (fun a47 => (a47 (z_litT rfl)).elim))))) (fun a46 => (o30 (Classical.byContradiction a2) a5 a26 (Classical.byContradiction a30) (Classical.byContradiction a40) a42 (Classical.byContradiction a46)).elim))))) (fun a44 => (a44 (z_litT rfl)).elim))))) (fun a43 => (o31 (Classical.byContradiction a2) a5 a26 (Classical.byContradiction a30) (Classical.byContradiction a40) (Classical.byContradiction a43)).elim)))))))))))))))))) (fun a28 => (a28 (z_litT rfl)).elim)))))) (fun a27 => (hT.1 [] 6 (D + 2) 186 (10, [(0, zi (hrR m 80)), (1, zi 48), (2, zi 57)], [], m) _ (And.intro (z_b01L rfl) (hT.1 [(28, [0, 1, 2]), (54, [0, 1, 3]), (205, [0, 1, 3]), (225, [0, 1, 3, 4])] 6 (D + 3) 205 _ _ (And.intro (fun a48 => (z_litF a48 rfl).elim) (fun _ => (And.intro (fun a49 => (hT.1 [(28, [0, 1, 2]), (54, [0, 1, 3]), (205, [0, 1, 3]), (225, [0, 1, 3, 4])] 6 (D + 3) 205 (96, [(0, zr 74), (1, zi (n : Int)), (3, zi (k : Int))], [zr 82], m) _ (hT.1 [(28, [0, 1, 2]), (54, [0, 1, 3]), (205, [0, 1, 3]), (225, [0, 1, 3, 4])] 6 (D + 3) 205 (103, [(0, zr 74), (1, zi (n : Int)), (3, zi (k : Int))], [zr 74, zi ((26 * (n : Int)) + (k : Int)), zr 82], m) _ (z_here80 hT (o32 (Classical.byContradiction a2) a5 a27 a49) (o33 (Classical.byContradiction a2) a5 a27 a49) (o34 (Classical.byContradiction a2) a5 a27 a49) (o35 (Classical.byContradiction a2) a5 a27 a49) (hT.1 [(28, [0, 1, 2]), (54, [0, 1, 3]), (205, [0, 1, 3]), (225, [0, 1, 3, 4])] 6 (D + 3) 205 _ _ (And.intro (And.intro (o36 (Classical.byContradiction a2) a5 a27 a49) trivial) (hT.1 [(28, [0, 1, 2]), (54, [0, 1, 3]), (205, [0, 1, 3]), (225, [0, 1, 3, 4])] 6 (D + 3) 205 (115, [(0, zr 74), (1, zi (n : Int)), (3, zi ((k : Int) + 1))], [zr 74, zr 74], (zu m 82 ((wr ((26 * (n : Int)) + (k : Int))).toNat) ((hrR m 80) - 48))) _ (And.intro trivial (o37 (Classical.byContradiction a2) a5 a27 a49))))))))) (fun a50 => (hT.1 [(28, [0, 1, 2]), (54, [0, 1, 3]), (205, [0, 1, 3]), (225, [0, 1, 3, 4])] 6 (D + 3) 205 (83, [(0, zr 74), (1, zi (n : Int)), (3, zi (k : Int))], [zr 74, zr 74], m) _ (hT.1 [] 6 (D + 2) 200 _ _ (hT.1 [] 6 (D + 1) 199 _ _ (And.intro (fun a51 => (o38 (Classical.byContradiction a2) a5 a27 (Classical.byContradiction a50) a51).elim) (fun a52 => (hT.1 [] 6 (D + 1) 199 (13, [(0, zr 74)], [zi 1], m) _ (And.intro (z_b01L rfl) (hT.1 [] 6 (D + 2) 200 _ _ (And.intro (fun a53 => (z_litF a53 rfl).elim) (fun _ => (And.intro trivial (hT.1 [(28, [0, 1, 2]), (54, [0, 1, 3]), (205, [0, 1, 3]), (225, [0, 1, 3, 4])] 6 (D + 3) 205 _ _ (o39 (Classical.byContradiction a2) a5 a27 (Classical.byContradiction a50) (Classical.byContradiction a52)))))))))))))))))))))))))))))))))))))
theorem zb205_54 (hT : zRules T) {D : Nat} {κ : Option zA → zM → Prop} {m : zM} {n : Nat} {k : Nat} {lo : zL} (hlo : z_keep [0, 1, 3] lo = [(0, zr 74), (1, zi (n : Int)), (3, zi (k : Int))])  (hB : zB m) (hrd : m 74 13 = 80) (h_n : n ≤ 3) (h_k : k ≤ 26) (hf0 : (-1) ≤ m 74 17 ∧ m 74 17 ≤ (-1)) (hf1 : 0 ≤ m 74 16 ∧ m 74 16 ≤ 80) 
    (k1 : (hrR m 80) < 48 → ¬ (k : Int) = 0 → (hrR (zu m 83 n (k : Int)) 80) = 47 → zB (zu (zu m 83 n (k : Int)) 74 16 ((m 74 16) + 1)) → T (D + 3) 205 (28, [(0, zr 74), (1, zi ((n : Int) + 1)), (2, zi 1)], [], (zu (zu m 83 n (k : Int)) 74 16 ((m 74 16) + 1))) κ)
    (k2 : (hrR m 80) < 48 → ¬ (k : Int) = 0 → ¬ (hrR (zu m 83 n (k : Int)) 80) = 47 → zB (zu m 83 n (k : Int)) → T (D + 3) 205 (28, [(0, zr 74), (1, zi ((n : Int) + 1)), (2, zi 0)], [], (zu m 83 n (k : Int))) κ)
    (k3 : (hrR m 80) < 48 → (k : Int) = 0 → zB (zu m 74 17 (m 74 16)) → T (D + 3) 205 (28, [(0, zr 74), (1, zi ((n : Int) + 1)), (2, zi 0)], [], (zu m 74 17 (m 74 16))) κ)
    (k4 : ¬ (hrR m 80) < 48 → 57 < (hrR m 80) → ¬ (k : Int) = 0 → (hrR (zu m 83 n (k : Int)) 80) = 47 → zB (zu (zu m 83 n (k : Int)) 74 16 ((m 74 16) + 1)) → T (D + 3) 205 (28, [(0, zr 74), (1, zi ((n : Int) + 1)), (2, zi 1)], [], (zu (zu m 83 n (k : Int)) 74 16 ((m 74 16) + 1))) κ)
    (k5 : ¬ (hrR m 80) < 48 → 57 < (hrR m 80) → ¬ (k : Int) = 0 → ¬ (hrR (zu m 83 n (k : Int)) 80) = 47 → zB (zu m 83 n (k : Int)) → T (D + 3) 205 (28, [(0, zr 74), (1, zi ((n : Int) + 1)), (2, zi 0)], [], (zu m 83 n (k : Int))) κ)
    (k6 : ¬ (hrR m 80) < 48 → 57 < (hrR m 80) → (k : Int) = 0 → zB (zu m 74 17 (m 74 16)) → T (D + 3) 205 (28, [(0, zr 74), (1, zi ((n : Int) + 1)), (2, zi 0)], [], (zu m 74 17 (m 74 16))) κ)
    (k7 : ¬ (hrR m 80) < 48 → ¬ 57 < (hrR m 80) → ¬ (k : Int) = 26 → zB (zu (zu m 82 (26 * n + k) ((hrR m 80) - 48)) 74 16 ((m 74 16) + 1)) → T (D + 3) 205 (54, [(0, zr 74), (1, zi (n : Int)), (3, zi ((k : Int) + 1))], [], (zu (zu m 82 (26 * n + k) ((hrR m 80) - 48)) 74 16 ((m 74 16) + 1))) κ)
    (k8 : ¬ (hrR m 80) < 48 → ¬ 57 < (hrR m 80) → (k : Int) = 26 → zB (zu m 74 17 (m 74 16)) → T (D + 3) 205 (54, [(0, zr 74), (1, zi (n : Int)), (3, zi (k : Int))], [], (zu m 74 17 (m 74 16))) κ) :
    T (D + 3) 205 (54, lo, [], m) κ := by
  have hb4 : 0 ≤ (m 74 14) ∧ (m 74 14) ≤ 80 := hB 74 14
  have hb5 : 0 ≤ (m 74 15) ∧ (m 74 15) ≤ 80 := hB 74 15
  have hb6 : (-1) ≤ (hrR m 80) ∧ (hrR m 80) ≤ 255 := hrRB m 80
  have hb7 : (-1) ≤ (hrR (zu m 83 n (k : Int)) 80) ∧ (hrR (zu m 83 n (k : Int)) 80) ≤ 255 := hrRB (zu m 83 n (k : Int)) 80
  have he0 : wr (m 74 17) = (m 74 17) := wr_id (by omega) (by omega)
  have he1 : wr (hrR m 80) = (hrR m 80) := wr_id (by omega) (by omega)
  have he2 : wr (k : Int) = (k : Int) := wr_id (by omega) (by omega)
  have he3 : wr (m 74 16) = (m 74 16) := wr_id (by omega) (by omega)
  have he4 : wr (n : Int) = (n : Int) := wr_id (by omega) (by omega)
  have he5 : (n : Int).toNat = n := by omega
  have he6 : wr (hrR (zu m 83 n (k : Int)) 80) = (hrR (zu m 83 n (k : Int)) 80) := wr_id (by omega) (by omega)
  have he7 : wr ((26 * (n : Int)) + (k : Int)) = ((26 * (n : Int)) + (k : Int)) := wr_id (by omega) (by omega)
  have he8 : ((26 * (n : Int)) + (k : Int)).toNat = 26 * n + k := by omega
  have key := @zb205_54r T hT D κ m n k lo hlo
  simp only [he0, he1, he2, he3, he4, he5, he6, he7, he8, Int.toNat_natCast] at key
  exact key
    (fun x0 => by omega)
    (fun x0 => hrd)
    (fun x0 => by refine ⟨?_, ?_⟩ <;> omega)
    (fun x0 => by refine ⟨?_, ?_⟩ <;> omega)
    (fun x0 => by refine ⟨?_, ?_⟩ <;> omega)
    (fun x0 x1 x2 x3 => by omega)
    (fun x0 x1 x2 x3 => by refine ⟨?_, ?_⟩ <;> omega)
    (fun x0 x1 x2 x3 x4 => by omega)
    (fun x0 x1 x2 x3 x4 => hrd)
    (fun x0 x1 x2 x3 x4 => by refine ⟨?_, ?_⟩ <;> omega)
    (fun x0 x1 x2 x3 x4 => by refine ⟨?_, ?_⟩ <;> omega)
    (fun x0 x1 x2 x3 x4 => by refine ⟨?_, ?_⟩ <;> omega)
    (fun x0 x1 x2 x3 x4 x5 => k1 x1 x2 x5 (zB_u (zB_u hB (show 0 ≤ (k : Int) ∧ (k : Int) ≤ 26 from ⟨by omega, by omega⟩)) (show 0 ≤ ((m 74 16) + 1) ∧ ((m 74 16) + 1) ≤ 100 from ⟨by omega, by omega⟩)))
    (fun x0 x1 x2 x3 x4 x5 => k2 x1 x2 x5 (zB_u hB (show 0 ≤ (k : Int) ∧ (k : Int) ≤ 26 from ⟨by omega, by omega⟩)))
    (fun x0 x1 x2 x3 => by omega)
    (fun x0 x1 x2 x3 x4 x5 => k3 x1 x2 (zB_u hB trivial))
    (fun x0 x1 x2 x3 x4 x5 => by omega)
    (fun x0 x1 x2 x3 x4 => by omega)
    (fun x0 x1 x2 x3 x4 => by omega)
    (fun x0 x1 x2 x3 x4 => by refine ⟨?_, ?_⟩ <;> omega)
    (fun x0 x1 x2 x3 x4 x5 => by omega)
    (fun x0 x1 x2 x3 x4 x5 => hrd)
    (fun x0 x1 x2 x3 x4 x5 => by refine ⟨?_, ?_⟩ <;> omega)
    (fun x0 x1 x2 x3 x4 x5 => by refine ⟨?_, ?_⟩ <;> omega)
    (fun x0 x1 x2 x3 x4 x5 => by refine ⟨?_, ?_⟩ <;> omega)
    (fun x0 x1 x2 x3 x4 x5 x6 => k4 x1 x2 x3 x6 (zB_u (zB_u hB (show 0 ≤ (k : Int) ∧ (k : Int) ≤ 26 from ⟨by omega, by omega⟩)) (show 0 ≤ ((m 74 16) + 1) ∧ ((m 74 16) + 1) ≤ 100 from ⟨by omega, by omega⟩)))
    (fun x0 x1 x2 x3 x4 x5 x6 => k5 x1 x2 x3 x6 (zB_u hB (show 0 ≤ (k : Int) ∧ (k : Int) ≤ 26 from ⟨by omega, by omega⟩)))
    (fun x0 x1 x2 x3 x4 => by omega)
    (fun x0 x1 x2 x3 x4 x5 x6 => k6 x1 x2 x3 (zB_u hB trivial))
    (fun x0 x1 x2 x3 x4 x5 x6 => by omega)
    (fun x0 x1 x2 x3 x4 x5 => by omega)
    (fun x0 x1 x2 x3 => hrd)
    (fun x0 x1 x2 x3 => by refine ⟨?_, ?_⟩ <;> omega)
    (fun x0 x1 x2 x3 => by refine ⟨?_, ?_⟩ <;> omega)
    (fun x0 x1 x2 x3 => by refine ⟨?_, ?_⟩ <;> omega)
    (fun x0 x1 x2 x3 => by refine ⟨?_, ?_⟩ <;> omega)
    (fun x0 x1 x2 x3 => k7 x1 x2 x3 (zB_u (zB_u hB (show 0 ≤ ((hrR m 80) - 48) ∧ ((hrR m 80) - 48) ≤ 9 from ⟨by omega, by omega⟩)) (show 0 ≤ ((m 74 16) + 1) ∧ ((m 74 16) + 1) ≤ 100 from ⟨by omega, by omega⟩)))
    (fun x0 x1 x2 x3 x4 => by omega)
    (fun x0 x1 x2 x3 x4 => k8 x1 x2 x3 (zB_u hB trivial))
theorem zb205_54fr (hT : zRules T) {D : Nat} {κ : Option zA → zM → Prop} {m : zM} {n : Nat} {k : Nat} {lo : zL} (hlo : z_keep [0, 1, 3] lo = [(0, zr 74), (1, zi (n : Int)), (3, zi (k : Int))]) 
    (o1 : ¬ wr (m 74 17) = (-1) → ¬ wr (k : Int) = 0 → ¬ wr (m 74 17) = (-1) → ¬ wr (m 74 17) = (-1) → T (D + 3) 205 (28, [(0, zr 74), (1, zi ((n : Int) + 1)), (2, zi 0)], [], m) κ)
    (o2 : ¬ wr (m 74 17) = (-1) → ¬ wr (k : Int) = 0 → ¬ wr (m 74 17) = (-1) → wr (m 74 17) = (-1) → False)
    (o3 : ¬ wr (m 74 17) = (-1) → ¬ wr (k : Int) = 0 → wr (m 74 17) = (-1) → False)
    (o4 : ¬ wr (m 74 17) = (-1) → wr (k : Int) = 0 → ¬ wr (m 74 17) = (-1) → ¬ wr (m 74 17) = (-1) → ¬ wr (m 74 17) = (-1) → T (D + 3) 205 (28, [(0, zr 74), (1, zi ((n : Int) + 1)), (2, zi 0)], [], m) κ)
    (o5 : ¬ wr (m 74 17) = (-1) → wr (k : Int) = 0 → ¬ wr (m 74 17) = (-1) → ¬ wr (m 74 17) = (-1) → wr (m 74 17) = (-1) → False)
    (o6 : ¬ wr (m 74 17) = (-1) → wr (k : Int) = 0 → ¬ wr (m 74 17) = (-1) → wr (m 74 17) = (-1) → False)
    (o7 : ¬ wr (m 74 17) = (-1) → wr (k : Int) = 0 → wr (m 74 17) = (-1) → False)
    (o8 : wr (m 74 17) = (-1) → False) :
    T (D + 3) 205 (54, lo, [], m) κ :=
  zkeep hT hlo (hT.1 [(28, [0, 1, 2]), (54, [0, 1, 3]), (205, [0, 1, 3]), (225, [0, 1, 3, 4])] 6 (D + 3) 205 _ κ (hT.1 [] 6 (D + 2) 199 _ _ (And.intro (fun a1 => (And.intro (z_b01L rfl) (hT.1 [(28, [0, 1, 2]), (54, [0, 1, 3]), (205, [0, 1, 3]), (225, [0, 1, 3, 4])] 6 (D + 3) 205 _ _ (And.intro (fun _ => (And.intro (fun a4 => (hT.1 [] 6 (D + 2) 199 _ _ (And.intro (fun a6 => (And.intro (z_b01L rfl) (hT.1 [(28, [0, 1, 2]), (54, [0, 1, 3]), (205, [0, 1, 3]), (225, [0, 1, 3, 4])] 6 (D + 3) 205 _ _ (And.intro (fun _ => (hT.1 [] 6 (D + 2) 201 _ _ (hT.1 [] 6 (D + 1) 199 _ _ (And.intro (fun a9 => (And.intro (z_b01L rfl) (hT.1 [] 6 (D + 2) 201 _ _ (And.intro (fun _ => (And.intro (z_b01L rfl) (hT.1 [(28, [0, 1, 2]), (54, [0, 1, 3]), (205, [0, 1, 3]), (225, [0, 1, 3, 4])] 6 (D + 3) 205 _ _ (o1 a1 a4 a6 a9)))) (fun a11 => (a11 (z_litT rfl)).elim))))) (fun a10 => (o2 a1 a4 a6 (Classical.byContradiction a10)).elim))))) (fun a8 => (a8 (z_litT rfl)).elim))))) (fun a7 => (o3 a1 a4 (Classical.byContradiction a7)).elim)))) (fun a5 => (hT.1 [(28, [0, 1, 2]), (54, [0, 1, 3]), (205, [0, 1, 3]), (225, [0, 1, 3, 4])] 6 (D + 3) 205 (135, [(0, zr 74), (1, zi (n : Int)), (3, zi (k : Int))], [zi (m 74 16), zr 74], m) _ (hT.1 [] 6 (D + 2) 200 _ _ (hT.1 [] 6 (D + 1) 199 _ _ (And.intro (fun a12 => (And.intro (z_b01L rfl) (hT.1 [] 6 (D + 2) 200 _ _ (And.intro (fun _ => (hT.1 [(28, [0, 1, 2]), (54, [0, 1, 3]), (205, [0, 1, 3]), (225, [0, 1, 3, 4])] 6 (D + 3) 205 _ _ (hT.1 [] 6 (D + 2) 199 _ _ (And.intro (fun a15 => (And.intro (z_b01L rfl) (hT.1 [(28, [0, 1, 2]), (54, [0, 1, 3]), (205, [0, 1, 3]), (225, [0, 1, 3, 4])] 6 (D + 3) 205 _ _ (And.intro (fun _ => (hT.1 [] 6 (D + 2) 201 _ _ (hT.1 [] 6 (D + 1) 199 _ _ (And.intro (fun a18 => (And.intro (z_b01L rfl) (hT.1 [] 6 (D + 2) 201 _ _ (And.intro (fun _ => (And.intro (z_b01L rfl) (hT.1 [(28, [0, 1, 2]), (54, [0, 1, 3]), (205, [0, 1, 3]), (225, [0, 1, 3, 4])] 6 (D + 3) 205 _ _ (o4 a1 (Classical.byContradiction a5) a12 a15 a18)))) (fun a20 => (a20 (z_litT rfl)).elim))))) (fun a19 => (o5 a1 (Classical.byContradiction a5) a12 a15 (Classical.byContradiction a19)).elim))))) (fun a17 => (a17 (z_litT rfl)).elim))))) (fun a16 => (o6 a1 (Classical.byContradiction a5) a12 (Classical.byContradiction a16)).elim))))) (fun a14 => (a14 (z_litT rfl)).elim))))) (fun a13 => (o7 a1 (Classical.byContradiction a5) (Classical.byContradiction a13)).elim)))))))) (fun a3 => (a3 (z_litT rfl)).elim))))) (fun a2 => (o8 (Classical.byContradiction a2)).elim))))
theorem zb205_54f (hT : zRules T) {D : Nat} {κ : Option zA → zM → Prop} {m : zM} {n : Nat} {k : Nat} {lo : zL} (hlo : z_keep [0, 1, 3] lo = [(0, zr 74), (1, zi (n : Int)), (3, zi (k : Int))])  (hB : zB m) (hrd : m 74 13 = 80) (h_n : n ≤ 4) (h_k : k ≤ 26) (hf0 : 0 ≤ m 74 17 ∧ m 74 17 ≤ 100) (hf1 : 0 ≤ m 74 16 ∧ m 74 16 ≤ 80) 
    (k1 : ¬ (k : Int) = 0 → T (D + 3) 205 (28, [(0, zr 74), (1, zi ((n : Int) + 1)), (2, zi 0)], [], m) κ)
    (k2 : (k : Int) = 0 → T (D + 3) 205 (28, [(0, zr 74), (1, zi ((n : Int) + 1)), (2, zi 0)], [], m) κ) :
    T (D + 3) 205 (54, lo, [], m) κ := by
  have he0 : wr (m 74 17) = (m 74 17) := wr_id (by omega) (by omega)
  have he1 : wr (k : Int) = (k : Int) := wr_id (by omega) (by omega)
  have key := @zb205_54fr T hT D κ m n k lo hlo
  simp only [he0, he1, Int.toNat_natCast] at key
  exact key
    (fun x0 x1 x2 x3 => k1 x1)
    (fun x0 x1 x2 x3 => by omega)
    (fun x0 x1 x2 => by omega)
    (fun x0 x1 x2 x3 x4 => k2 x1)
    (fun x0 x1 x2 x3 x4 => by omega)
    (fun x0 x1 x2 x3 => by omega)
    (fun x0 x1 x2 => by omega)
    (fun x0 => by omega)
theorem zb205_205r (hT : zRules T) {D : Nat} {κ : Option zA → zM → Prop} {m : zM} {n : Nat} {p : Nat} {lo : zL} (hlo : z_keep [0, 1, 3] lo = [(0, zr 74), (1, zi (n : Int)), (3, zi (p : Int))]) 
    (o1 : ¬ wr (p : Int) < wr (n : Int) → κ (some (zi (wr (n : Int)))) m)
    (o2 : wr (p : Int) < wr (n : Int) → (0 ≤ wr (p : Int) ∧ wr (p : Int) < 4))
    (o3 : wr (p : Int) < wr (n : Int) → (0 ≤ wr (p : Int) ∧ wr (p : Int) < 4))
    (o4 : wr (p : Int) < wr (n : Int) → T (D + 3) 205 (225, [(0, zr 74), (1, zi (n : Int)), (3, zi (p : Int)), (4, zi 0)], [], (zu m 77 ((wr (p : Int)).toNat) (m 83 ((wr (p : Int)).toNat)))) κ) :
    T (D + 3) 205 (205, lo, [], m) κ :=
  zkeep hT hlo (hT.1 [(28, [0, 1, 2]), (54, [0, 1, 3]), (205, [0, 1, 3]), (225, [0, 1, 3, 4])] 6 (D + 3) 205 _ κ (And.intro (fun a1 => (o1 a1)) (fun a2 => (hT.1 [(28, [0, 1, 2]), (54, [0, 1, 3]), (205, [0, 1, 3]), (225, [0, 1, 3, 4])] 6 (D + 3) 205 (215, [(0, zr 74), (1, zi (n : Int)), (3, zi (p : Int))], [zi (p : Int), zr 77], m) _ (And.intro (o2 (Classical.byContradiction a2)) (And.intro (And.intro (o3 (Classical.byContradiction a2)) trivial) (hT.1 [(28, [0, 1, 2]), (54, [0, 1, 3]), (205, [0, 1, 3]), (225, [0, 1, 3, 4])] 6 (D + 3) 205 (223, [(0, zr 74), (1, zi (n : Int)), (3, zi (p : Int))], [zi 0], (zu m 77 ((wr (p : Int)).toNat) (m 83 ((wr (p : Int)).toNat)))) _ (o4 (Classical.byContradiction a2)))))))))
theorem zb205_205 (hT : zRules T) {D : Nat} {κ : Option zA → zM → Prop} {m : zM} {n : Nat} {p : Nat} {lo : zL} (hlo : z_keep [0, 1, 3] lo = [(0, zr 74), (1, zi (n : Int)), (3, zi (p : Int))])  (hB : zB m) (h_n : n ≤ 4) (h_p : p ≤ 4) 
    (k1 : ¬ (p : Int) < (n : Int) → κ (some (zi (n : Int))) m)
    (k2 : (p : Int) < (n : Int) → zB (zu m 77 p (m 83 p)) → T (D + 3) 205 (225, [(0, zr 74), (1, zi (n : Int)), (3, zi (p : Int)), (4, zi 0)], [], (zu m 77 p (m 83 p))) κ) :
    T (D + 3) 205 (205, lo, [], m) κ := by
  have hb2 : 0 ≤ (m 83 p) ∧ (m 83 p) ≤ 26 := hB 83 p
  have he0 : wr (p : Int) = (p : Int) := wr_id (by omega) (by omega)
  have he1 : wr (n : Int) = (n : Int) := wr_id (by omega) (by omega)
  have he2 : (p : Int).toNat = p := by omega
  have key := @zb205_205r T hT D κ m n p lo hlo
  simp only [he0, he1, he2, Int.toNat_natCast] at key
  exact key
    k1
    (fun x0 => by refine ⟨?_, ?_⟩ <;> omega)
    (fun x0 => by refine ⟨?_, ?_⟩ <;> omega)
    (fun x0 => k2 x0 (zB_u hB (show 0 ≤ (m 83 p) ∧ (m 83 p) ≤ 26 from ⟨by omega, by omega⟩)))
theorem zb205_225r (hT : zRules T) {D : Nat} {κ : Option zA → zM → Prop} {m : zM} {n : Nat} {p : Nat} {k : Nat} {lo : zL} (hlo : z_keep [0, 1, 3, 4] lo = [(0, zr 74), (1, zi (n : Int)), (3, zi (p : Int)), (4, zi (k : Int))]) 
    (o1 : ¬ wr (k : Int) < 26 → T (D + 3) 205 (205, [(0, zr 74), (1, zi (n : Int)), (3, zi ((p : Int) + 1))], [], m) κ)
    (o2 : wr (k : Int) < 26 → (0 ≤ wr ((26 * (p : Int)) + (k : Int)) ∧ wr ((26 * (p : Int)) + (k : Int)) < 104))
    (o3 : wr (k : Int) < 26 → (0 ≤ wr ((26 * (p : Int)) + (k : Int)) ∧ wr ((26 * (p : Int)) + (k : Int)) < 104))
    (o4 : wr (k : Int) < 26 → T (D + 3) 205 (225, [(0, zr 74), (1, zi (n : Int)), (3, zi (p : Int)), (4, zi ((k : Int) + 1))], [], (zu m 76 ((wr ((26 * (p : Int)) + (k : Int))).toNat) (m 82 ((wr ((26 * (p : Int)) + (k : Int))).toNat)))) κ) :
    T (D + 3) 205 (225, lo, [], m) κ :=
  zkeep hT hlo (hT.1 [(28, [0, 1, 2]), (54, [0, 1, 3]), (205, [0, 1, 3]), (225, [0, 1, 3, 4])] 6 (D + 3) 205 _ κ (And.intro (fun a1 => (o1 a1)) (fun a2 => (hT.1 [(28, [0, 1, 2]), (54, [0, 1, 3]), (205, [0, 1, 3]), (225, [0, 1, 3, 4])] 6 (D + 3) 205 (238, [(0, zr 74), (1, zi (n : Int)), (3, zi (p : Int)), (4, zi (k : Int))], [zi 26, zr 76], m) _ (hT.1 [(28, [0, 1, 2]), (54, [0, 1, 3]), (205, [0, 1, 3]), (225, [0, 1, 3, 4])] 6 (D + 3) 205 (247, [(0, zr 74), (1, zi (n : Int)), (3, zi (p : Int)), (4, zi (k : Int))], [zr 82, zi ((26 * (p : Int)) + (k : Int)), zr 76], m) _ (And.intro (o2 (Classical.byContradiction a2)) (hT.1 [(28, [0, 1, 2]), (54, [0, 1, 3]), (205, [0, 1, 3]), (225, [0, 1, 3, 4])] 6 (D + 3) 205 (255, [(0, zr 74), (1, zi (n : Int)), (3, zi (p : Int)), (4, zi (k : Int))], [zi (m 82 ((wr ((26 * (p : Int)) + (k : Int))).toNat)), zi ((26 * (p : Int)) + (k : Int)), zr 76], m) _ (And.intro (And.intro (o3 (Classical.byContradiction a2)) trivial) (o4 (Classical.byContradiction a2))))))))))
theorem zb205_225 (hT : zRules T) {D : Nat} {κ : Option zA → zM → Prop} {m : zM} {n : Nat} {p : Nat} {k : Nat} {lo : zL} (hlo : z_keep [0, 1, 3, 4] lo = [(0, zr 74), (1, zi (n : Int)), (3, zi (p : Int)), (4, zi (k : Int))])  (hB : zB m) (h_n : n ≤ 4) (h_p : p ≤ 3) (h_k : k ≤ 26) 
    (k1 : ¬ (k : Int) < 26 → T (D + 3) 205 (205, [(0, zr 74), (1, zi (n : Int)), (3, zi ((p : Int) + 1))], [], m) κ)
    (k2 : (k : Int) < 26 → zB (zu m 76 (26 * p + k) (m 82 (26 * p + k))) → T (D + 3) 205 (225, [(0, zr 74), (1, zi (n : Int)), (3, zi (p : Int)), (4, zi ((k : Int) + 1))], [], (zu m 76 (26 * p + k) (m 82 (26 * p + k)))) κ) :
    T (D + 3) 205 (225, lo, [], m) κ := by
  have hb3 : 0 ≤ (m 82 (26 * p + k)) ∧ (m 82 (26 * p + k)) ≤ 9 := hB 82 (26 * p + k)
  have he0 : wr (k : Int) = (k : Int) := wr_id (by omega) (by omega)
  have he1 : wr ((26 * (p : Int)) + (k : Int)) = ((26 * (p : Int)) + (k : Int)) := wr_id (by omega) (by omega)
  have he2 : ((26 * (p : Int)) + (k : Int)).toNat = 26 * p + k := by omega
  have key := @zb205_225r T hT D κ m n p k lo hlo
  simp only [he0, he1, he2, Int.toNat_natCast] at key
  exact key
    k1
    (fun x0 => by refine ⟨?_, ?_⟩ <;> omega)
    (fun x0 => by refine ⟨?_, ?_⟩ <;> omega)
    (fun x0 => k2 x0 (zB_u hB (show 0 ≤ (m 82 (26 * p + k)) ∧ (m 82 (26 * p + k)) ≤ 9 from ⟨by omega, by omega⟩)))
end ZBlocks
