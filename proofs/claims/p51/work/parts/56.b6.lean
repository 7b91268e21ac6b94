section ZBlocks
variable {T : Nat → Nat → zG → (Option zA → zM → Prop) → Prop}
theorem zb72_0_2r (hT : zRules T) {D : Nat} {κ : Option zA → zM → Prop} {m : zM} 
    (o1 : ∀ j, zbd 3 j (m 3 j))
    (o2 : (0 ≤ (m 2 3) ∧ (m 2 3) ≤ 1000))
    (o3 : (0 ≤ (m 2 2) ∧ (m 2 2) ≤ 80))
    (o4 : wr (nxC m) < 48 → T (D + 3) 72 (10, [(0, zr 2), (1, zi 2), (2, zi (-1)), (3, zi 1)], [], m) κ)
    (o5 : ¬ wr (nxC m) < 48 → ¬ 57 < wr (nxC m) → T (D + 3) 72 (10, [(0, zr 2), (1, zi 2), (2, zi (wr ((nxC m) - 48))), (3, zi 1)], [], (zu m 2 3 ((m 2 3) + 1))) κ)
    (o6 : ¬ wr (nxC m) < 48 → 57 < wr (nxC m) → T (D + 3) 72 (10, [(0, zr 2), (1, zi 2), (2, zi (-1)), (3, zi 1)], [], m) κ) :
    T (D + 3) 72 (0, [(0, zr 2), (1, zi 2)], [], m) κ :=
  hT.1 [(10, [0, 1, 2, 3])] 6 (D + 3) 72 _ κ (hT.1 [] 6 (D + 2) 71 _ _ (z_next hT (o1) (o2) (o3) (hT.1 [] 6 (D + 2) 71 _ _ (And.intro (fun a1 => (hT.1 [] 6 (D + 2) 71 (21, [(0, zr 2), (1, zi 0), (2, zi 9), (3, zi (nxC m))], [], m) _ (hT.1 [(10, [0, 1, 2, 3])] 6 (D + 3) 72 _ _ (o4 a1)))) (fun a2 => (hT.1 [] 6 (D + 2) 71 (13, [(0, zr 2), (1, zi 0), (2, zi 9), (3, zi (nxC m))], [], m) _ (And.intro (fun a3 => (hT.1 [] 6 (D + 2) 71 (24, [(0, zr 2), (1, zi 0), (2, zi 9), (3, zi (nxC m))], [zr 2], m) _ (And.intro trivial (hT.1 [] 6 (D + 2) 71 (34, [(0, zr 2), (1, zi 0), (2, zi 9), (3, zi (nxC m))], [zi (nxC m)], (zu m 2 3 ((m 2 3) + 1))) _ (hT.1 [(10, [0, 1, 2, 3])] 6 (D + 3) 72 _ _ (o5 a2 a3)))))) (fun a4 => (hT.1 [] 6 (D + 2) 71 (22, [(0, zr 2), (1, zi 0), (2, zi 9), (3, zi (nxC m))], [zi (-1)], m) _ (hT.1 [(10, [0, 1, 2, 3])] 6 (D + 3) 72 _ _ (o6 a2 (Classical.byContradiction a4))))))))))))
theorem zb72_0_2 (hT : zRules T) {D : Nat} {κ : Option zA → zM → Prop} {m : zM}  (hB : zB m) (hf0 : 0 ≤ m 2 3 ∧ m 2 3 ≤ 90) 
    (k1 : (nxC m) < 48 → T (D + 3) 72 (10, [(0, zr 2), (1, zi 2), (2, zi (-1)), (3, zi 1)], [], m) κ)
    (k2 : ¬ (nxC m) < 48 → ¬ 57 < (nxC m) → zB (zu m 2 3 ((m 2 3) + 1)) → T (D + 3) 72 (10, [(0, zr 2), (1, zi 2), (2, zi ((nxC m) - 48)), (3, zi 1)], [], (zu m 2 3 ((m 2 3) + 1))) κ)
    (k3 : ¬ (nxC m) < 48 → 57 < (nxC m) → T (D + 3) 72 (10, [(0, zr 2), (1, zi 2), (2, zi (-1)), (3, zi 1)], [], m) κ) :
    T (D + 3) 72 (0, [(0, zr 2), (1, zi 2)], [], m) κ := by
  have hb1 : 0 ≤ (m 2 2) ∧ (m 2 2) ≤ 80 := hB 2 2
  have hb2 : (-1) ≤ (nxC m) ∧ (nxC m) ≤ 65535 := nxCBo m (fun j => hB 3 j)
  have he0 : wr (nxC m) = (nxC m) := wr_id (by omega) (by omega)
  have he1 : wr ((nxC m) - 48) = ((nxC m) - 48) := wr_id (by omega) (by omega)
  have key := @zb72_0_2r T hT D κ m 
  simp only [he0, he1, Int.toNat_natCast] at key
  exact key
    (fun j => hB 3 j)
    (by refine ⟨?_, ?_⟩ <;> omega)
    (by refine ⟨?_, ?_⟩ <;> omega)
    k1
    (fun x0 x1 => k2 x0 x1 (zB_u hB (show (-1) ≤ ((m 2 3) + 1) ∧ ((m 2 3) + 1) ≤ 100 from ⟨by omega, by omega⟩)))
    k3
theorem zb72_10_2r (hT : zRules T) {D : Nat} {κ : Option zA → zM → Prop} {m : zM} {v : Int} {k : Nat} {lo : zL} (hlo : z_keep [0, 1, 2, 3] lo = [(0, zr 2), (1, zi 2), (2, zi v), (3, zi (k : Int))]) 
    (o1 : ¬ wr (k : Int) < 2 → κ (some (zi (wr v))) m)
    (o2 : wr (k : Int) < 2 → wr v = (-1) → κ (some (zi (wr v))) m)
    (o3 : wr (k : Int) < 2 → ¬ wr v = (-1) → ∀ j, zbd 3 j (m 3 j))
    (o4 : wr (k : Int) < 2 → ¬ wr v = (-1) → (0 ≤ (m 2 3) ∧ (m 2 3) ≤ 1000))
    (o5 : wr (k : Int) < 2 → ¬ wr v = (-1) → (0 ≤ (m 2 2) ∧ (m 2 2) ≤ 80))
    (o6 : wr (k : Int) < 2 → ¬ wr v = (-1) → wr (nxC m) < 48 → κ (some (zi (wr v))) m)
    (o7 : wr (k : Int) < 2 → ¬ wr v = (-1) → ¬ wr (nxC m) < 48 → ¬ 57 < wr (nxC m) → ¬ wr (wr ((nxC m) - 48)) = (-1) → T (D + 3) 72 (10, [(0, zr 2), (1, zi 2), (2, zi ((v * 10) + wr ((nxC m) - 48))), (3, zi ((k : Int) + 1))], [], (zu m 2 3 ((m 2 3) + 1))) κ)
    (o8 : wr (k : Int) < 2 → ¬ wr v = (-1) → ¬ wr (nxC m) < 48 → ¬ 57 < wr (nxC m) → wr (wr ((nxC m) - 48)) = (-1) → False)
    (o9 : wr (k : Int) < 2 → ¬ wr v = (-1) → ¬ wr (nxC m) < 48 → 57 < wr (nxC m) → κ (some (zi (wr v))) m) :
    T (D + 3) 72 (10, lo, [], m) κ :=
  zkeep hT hlo (hT.1 [(10, [0, 1, 2, 3])] 6 (D + 3) 72 _ κ (And.intro (fun a1 => (o1 a1)) (fun a2 => (And.intro (fun a3 => (hT.1 [(10, [0, 1, 2, 3])] 6 (D + 3) 72 (51, [(0, zr 2), (1, zi 2), (2, zi v), (3, zi (k : Int))], [], m) _ (o2 (Classical.byContradiction a2) a3))) (fun a4 => (hT.1 [(10, [0, 1, 2, 3])] 6 (D + 3) 72 (20, [(0, zr 2), (1, zi 2), (2, zi v), (3, zi (k : Int))], [], m) _ (hT.1 [] 6 (D + 2) 71 _ _ (z_next hT (o3 (Classical.byContradiction a2) a4) (o4 (Classical.byContradiction a2) a4) (o5 (Classical.byContradiction a2) a4) (hT.1 [] 6 (D + 2) 71 _ _ (And.intro (fun a5 => (hT.1 [] 6 (D + 2) 71 (21, [(0, zr 2), (1, zi 0), (2, zi 9), (3, zi (nxC m))], [], m) _ (hT.1 [(10, [0, 1, 2, 3])] 6 (D + 3) 72 _ _ (And.intro (fun a7 => (z_litF a7 rfl).elim) (fun _ => (o6 (Classical.byContradiction a2) a4 a5)))))) (fun a6 => (hT.1 [] 6 (D + 2) 71 (13, [(0, zr 2), (1, zi 0), (2, zi 9), (3, zi (nxC m))], [], m) _ (And.intro (fun a8 => (hT.1 [] 6 (D + 2) 71 (24, [(0, zr 2), (1, zi 0), (2, zi 9), (3, zi (nxC m))], [zr 2], m) _ (And.intro trivial (hT.1 [] 6 (D + 2) 71 (34, [(0, zr 2), (1, zi 0), (2, zi 9), (3, zi (nxC m))], [zi (nxC m)], (zu m 2 3 ((m 2 3) + 1))) _ (hT.1 [(10, [0, 1, 2, 3])] 6 (D + 3) 72 _ _ (And.intro (fun a10 => (hT.1 [(10, [0, 1, 2, 3])] 6 (D + 3) 72 (40, [(0, zr 2), (1, zi 2), (2, zi v), (3, zi (k : Int)), (4, zi (wr ((nxC m) - 48)))], [zi 10, zi v], (zu m 2 3 ((m 2 3) + 1))) _ (o7 (Classical.byContradiction a2) a4 a6 a8 a10))) (fun a11 => (o8 (Classical.byContradiction a2) a4 a6 a8 (Classical.byContradiction a11)).elim))))))) (fun a9 => (hT.1 [] 6 (D + 2) 71 (22, [(0, zr 2), (1, zi 0), (2, zi 9), (3, zi (nxC m))], [zi (-1)], m) _ (hT.1 [(10, [0, 1, 2, 3])] 6 (D + 3) 72 _ _ (And.intro (fun a12 => (z_litF a12 rfl).elim) (fun _ => (o9 (Classical.byContradiction a2) a4 a6 (Classical.byContradiction a9))))))))))))))))))))
theorem zb72_10_2 (hT : zRules T) {D : Nat} {κ : Option zA → zM → Prop} {m : zM} {v : Int} {k : Nat} {lo : zL} (hlo : z_keep [0, 1, 2, 3] lo = [(0, zr 2), (1, zi 2), (2, zi v), (3, zi (k : Int))])  (hB : zB m) (h_v : (-1) ≤ v ∧ v ≤ 1000) (h_k : k ≤ 3) (hf0 : 0 ≤ m 2 3 ∧ m 2 3 ≤ 90) 
    (k1 : ¬ (k : Int) < 2 → κ (some (zi v)) m)
    (k2 : (k : Int) < 2 → v = (-1) → κ (some (zi v)) m)
    (k3 : (k : Int) < 2 → ¬ v = (-1) → (nxC m) < 48 → κ (some (zi v)) m)
    (k4 : (k : Int) < 2 → ¬ v = (-1) → ¬ (nxC m) < 48 → ¬ 57 < (nxC m) → zB (zu m 2 3 ((m 2 3) + 1)) → T (D + 3) 72 (10, [(0, zr 2), (1, zi 2), (2, zi ((v * 10) + ((nxC m) - 48))), (3, zi ((k : Int) + 1))], [], (zu m 2 3 ((m 2 3) + 1))) κ)
    (k5 : (k : Int) < 2 → ¬ v = (-1) → ¬ (nxC m) < 48 → 57 < (nxC m) → κ (some (zi v)) m) :
    T (D + 3) 72 (10, lo, [], m) κ := by
  have hb3 : 0 ≤ (m 2 2) ∧ (m 2 2) ≤ 80 := hB 2 2
  have hb4 : (-1) ≤ (nxC m) ∧ (nxC m) ≤ 65535 := nxCBo m (fun j => hB 3 j)
  have he0 : wr (k : Int) = (k : Int) := wr_id (by omega) (by omega)
  have he1 : wr v = v := wr_id (by omega) (by omega)
  have he2 : wr (nxC m) = (nxC m) := wr_id (by omega) (by omega)
  have he3 : wr ((nxC m) - 48) = ((nxC m) - 48) := wr_id (by omega) (by omega)
  have key := @zb72_10_2r T hT D κ m v k lo hlo
  simp only [he0, he1, he2, he3, Int.toNat_natCast] at key
  exact key
    k1
    k2
    (fun x0 x1 => fun j => hB 3 j)
    (fun x0 x1 => by refine ⟨?_, ?_⟩ <;> omega)
    (fun x0 x1 => by refine ⟨?_, ?_⟩ <;> omega)
    k3
    (fun x0 x1 x2 x3 x4 => k4 x0 x1 x2 x3 (zB_u hB (show (-1) ≤ ((m 2 3) + 1) ∧ ((m 2 3) + 1) ≤ 100 from ⟨by omega, by omega⟩)))
    (fun x0 x1 x2 x3 x4 => by omega)
    k5
theorem zb72_0_3r (hT : zRules T) {D : Nat} {κ : Option zA → zM → Prop} {m : zM} 
    (o1 : ∀ j, zbd 3 j (m 3 j))
    (o2 : (0 ≤ (m 2 3) ∧ (m 2 3) ≤ 1000))
    (o3 : (0 ≤ (m 2 2) ∧ (m 2 2) ≤ 80))
    (o4 : wr (nxC m) < 48 → T (D + 3) 72 (10, [(0, zr 2), (1, zi 3), (2, zi (-1)), (3, zi 1)], [], m) κ)
    (o5 : ¬ wr (nxC m) < 48 → ¬ 57 < wr (nxC m) → T (D + 3) 72 (10, [(0, zr 2), (1, zi 3), (2, zi (wr ((nxC m) - 48))), (3, zi 1)], [], (zu m 2 3 ((m 2 3) + 1))) κ)
    (o6 : ¬ wr (nxC m) < 48 → 57 < wr (nxC m) → T (D + 3) 72 (10, [(0, zr 2), (1, zi 3), (2, zi (-1)), (3, zi 1)], [], m) κ) :
    T (D + 3) 72 (0, [(0, zr 2), (1, zi 3)], [], m) κ :=
  hT.1 [(10, [0, 1, 2, 3])] 6 (D + 3) 72 _ κ (hT.1 [] 6 (D + 2) 71 _ _ (z_next hT (o1) (o2) (o3) (hT.1 [] 6 (D + 2) 71 _ _ (And.intro (fun a1 => (hT.1 [] 6 (D + 2) 71 (21, [(0, zr 2), (1, zi 0), (2, zi 9), (3, zi (nxC m))], [], m) _ (hT.1 [(10, [0, 1, 2, 3])] 6 (D + 3) 72 _ _ (o4 a1)))) (fun a2 => (hT.1 [] 6 (D + 2) 71 (13, [(0, zr 2), (1, zi 0), (2, zi 9), (3, zi (nxC m))], [], m) _ (And.intro (fun a3 => (hT.1 [] 6 (D + 2) 71 (24, [(0, zr 2), (1, zi 0), (2, zi 9), (3, zi (nxC m))], [zr 2], m) _ (And.intro trivial (hT.1 [] 6 (D + 2) 71 (34, [(0, zr 2), (1, zi 0), (2, zi 9), (3, zi (nxC m))], [zi (nxC m)], (zu m 2 3 ((m 2 3) + 1))) _ (hT.1 [(10, [0, 1, 2, 3])] 6 (D + 3) 72 _ _ (o5 a2 a3)))))) (fun a4 => (hT.1 [] 6 (D + 2) 71 (22, [(0, zr 2), (1, zi 0), (2, zi 9), (3, zi (nxC m))], [zi (-1)], m) _ (hT.1 [(10, [0, 1, 2, 3])] 6 (D + 3) 72 _ _ (o6 a2 (Classical.byContradiction a4))))))))))))
theorem zb72_0_3 (hT : zRules T) {D : Nat} {κ : Option zA → zM → Prop} {m : zM}  (hB : zB m) (hf0 : 0 ≤ m 2 3 ∧ m 2 3 ≤ 90) 
    (k1 : (nxC m) < 48 → T (D + 3) 72 (10, [(0, zr 2), (1, zi 3), (2, zi (-1)), (3, zi 1)], [], m) κ)
    (k2 : ¬ (nxC m) < 48 → ¬ 57 < (nxC m) → zB (zu m 2 3 ((m 2 3) + 1)) → T (D + 3) 72 (10, [(0, zr 2), (1, zi 3), (2, zi ((nxC m) - 48)), (3, zi 1)], [], (zu m 2 3 ((m 2 3) + 1))) κ)
    (k3 : ¬ (nxC m) < 48 → 57 < (nxC m) → T (D + 3) 72 (10, [(0, zr 2), (1, zi 3), (2, zi (-1)), (3, zi 1)], [], m) κ) :
    T (D + 3) 72 (0, [(0, zr 2), (1, zi 3)], [], m) κ := by
  have hb1 : 0 ≤ (m 2 2) ∧ (m 2 2) ≤ 80 := hB 2 2
  have hb2 : (-1) ≤ (nxC m) ∧ (nxC m) ≤ 65535 := nxCBo m (fun j => hB 3 j)
  have he0 : wr (nxC m) = (nxC m) := wr_id (by omega) (by omega)
  have he1 : wr ((nxC m) - 48) = ((nxC m) - 48) := wr_id (by omega) (by omega)
  have key := @zb72_0_3r T hT D κ m 
  simp only [he0, he1, Int.toNat_natCast] at key
  exact key
    (fun j => hB 3 j)
    (by refine ⟨?_, ?_⟩ <;> omega)
    (by refine ⟨?_, ?_⟩ <;> omega)
    k1
    (fun x0 x1 => k2 x0 x1 (zB_u hB (show (-1) ≤ ((m 2 3) + 1) ∧ ((m 2 3) + 1) ≤ 100 from ⟨by omega, by omega⟩)))
    k3
theorem zb72_10_3r (hT : zRules T) {D : Nat} {κ : Option zA → zM → Prop} {m : zM} {v : Int} {k : Nat} {lo : zL} (hlo : z_keep [0, 1, 2, 3] lo = [(0, zr 2), (1, zi 3), (2, zi v), (3, zi (k : Int))]) 
    (o1 : ¬ wr (k : Int) < 3 → κ (some (zi (wr v))) m)
    (o2 : wr (k : Int) < 3 → wr v = (-1) → κ (some (zi (wr v))) m)
    (o3 : wr (k : Int) < 3 → ¬ wr v = (-1) → ∀ j, zbd 3 j (m 3 j))
    (o4 : wr (k : Int) < 3 → ¬ wr v = (-1) → (0 ≤ (m 2 3) ∧ (m 2 3) ≤ 1000))
    (o5 : wr (k : Int) < 3 → ¬ wr v = (-1) → (0 ≤ (m 2 2) ∧ (m 2 2) ≤ 80))
    (o6 : wr (k : Int) < 3 → ¬ wr v = (-1) → wr (nxC m) < 48 → κ (some (zi (wr v))) m)
    (o7 : wr (k : Int) < 3 → ¬ wr v = (-1) → ¬ wr (nxC m) < 48 → ¬ 57 < wr (nxC m) → ¬ wr (wr ((nxC m) - 48)) = (-1) → T (D + 3) 72 (10, [(0, zr 2), (1, zi 3), (2, zi ((v * 10) + wr ((nxC m) - 48))), (3, zi ((k : Int) + 1))], [], (zu m 2 3 ((m 2 3) + 1))) κ)
    (o8 : wr (k : Int) < 3 → ¬ wr v = (-1) → ¬ wr (nxC m) < 48 → ¬ 57 < wr (nxC m) → wr (wr ((nxC m) - 48)) = (-1) → False)
    (o9 : wr (k : Int) < 3 → ¬ wr v = (-1) → ¬ wr (nxC m) < 48 → 57 < wr (nxC m) → κ (some (zi (wr v))) m) :
    T (D + 3) 72 (10, lo, [], m) κ :=
  zkeep hT hlo (hT.1 [(10, [0, 1, 2, 3])] 6 (D + 3) 72 _ κ (And.intro (fun a1 => (o1 a1)) (fun a2 => (And.intro (fun a3 => (hT.1 [(10, [0, 1, 2, 3])] 6 (D + 3) 72 (51, [(0, zr 2), (1, zi 3), (2, zi v), (3, zi (k : Int))], [], m) _ (o2 (Classical.byContradiction a2) a3))) (fun a4 => (hT.1 [(10, [0, 1, 2, 3])] 6 (D + 3) 72 (20, [(0, zr 2), (1, zi 3), (2, zi v), (3, zi (k : Int))], [], m) _ (hT.1 [] 6 (D + 2) 71 _ _ (z_next hT (o3 (Classical.byContradiction a2) a4) (o4 (Classical.byContradiction a2) a4) (o5 (Classical.byContradiction a2) a4) (hT.1 [] 6 (D + 2) 71 _ _ (And.intro (fun a5 => (hT.1 [] 6 (D + 2) 71 (21, [(0, zr 2), (1, zi 0), (2, zi 9), (3, zi (nxC m))], [], m) _ (hT.1 [(10, [0, 1, 2, 3])] 6 (D + 3) 72 _ _ (And.intro (fun a7 => (z_litF a7 rfl).elim) (fun _ => (o6 (Classical.byContradiction a2) a4 a5)))))) (fun a6 => (hT.1 [] 6 (D + 2) 71 (13, [(0, zr 2), (1, zi 0), (2, zi 9), (3, zi (nxC m))], [], m) _ (And.intro (fun a8 => (hT.1 [] 6 (D + 2) 71 (24, [(0, zr 2), (1, zi 0), (2, zi 9), (3, zi (nxC m))], [zr 2], m) _ (And.intro trivial (hT.1 [] 6 (D + 2) 71 (34, [(0, zr 2), (1, zi 0), (2, zi 9), (3, zi (nxC m))], [zi (nxC m)], (zu m 2 3 ((m 2 3) + 1))) _ (hT.1 [(10, [0, 1, 2, 3])] 6 (D + 3) 72 _ _ (And.intro (fun a10 => (hT.1 [(10, [0, 1, 2, 3])] 6 (D + 3) 72 (40, [(0, zr 2), (1, zi 3), (2, zi v), (3, zi (k : Int)), (4, zi (wr ((nxC m) - 48)))], [zi 10, zi v], (zu m 2 3 ((m 2 3) + 1))) _ (o7 (Classical.byContradiction a2) a4 a6 a8 a10))) (fun a11 => (o8 (Classical.byContradiction a2) a4 a6 a8 (Classical.byContradiction a11)).elim))))))) (fun a9 => (hT.1 [] 6 (D + 2) 71 (22, [(0, zr 2), (1, zi 0), (2, zi 9), (3, zi (nxC m))], [zi (-1)], m) _ (hT.1 [(10, [0, 1, 2, 3])] 6 (D + 3) 72 _ _ (And.intro (fun a12 => (z_litF a12 rfl).elim) (fun _ => (o9 (Classical.byContradiction a2) a4 a6 (Classical.byContradiction a9))))))))))))))))))))
theorem zb72_10_3 (hT : zRules T) {D : Nat} {κ : Option zA → zM → Prop} {m : zM} {v : Int} {k : Nat} {lo : zL} (hlo : z_keep [0, 1, 2, 3] lo = [(0, zr 2), (1, zi 3), (2, zi v), (3, zi (k : Int))])  (hB : zB m) (h_v : (-1) ≤ v ∧ v ≤ 1000) (h_k : k ≤ 3) (hf0 : 0 ≤ m 2 3 ∧ m 2 3 ≤ 90) 
    (k1 : ¬ (k : Int) < 3 → κ (some (zi v)) m)
    (k2 : (k : Int) < 3 → v = (-1) → κ (some (zi v)) m)
    (k3 : (k : Int) < 3 → ¬ v = (-1) → (nxC m) < 48 → κ (some (zi v)) m)
    (k4 : (k : Int) < 3 → ¬ v = (-1) → ¬ (nxC m) < 48 → ¬ 57 < (nxC m) → zB (zu m 2 3 ((m 2 3) + 1)) → T (D + 3) 72 (10, [(0, zr 2), (1, zi 3), (2, zi ((v * 10) + ((nxC m) - 48))), (3, zi ((k : Int) + 1))], [], (zu m 2 3 ((m 2 3) + 1))) κ)
    (k5 : (k : Int) < 3 → ¬ v = (-1) → ¬ (nxC m) < 48 → 57 < (nxC m) → κ (some (zi v)) m) :
    T (D + 3) 72 (10, lo, [], m) κ := by
  have hb3 : 0 ≤ (m 2 2) ∧ (m 2 2) ≤ 80 := hB 2 2
  have hb4 : (-1) ≤ (nxC m) ∧ (nxC m) ≤ 65535 := nxCBo m (fun j => hB 3 j)
  have he0 : wr (k : Int) = (k : Int) := wr_id (by omega) (by omega)
  have he1 : wr v = v := wr_id (by omega) (by omega)
  have he2 : wr (nxC m) = (nxC m) := wr_id (by omega) (by omega)
  have he3 : wr ((nxC m) - 48) = ((nxC m) - 48) := wr_id (by omega) (by omega)
  have key := @zb72_10_3r T hT D κ m v k lo hlo
  simp only [he0, he1, he2, he3, Int.toNat_natCast] at key
  exact key
    k1
    k2
    (fun x0 x1 => fun j => hB 3 j)
    (fun x0 x1 => by refine ⟨?_, ?_⟩ <;> omega)
    (fun x0 x1 => by refine ⟨?_, ?_⟩ <;> omega)
    k3
    (fun x0 x1 x2 x3 x4 => k4 x0 x1 x2 x3 (zB_u hB (show (-1) ≤ ((m 2 3) + 1) ∧ ((m 2 3) + 1) ≤ 100 from ⟨by omega, by omega⟩)))
    (fun x0 x1 x2 x3 x4 => by omega)
    k5
theorem zb52_0r (hT : zRules T) {D : Nat} {κ : Option zA → zM → Prop} {m : zM} {d : Nat} 
    (o1 : T (D + 2) 53 (0, [(0, zr 9), (1, zr 2), (2, zi (d : Int))], [], m) (fun r m1 => T (D + 3) 52 (6, [(0, zr 9), (1, zr 2), (2, zi (d : Int))], r.toList ++ [], m1) κ)) :
    T (D + 3) 52 (0, [(0, zr 9), (1, zr 2), (2, zi (d : Int))], [], m) κ :=
  hT.1 [] 6 (D + 3) 52 _ κ (o1)
theorem zb52_0 (hT : zRules T) {D : Nat} {κ : Option zA → zM → Prop} {m : zM} {d : Nat}  (hB : zB m) (h_d : d ≤ 4) (hf0 : 0 ≤ m 2 3 ∧ m 2 3 ≤ 90) 
    (k1 : T (D + 2) 53 (0, [(0, zr 9), (1, zr 2), (2, zi (d : Int))], [], m) (fun r m1 => T (D + 3) 52 (6, [(0, zr 9), (1, zr 2), (2, zi (d : Int))], r.toList ++ [], m1) κ)) :
    T (D + 3) 52 (0, [(0, zr 9), (1, zr 2), (2, zi (d : Int))], [], m) κ := by
  exact zb52_0r hT
    k1
theorem zb52_6r (hT : zRules T) {D : Nat} {κ : Option zA → zM → Prop} {m : zM} {d : Nat} {v : Int} {lo : zL} (hlo : z_keep [0, 1, 2] lo = [(0, zr 9), (1, zr 2), (2, zi (d : Int))]) 
    (o1 : ∀ j, zbd 3 j (m 3 j))
    (o2 : (0 ≤ (m 2 3) ∧ (m 2 3) ≤ 1000))
    (o3 : (0 ≤ (m 2 2) ∧ (m 2 2) ≤ 80))
    (o4 : wr v = (-1) → κ (some (zi (wr v))) m)
    (o5 : ¬ wr v = (-1) → wr (nxC m) = 60 → T (D + 2) 53 (0, [(0, zr 9), (1, zr 2), (2, zi (d : Int))], [], (zu m 2 3 ((m 2 3) + 1))) (fun r m1 => T (D + 3) 52 (57, [(0, zr 9), (1, zr 2), (2, zi (d : Int)), (3, zi v), (4, zi (nxC m))], r.toList ++ [], m1) κ))
    (o6 : ¬ wr v = (-1) → ¬ wr (nxC m) = 60 → wr (nxC m) = 62 → T (D + 2) 53 (0, [(0, zr 9), (1, zr 2), (2, zi (d : Int))], [], (zu m 2 3 ((m 2 3) + 1))) (fun r m1 => T (D + 3) 52 (57, [(0, zr 9), (1, zr 2), (2, zi (d : Int)), (3, zi v), (4, zi (nxC m))], r.toList ++ [], m1) κ))
    (o7 : ¬ wr v = (-1) → ¬ wr (nxC m) = 60 → ¬ wr (nxC m) = 62 → wr (nxC m) = 61 → T (D + 2) 53 (0, [(0, zr 9), (1, zr 2), (2, zi (d : Int))], [], (zu m 2 3 ((m 2 3) + 1))) (fun r m1 => T (D + 3) 52 (57, [(0, zr 9), (1, zr 2), (2, zi (d : Int)), (3, zi v), (4, zi (nxC m))], r.toList ++ [], m1) κ))
    (o8 : ¬ wr v = (-1) → ¬ wr (nxC m) = 60 → ¬ wr (nxC m) = 62 → ¬ wr (nxC m) = 61 → κ (some (zi (wr v))) m) :
    T (D + 3) 52 (6, lo, [zi v], m) κ :=
  zkeep hT hlo (hT.1 [] 6 (D + 3) 52 _ κ (z_next hT (o1) (o2) (o3) (hT.1 [] 6 (D + 3) 52 _ _ (And.intro (fun a1 => (o4 a1)) (fun a2 => (hT.1 [] 6 (D + 3) 52 (22, [(0, zr 9), (1, zr 2), (2, zi (d : Int)), (3, zi v), (4, zi (nxC m))], [zi 60, zi (nxC m)], m) _ (And.intro (fun a3 => (hT.1 [] 6 (D + 3) 52 (48, [(0, zr 9), (1, zr 2), (2, zi (d : Int)), (3, zi v), (4, zi (nxC m))], [zi ((m 2 3) + 1), zr 2], m) _ (And.intro trivial (o5 a2 a3)))) (fun a4 => (And.intro (fun a5 => (hT.1 [] 6 (D + 3) 52 (43, [(0, zr 9), (1, zr 2), (2, zi (d : Int)), (3, zi v), (4, zi (nxC m))], [zr 2, zr 2], m) _ (And.intro trivial (hT.1 [] 6 (D + 3) 52 (53, [(0, zr 9), (1, zr 2), (2, zi (d : Int)), (3, zi v), (4, zi (nxC m))], [zr 2, zr 9], (zu m 2 3 ((m 2 3) + 1))) _ (o6 a2 a4 a5))))) (fun a6 => (hT.1 [] 6 (D + 3) 52 (36, [(0, zr 9), (1, zr 2), (2, zi (d : Int)), (3, zi v), (4, zi (nxC m))], [zi 61, zi (nxC m)], m) _ (And.intro (fun a7 => (hT.1 [] 6 (D + 3) 52 (48, [(0, zr 9), (1, zr 2), (2, zi (d : Int)), (3, zi v), (4, zi (nxC m))], [zi ((m 2 3) + 1), zr 2], m) _ (And.intro trivial (o7 a2 a4 a6 a7)))) (fun a8 => (o8 a2 a4 a6 a8))))))))))))))
theorem zb52_6 (hT : zRules T) {D : Nat} {κ : Option zA → zM → Prop} {m : zM} {d : Nat} {v : Int} {lo : zL} (hlo : z_keep [0, 1, 2] lo = [(0, zr 9), (1, zr 2), (2, zi (d : Int))])  (hB : zB m) (h_d : d ≤ 4) (h_v : (-1) ≤ v ∧ v ≤ 39) (hf0 : 0 ≤ m 2 3 ∧ m 2 3 ≤ 90) 
    (k1 : v = (-1) → κ (some (zi v)) m)
    (k2 : ¬ v = (-1) → (nxC m) = 60 → zB (zu m 2 3 ((m 2 3) + 1)) → T (D + 2) 53 (0, [(0, zr 9), (1, zr 2), (2, zi (d : Int))], [], (zu m 2 3 ((m 2 3) + 1))) (fun r m1 => T (D + 3) 52 (57, [(0, zr 9), (1, zr 2), (2, zi (d : Int)), (3, zi v), (4, zi (nxC m))], r.toList ++ [], m1) κ))
    (k3 : ¬ v = (-1) → ¬ (nxC m) = 60 → (nxC m) = 62 → zB (zu m 2 3 ((m 2 3) + 1)) → T (D + 2) 53 (0, [(0, zr 9), (1, zr 2), (2, zi (d : Int))], [], (zu m 2 3 ((m 2 3) + 1))) (fun r m1 => T (D + 3) 52 (57, [(0, zr 9), (1, zr 2), (2, zi (d : Int)), (3, zi v), (4, zi (nxC m))], r.toList ++ [], m1) κ))
    (k4 : ¬ v = (-1) → ¬ (nxC m) = 60 → ¬ (nxC m) = 62 → (nxC m) = 61 → zB (zu m 2 3 ((m 2 3) + 1)) → T (D + 2) 53 (0, [(0, zr 9), (1, zr 2), (2, zi (d : Int))], [], (zu m 2 3 ((m 2 3) + 1))) (fun r m1 => T (D + 3) 52 (57, [(0, zr 9), (1, zr 2), (2, zi (d : Int)), (3, zi v), (4, zi (nxC m))], r.toList ++ [], m1) κ))
    (k5 : ¬ v = (-1) → ¬ (nxC m) = 60 → ¬ (nxC m) = 62 → ¬ (nxC m) = 61 → κ (some (zi v)) m) :
    T (D + 3) 52 (6, lo, [zi v], m) κ := by
  have hb3 : 0 ≤ (m 2 2) ∧ (m 2 2) ≤ 80 := hB 2 2
  have hb4 : (-1) ≤ (nxC m) ∧ (nxC m) ≤ 65535 := nxCBo m (fun j => hB 3 j)
  have he0 : wr v = v := wr_id (by omega) (by omega)
  have he1 : wr (nxC m) = (nxC m) := wr_id (by omega) (by omega)
  have key := @zb52_6r T hT D κ m d v lo hlo
  simp only [he0, he1, Int.toNat_natCast] at key
  exact key
    (fun j => hB 3 j)
    (by refine ⟨?_, ?_⟩ <;> omega)
    (by refine ⟨?_, ?_⟩ <;> omega)
    k1
    (fun x0 x1 => k2 x0 x1 (zB_u hB (show (-1) ≤ ((m 2 3) + 1) ∧ ((m 2 3) + 1) ≤ 100 from ⟨by omega, by omega⟩)))
    (fun x0 x1 x2 => k3 x0 x1 x2 (zB_u hB (show (-1) ≤ ((m 2 3) + 1) ∧ ((m 2 3) + 1) ≤ 100 from ⟨by omega, by omega⟩)))
    (fun x0 x1 x2 x3 => k4 x0 x1 x2 x3 (zB_u hB (show (-1) ≤ ((m 2 3) + 1) ∧ ((m 2 3) + 1) ≤ 100 from ⟨by omega, by omega⟩)))
    k5
theorem zb52_57r (hT : zRules T) {D : Nat} {κ : Option zA → zM → Prop} {m : zM} {v : Int} {sg : Int} {w : Int} {lo : zL} (hlo : z_keep [0, 3, 4] lo = [(0, zr 9), (3, zi v), (4, zi sg)]) 
    (o1 : ¬ wr w = (-1) → wr (m 9 8) < 40 → (0 ≤ wr (m 9 8) ∧ wr (m 9 8) < 40))
    (o2 : ¬ wr w = (-1) → wr (m 9 8) < 40 → (0 ≤ wr (m 9 8) ∧ wr (m 9 8) < 40))
    (o3 : ¬ wr w = (-1) → wr (m 9 8) < 40 → (0 ≤ wr (m 9 8) ∧ wr (m 9 8) < 40))
    (o4 : ¬ wr w = (-1) → wr (m 9 8) < 40 → κ (some (zi (wr (wr (((m 9 8) + 1) - 1))))) (zu (zu (zu (zu m 14 ((wr (m 9 8)).toNat) sg) 15 ((wr (m 9 8)).toNat) v) 16 ((wr (m 9 8)).toNat) w) 9 8 ((m 9 8) + 1)))
    (o5 : ¬ wr w = (-1) → ¬ wr (m 9 8) < 40 → False)
    (o6 : wr w = (-1) → κ (some (zi (-1))) m) :
    T (D + 3) 52 (57, lo, [zi w], m) κ :=
  zkeep hT hlo (hT.1 [] 6 (D + 3) 52 _ κ (And.intro (fun a1 => (hT.1 [] 6 (D + 3) 52 (72, [(0, zr 9), (3, zi v), (4, zi sg), (5, zi w)], [zi sg, zr 9], m) _ (hT.1 [] 6 (D + 2) 51 _ _ (And.intro (fun a3 => (hT.1 [] 6 (D + 2) 51 (15, [(0, zr 9), (1, zi sg), (2, zi v), (3, zi w)], [zr 14], m) _ (And.intro (And.intro (o1 a1 a3) trivial) (hT.1 [] 6 (D + 2) 51 (25, [(0, zr 9), (1, zi sg), (2, zi v), (3, zi w)], [zr 15], (zu m 14 ((wr (m 9 8)).toNat) sg)) _ (And.intro (And.intro (o2 a1 a3) trivial) (hT.1 [] 6 (D + 2) 51 (35, [(0, zr 9), (1, zi sg), (2, zi v), (3, zi w)], [zr 16], (zu (zu m 14 ((wr (m 9 8)).toNat) sg) 15 ((wr (m 9 8)).toNat) v)) _ (And.intro (And.intro (o3 a1 a3) trivial) (hT.1 [] 6 (D + 2) 51 (43, [(0, zr 9), (1, zi sg), (2, zi v), (3, zi w)], [zr 9, zr 9], (zu (zu (zu m 14 ((wr (m 9 8)).toNat) sg) 15 ((wr (m 9 8)).toNat) v) 16 ((wr (m 9 8)).toNat) w)) _ (And.intro trivial (hT.1 [] 6 (D + 2) 51 (55, [(0, zr 9), (1, zi sg), (2, zi v), (3, zi w)], [zi ((m 9 8) + 1)], (zu (zu (zu (zu m 14 ((wr (m 9 8)).toNat) sg) 15 ((wr (m 9 8)).toNat) v) 16 ((wr (m 9 8)).toNat) w) 9 8 ((m 9 8) + 1))) _ (hT.1 [] 6 (D + 3) 52 _ _ (o4 a1 a3)))))))))))) (fun a4 => (o5 a1 a4).elim))))) (fun a2 => (hT.1 [] 6 (D + 3) 52 (78, [(0, zr 9), (3, zi v), (4, zi sg), (5, zi w)], [zi (-1)], m) _ (o6 (Classical.byContradiction a2))))))
theorem zb52_57 (hT : zRules T) {D : Nat} {κ : Option zA → zM → Prop} {m : zM} {v : Int} {sg : Int} {w : Int} {lo : zL} (hlo : z_keep [0, 3, 4] lo = [(0, zr 9), (3, zi v), (4, zi sg)])  (hB : zB m) (h_v : 0 ≤ v ∧ v ≤ 39) (h_sg : 0 ≤ sg ∧ sg ≤ 65535) (h_w : (-1) ≤ w ∧ w ≤ 39) (hf0 : 0 ≤ m 9 8 ∧ m 9 8 ≤ 39) 
    (k1 : ¬ w = (-1) → zB (zu (zu (zu (zu m 14 ((m 9 8).toNat) sg) 15 ((m 9 8).toNat) v) 16 ((m 9 8).toNat) w) 9 8 ((m 9 8) + 1)) → κ (some (zi (((m 9 8) + 1) - 1))) (zu (zu (zu (zu m 14 ((m 9 8).toNat) sg) 15 ((m 9 8).toNat) v) 16 ((m 9 8).toNat) w) 9 8 ((m 9 8) + 1)))
    (k2 : w = (-1) → κ (some (zi (-1))) m) :
    T (D + 3) 52 (57, lo, [zi w], m) κ := by
  have he0 : wr w = w := wr_id (by omega) (by omega)
  have he1 : wr (m 9 8) = (m 9 8) := wr_id (by omega) (by omega)
  have he2 : wr (((m 9 8) + 1) - 1) = (((m 9 8) + 1) - 1) := wr_id (by omega) (by omega)
  have key := @zb52_57r T hT D κ m v sg w lo hlo
  simp only [he0, he1, he2, Int.toNat_natCast] at key
  exact key
    (fun x0 x1 => by refine ⟨?_, ?_⟩ <;> omega)
    (fun x0 x1 => by refine ⟨?_, ?_⟩ <;> omega)
    (fun x0 x1 => by refine ⟨?_, ?_⟩ <;> omega)
    (fun x0 x1 => k1 x0 (zB_u (zB_u (zB_u (zB_u hB (show (-1) ≤ sg ∧ sg ≤ 65535 from ⟨by omega, by omega⟩)) (show 0 ≤ v ∧ v ≤ 999 from ⟨by omega, by omega⟩)) (show 0 ≤ w ∧ w ≤ 39 from ⟨by omega, by omega⟩)) (show 0 ≤ ((m 9 8) + 1) ∧ ((m 9 8) + 1) ≤ 40 from ⟨by omega, by omega⟩)))
    (fun x0 x1 => by omega)
    k2
theorem zb53_0r (hT : zRules T) {D : Nat} {κ : Option zA → zM → Prop} {m : zM} {d : Nat} 
    (o1 : T (D + 2) 54 (0, [(0, zr 9), (1, zr 2), (2, zi (d : Int))], [], m) (fun r m1 => T (D + 3) 53 (6, [(0, zr 9), (1, zr 2), (2, zi (d : Int))], r.toList ++ [], m1) κ)) :
    T (D + 3) 53 (0, [(0, zr 9), (1, zr 2), (2, zi (d : Int))], [], m) κ :=
  hT.1 [(10, [0, 1, 2, 3, 4])] 6 (D + 3) 53 _ κ (o1)
theorem zb53_0 (hT : zRules T) {D : Nat} {κ : Option zA → zM → Prop} {m : zM} {d : Nat}  (hB : zB m) (h_d : d ≤ 4) (hf0 : 0 ≤ m 2 3 ∧ m 2 3 ≤ 90) 
    (k1 : T (D + 2) 54 (0, [(0, zr 9), (1, zr 2), (2, zi (d : Int))], [], m) (fun r m1 => T (D + 3) 53 (6, [(0, zr 9), (1, zr 2), (2, zi (d : Int))], r.toList ++ [], m1) κ)) :
    T (D + 3) 53 (0, [(0, zr 9), (1, zr 2), (2, zi (d : Int))], [], m) κ := by
  exact zb53_0r hT
    k1
theorem zb53_6r (hT : zRules T) {D : Nat} {κ : Option zA → zM → Prop} {m : zM} {d : Nat} {v : Int} {lo : zL} (hlo : z_keep [0, 1, 2] lo = [(0, zr 9), (1, zr 2), (2, zi (d : Int))]) 
    (o1 : T (D + 3) 53 (10, [(0, zr 9), (1, zr 2), (2, zi (d : Int)), (3, zi v), (4, zi 0)], [], m) κ) :
    T (D + 3) 53 (6, lo, [zi v], m) κ :=
  zkeep hT hlo (hT.1 [(10, [0, 1, 2, 3, 4])] 6 (D + 3) 53 _ κ (o1))
theorem zb53_6 (hT : zRules T) {D : Nat} {κ : Option zA → zM → Prop} {m : zM} {d : Nat} {v : Int} {lo : zL} (hlo : z_keep [0, 1, 2] lo = [(0, zr 9), (1, zr 2), (2, zi (d : Int))])  (hB : zB m) (h_d : d ≤ 4) (h_v : (-1) ≤ v ∧ v ≤ 39) (hf0 : 0 ≤ m 2 3 ∧ m 2 3 ≤ 90) 
    (k1 : T (D + 3) 53 (10, [(0, zr 9), (1, zr 2), (2, zi (d : Int)), (3, zi v), (4, zi 0)], [], m) κ) :
    T (D + 3) 53 (6, lo, [zi v], m) κ := by
  exact zb53_6r hT hlo
    k1
theorem zb53_10r (hT : zRules T) {D : Nat} {κ : Option zA → zM → Prop} {m : zM} {d : Nat} {v : Int} {k : Nat} {lo : zL} (hlo : z_keep [0, 1, 2, 3, 4] lo = [(0, zr 9), (1, zr 2), (2, zi (d : Int)), (3, zi v), (4, zi (k : Int))]) 
    (o1 : ¬ wr (k : Int) < 40 → κ (some (zi (wr v))) m)
    (o2 : wr (k : Int) < 40 → wr v = (-1) → κ (some (zi (wr v))) m)
    (o3 : wr (k : Int) < 40 → ¬ wr v = (-1) → ∀ j, zbd 3 j (m 3 j))
    (o4 : wr (k : Int) < 40 → ¬ wr v = (-1) → (0 ≤ (m 2 3) ∧ (m 2 3) ≤ 1000))
    (o5 : wr (k : Int) < 40 → ¬ wr v = (-1) → (0 ≤ (m 2 2) ∧ (m 2 2) ≤ 80))
    (o6 : wr (k : Int) < 40 → ¬ wr v = (-1) → wr (nxC m) = 43 → T (D + 2) 54 (0, [(0, zr 9), (1, zr 2), (2, zi (d : Int))], [], (zu m 2 3 ((m 2 3) + 1))) (fun r m1 => T (D + 3) 53 (60, [(0, zr 9), (1, zr 2), (2, zi (d : Int)), (3, zi v), (4, zi (k : Int)), (5, zi (nxC m))], r.toList ++ [], m1) κ))
    (o7 : wr (k : Int) < 40 → ¬ wr v = (-1) → ¬ wr (nxC m) = 43 → wr (nxC m) = 45 → T (D + 2) 54 (0, [(0, zr 9), (1, zr 2), (2, zi (d : Int))], [], (zu m 2 3 ((m 2 3) + 1))) (fun r m1 => T (D + 3) 53 (60, [(0, zr 9), (1, zr 2), (2, zi (d : Int)), (3, zi v), (4, zi (k : Int)), (5, zi (nxC m))], r.toList ++ [], m1) κ))
    (o8 : wr (k : Int) < 40 → ¬ wr v = (-1) → ¬ wr (nxC m) = 43 → ¬ wr (nxC m) = 45 → κ (some (zi (wr v))) m) :
    T (D + 3) 53 (10, lo, [], m) κ :=
  zkeep hT hlo (hT.1 [(10, [0, 1, 2, 3, 4])] 6 (D + 3) 53 _ κ (And.intro (fun a1 => (o1 a1)) (fun a2 => (And.intro (fun a3 => (hT.1 [(10, [0, 1, 2, 3, 4])] 6 (D + 3) 53 (88, [(0, zr 9), (1, zr 2), (2, zi (d : Int)), (3, zi v), (4, zi (k : Int))], [], m) _ (o2 (Classical.byContradiction a2) a3))) (fun a4 => (hT.1 [(10, [0, 1, 2, 3, 4])] 6 (D + 3) 53 (22, [(0, zr 9), (1, zr 2), (2, zi (d : Int)), (3, zi v), (4, zi (k : Int))], [], m) _ (z_next hT (o3 (Classical.byContradiction a2) a4) (o4 (Classical.byContradiction a2) a4) (o5 (Classical.byContradiction a2) a4) (hT.1 [(10, [0, 1, 2, 3, 4])] 6 (D + 3) 53 _ _ (And.intro (fun a5 => (hT.1 [(10, [0, 1, 2, 3, 4])] 6 (D + 3) 53 (46, [(0, zr 9), (1, zr 2), (2, zi (d : Int)), (3, zi v), (4, zi (k : Int)), (5, zi (nxC m))], [zr 2, zr 2], m) _ (And.intro trivial (hT.1 [(10, [0, 1, 2, 3, 4])] 6 (D + 3) 53 (56, [(0, zr 9), (1, zr 2), (2, zi (d : Int)), (3, zi v), (4, zi (k : Int)), (5, zi (nxC m))], [zr 2, zr 9], (zu m 2 3 ((m 2 3) + 1))) _ (o6 (Classical.byContradiction a2) a4 a5))))) (fun a6 => (hT.1 [(10, [0, 1, 2, 3, 4])] 6 (D + 3) 53 (39, [(0, zr 9), (1, zr 2), (2, zi (d : Int)), (3, zi v), (4, zi (k : Int)), (5, zi (nxC m))], [zi 45, zi (nxC m)], m) _ (And.intro (fun a7 => (hT.1 [(10, [0, 1, 2, 3, 4])] 6 (D + 3) 53 (51, [(0, zr 9), (1, zr 2), (2, zi (d : Int)), (3, zi v), (4, zi (k : Int)), (5, zi (nxC m))], [zi ((m 2 3) + 1), zr 2], m) _ (And.intro trivial (o7 (Classical.byContradiction a2) a4 a6 a7)))) (fun a8 => (o8 (Classical.byContradiction a2) a4 a6 a8))))))))))))))
theorem zb53_10 (hT : zRules T) {D : Nat} {κ : Option zA → zM → Prop} {m : zM} {d : Nat} {v : Int} {k : Nat} {lo : zL} (hlo : z_keep [0, 1, 2, 3, 4] lo = [(0, zr 9), (1, zr 2), (2, zi (d : Int)), (3, zi v), (4, zi (k : Int))])  (hB : zB m) (h_d : d ≤ 4) (h_v : (-1) ≤ v ∧ v ≤ 39) (h_k : k ≤ 100) (hf0 : 0 ≤ m 2 3 ∧ m 2 3 ≤ 90) 
    (k1 : ¬ (k : Int) < 40 → κ (some (zi v)) m)
    (k2 : (k : Int) < 40 → v = (-1) → κ (some (zi v)) m)
    (k3 : (k : Int) < 40 → ¬ v = (-1) → (nxC m) = 43 → zB (zu m 2 3 ((m 2 3) + 1)) → T (D + 2) 54 (0, [(0, zr 9), (1, zr 2), (2, zi (d : Int))], [], (zu m 2 3 ((m 2 3) + 1))) (fun r m1 => T (D + 3) 53 (60, [(0, zr 9), (1, zr 2), (2, zi (d : Int)), (3, zi v), (4, zi (k : Int)), (5, zi (nxC m))], r.toList ++ [], m1) κ))
    (k4 : (k : Int) < 40 → ¬ v = (-1) → ¬ (nxC m) = 43 → (nxC m) = 45 → zB (zu m 2 3 ((m 2 3) + 1)) → T (D + 2) 54 (0, [(0, zr 9), (1, zr 2), (2, zi (d : Int))], [], (zu m 2 3 ((m 2 3) + 1))) (fun r m1 => T (D + 3) 53 (60, [(0, zr 9), (1, zr 2), (2, zi (d : Int)), (3, zi v), (4, zi (k : Int)), (5, zi (nxC m))], r.toList ++ [], m1) κ))
    (k5 : (k : Int) < 40 → ¬ v = (-1) → ¬ (nxC m) = 43 → ¬ (nxC m) = 45 → κ (some (zi v)) m) :
    T (D + 3) 53 (10, lo, [], m) κ := by
  have hb4 : 0 ≤ (m 2 2) ∧ (m 2 2) ≤ 80 := hB 2 2
  have hb5 : (-1) ≤ (nxC m) ∧ (nxC m) ≤ 65535 := nxCBo m (fun j => hB 3 j)
  have he0 : wr (k : Int) = (k : Int) := wr_id (by omega) (by omega)
  have he1 : wr v = v := wr_id (by omega) (by omega)
  have he2 : wr (nxC m) = (nxC m) := wr_id (by omega) (by omega)
  have key := @zb53_10r T hT D κ m d v k lo hlo
  simp only [he0, he1, he2, Int.toNat_natCast] at key
  exact key
    k1
    k2
    (fun x0 x1 => fun j => hB 3 j)
    (fun x0 x1 => by refine ⟨?_, ?_⟩ <;> omega)
    (fun x0 x1 => by refine ⟨?_, ?_⟩ <;> omega)
    (fun x0 x1 x2 => k3 x0 x1 x2 (zB_u hB (show (-1) ≤ ((m 2 3) + 1) ∧ ((m 2 3) + 1) ≤ 100 from ⟨by omega, by omega⟩)))
    (fun x0 x1 x2 x3 => k4 x0 x1 x2 x3 (zB_u hB (show (-1) ≤ ((m 2 3) + 1) ∧ ((m 2 3) + 1) ≤ 100 from ⟨by omega, by omega⟩)))
    k5
theorem zb53_60r (hT : zRules T) {D : Nat} {κ : Option zA → zM → Prop} {m : zM} {d : Nat} {v : Int} {k : Nat} {sg : Int} {w : Int} {lo : zL} (hlo : z_keep [0, 1, 2, 3, 4, 5] lo = [(0, zr 9), (1, zr 2), (2, zi (d : Int)), (3, zi v), (4, zi (k : Int)), (5, zi sg)]) 
    (o1 : ¬ wr w = (-1) → wr (m 9 8) < 40 → (0 ≤ wr (m 9 8) ∧ wr (m 9 8) < 40))
    (o2 : ¬ wr w = (-1) → wr (m 9 8) < 40 → (0 ≤ wr (m 9 8) ∧ wr (m 9 8) < 40))
    (o3 : ¬ wr w = (-1) → wr (m 9 8) < 40 → (0 ≤ wr (m 9 8) ∧ wr (m 9 8) < 40))
    (o4 : ¬ wr w = (-1) → wr (m 9 8) < 40 → T (D + 3) 53 (10, [(0, zr 9), (1, zr 2), (2, zi (d : Int)), (3, zi (wr (((m 9 8) + 1) - 1))), (4, zi ((k : Int) + 1))], [], (zu (zu (zu (zu m 14 ((wr (m 9 8)).toNat) sg) 15 ((wr (m 9 8)).toNat) v) 16 ((wr (m 9 8)).toNat) w) 9 8 ((m 9 8) + 1))) κ)
    (o5 : ¬ wr w = (-1) → ¬ wr (m 9 8) < 40 → False)
    (o6 : wr w = (-1) → T (D + 3) 53 (10, [(0, zr 9), (1, zr 2), (2, zi (d : Int)), (3, zi (-1)), (4, zi ((k : Int) + 1))], [], m) κ) :
    T (D + 3) 53 (60, lo, [zi w], m) κ :=
  zkeep hT hlo (hT.1 [(10, [0, 1, 2, 3, 4])] 6 (D + 3) 53 _ κ (And.intro (fun a1 => (hT.1 [(10, [0, 1, 2, 3, 4])] 6 (D + 3) 53 (75, [(0, zr 9), (1, zr 2), (2, zi (d : Int)), (3, zi v), (4, zi (k : Int)), (5, zi sg), (6, zi w)], [zi sg, zr 9], m) _ (hT.1 [] 6 (D + 2) 51 _ _ (And.intro (fun a3 => (hT.1 [] 6 (D + 2) 51 (15, [(0, zr 9), (1, zi sg), (2, zi v), (3, zi w)], [zr 14], m) _ (And.intro (And.intro (o1 a1 a3) trivial) (hT.1 [] 6 (D + 2) 51 (25, [(0, zr 9), (1, zi sg), (2, zi v), (3, zi w)], [zr 15], (zu m 14 ((wr (m 9 8)).toNat) sg)) _ (And.intro (And.intro (o2 a1 a3) trivial) (hT.1 [] 6 (D + 2) 51 (35, [(0, zr 9), (1, zi sg), (2, zi v), (3, zi w)], [zr 16], (zu (zu m 14 ((wr (m 9 8)).toNat) sg) 15 ((wr (m 9 8)).toNat) v)) _ (And.intro (And.intro (o3 a1 a3) trivial) (hT.1 [] 6 (D + 2) 51 (43, [(0, zr 9), (1, zi sg), (2, zi v), (3, zi w)], [zr 9, zr 9], (zu (zu (zu m 14 ((wr (m 9 8)).toNat) sg) 15 ((wr (m 9 8)).toNat) v) 16 ((wr (m 9 8)).toNat) w)) _ (And.intro trivial (hT.1 [] 6 (D + 2) 51 (55, [(0, zr 9), (1, zi sg), (2, zi v), (3, zi w)], [zi ((m 9 8) + 1)], (zu (zu (zu (zu m 14 ((wr (m 9 8)).toNat) sg) 15 ((wr (m 9 8)).toNat) v) 16 ((wr (m 9 8)).toNat) w) 9 8 ((m 9 8) + 1))) _ (hT.1 [(10, [0, 1, 2, 3, 4])] 6 (D + 3) 53 _ _ (o4 a1 a3)))))))))))) (fun a4 => (o5 a1 a4).elim))))) (fun a2 => (hT.1 [(10, [0, 1, 2, 3, 4])] 6 (D + 3) 53 (81, [(0, zr 9), (1, zr 2), (2, zi (d : Int)), (3, zi v), (4, zi (k : Int)), (5, zi sg), (6, zi w)], [zi (-1)], m) _ (o6 (Classical.byContradiction a2))))))
theorem zb53_60 (hT : zRules T) {D : Nat} {κ : Option zA → zM → Prop} {m : zM} {d : Nat} {v : Int} {k : Nat} {sg : Int} {w : Int} {lo : zL} (hlo : z_keep [0, 1, 2, 3, 4, 5] lo = [(0, zr 9), (1, zr 2), (2, zi (d : Int)), (3, zi v), (4, zi (k : Int)), (5, zi sg)])  (hB : zB m) (h_d : d ≤ 4) (h_v : 0 ≤ v ∧ v ≤ 39) (h_k : k ≤ 100) (h_sg : 0 ≤ sg ∧ sg ≤ 65535) (h_w : (-1) ≤ w ∧ w ≤ 39) (hf0 : 0 ≤ m 9 8 ∧ m 9 8 ≤ 39) 
    (k1 : ¬ w = (-1) → zB (zu (zu (zu (zu m 14 ((m 9 8).toNat) sg) 15 ((m 9 8).toNat) v) 16 ((m 9 8).toNat) w) 9 8 ((m 9 8) + 1)) → T (D + 3) 53 (10, [(0, zr 9), (1, zr 2), (2, zi (d : Int)), (3, zi (((m 9 8) + 1) - 1)), (4, zi ((k : Int) + 1))], [], (zu (zu (zu (zu m 14 ((m 9 8).toNat) sg) 15 ((m 9 8).toNat) v) 16 ((m 9 8).toNat) w) 9 8 ((m 9 8) + 1))) κ)
    (k2 : w = (-1) → T (D + 3) 53 (10, [(0, zr 9), (1, zr 2), (2, zi (d : Int)), (3, zi (-1)), (4, zi ((k : Int) + 1))], [], m) κ) :
    T (D + 3) 53 (60, lo, [zi w], m) κ := by
  have he0 : wr w = w := wr_id (by omega) (by omega)
  have he1 : wr (m 9 8) = (m 9 8) := wr_id (by omega) (by omega)
  have he2 : wr (((m 9 8) + 1) - 1) = (((m 9 8) + 1) - 1) := wr_id (by omega) (by omega)
  have key := @zb53_60r T hT D κ m d v k sg w lo hlo
  simp only [he0, he1, he2, Int.toNat_natCast] at key
  exact key
    (fun x0 x1 => by refine ⟨?_, ?_⟩ <;> omega)
    (fun x0 x1 => by refine ⟨?_, ?_⟩ <;> omega)
    (fun x0 x1 => by refine ⟨?_, ?_⟩ <;> omega)
    (fun x0 x1 => k1 x0 (zB_u (zB_u (zB_u (zB_u hB (show (-1) ≤ sg ∧ sg ≤ 65535 from ⟨by omega, by omega⟩)) (show 0 ≤ v ∧ v ≤ 999 from ⟨by omega, by omega⟩)) (show 0 ≤ w ∧ w ≤ 39 from ⟨by omega, by omega⟩)) (show 0 ≤ ((m 9 8) + 1) ∧ ((m 9 8) + 1) ≤ 40 from ⟨by omega, by omega⟩)))
    (fun x0 x1 => by omega)
    k2
theorem zb54_0r (hT : zRules T) {D : Nat} {κ : Option zA → zM → Prop} {m : zM} {d : Nat} 
    (o1 : T (D + 2) 55 (0, [(0, zr 9), (1, zr 2), (2, zi (d : Int))], [], m) (fun r m1 => T (D + 3) 54 (6, [(0, zr 9), (1, zr 2), (2, zi (d : Int))], r.toList ++ [], m1) κ)) :
    T (D + 3) 54 (0, [(0, zr 9), (1, zr 2), (2, zi (d : Int))], [], m) κ :=
  hT.1 [(10, [0, 1, 2, 3, 4])] 6 (D + 3) 54 _ κ (o1)
theorem zb54_0 (hT : zRules T) {D : Nat} {κ : Option zA → zM → Prop} {m : zM} {d : Nat}  (hB : zB m) (h_d : d ≤ 4) (hf0 : 0 ≤ m 2 3 ∧ m 2 3 ≤ 90) 
    (k1 : T (D + 2) 55 (0, [(0, zr 9), (1, zr 2), (2, zi (d : Int))], [], m) (fun r m1 => T (D + 3) 54 (6, [(0, zr 9), (1, zr 2), (2, zi (d : Int))], r.toList ++ [], m1) κ)) :
    T (D + 3) 54 (0, [(0, zr 9), (1, zr 2), (2, zi (d : Int))], [], m) κ := by
  exact zb54_0r hT
    k1
theorem zb54_6r (hT : zRules T) {D : Nat} {κ : Option zA → zM → Prop} {m : zM} {d : Nat} {v : Int} {lo : zL} (hlo : z_keep [0, 1, 2] lo = [(0, zr 9), (1, zr 2), (2, zi (d : Int))]) 
    (o1 : T (D + 3) 54 (10, [(0, zr 9), (1, zr 2), (2, zi (d : Int)), (3, zi v), (4, zi 0)], [], m) κ) :
    T (D + 3) 54 (6, lo, [zi v], m) κ :=
  zkeep hT hlo (hT.1 [(10, [0, 1, 2, 3, 4])] 6 (D + 3) 54 _ κ (o1))
theorem zb54_6 (hT : zRules T) {D : Nat} {κ : Option zA → zM → Prop} {m : zM} {d : Nat} {v : Int} {lo : zL} (hlo : z_keep [0, 1, 2] lo = [(0, zr 9), (1, zr 2), (2, zi (d : Int))])  (hB : zB m) (h_d : d ≤ 4) (h_v : (-1) ≤ v ∧ v ≤ 39) (hf0 : 0 ≤ m 2 3 ∧ m 2 3 ≤ 90) 
    (k1 : T (D + 3) 54 (10, [(0, zr 9), (1, zr 2), (2, zi (d : Int)), (3, zi v), (4, zi 0)], [], m) κ) :
    T (D + 3) 54 (6, lo, [zi v], m) κ := by
  exact zb54_6r hT hlo
    k1
theorem zb54_10r (hT : zRules T) {D : Nat} {κ : Option zA → zM → Prop} {m : zM} {d : Nat} {v : Int} {k : Nat} {lo : zL} (hlo : z_keep [0, 1, 2, 3, 4] lo = [(0, zr 9), (1, zr 2), (2, zi (d : Int)), (3, zi v), (4, zi (k : Int))]) 
    (o1 : ¬ wr (k : Int) < 40 → κ (some (zi (wr v))) m)
    (o2 : wr (k : Int) < 40 → wr v = (-1) → κ (some (zi (wr v))) m)
    (o3 : wr (k : Int) < 40 → ¬ wr v = (-1) → ∀ j, zbd 3 j (m 3 j))
    (o4 : wr (k : Int) < 40 → ¬ wr v = (-1) → (0 ≤ (m 2 3) ∧ (m 2 3) ≤ 1000))
    (o5 : wr (k : Int) < 40 → ¬ wr v = (-1) → (0 ≤ (m 2 2) ∧ (m 2 2) ≤ 80))
    (o6 : wr (k : Int) < 40 → ¬ wr v = (-1) → wr (nxC m) = 42 → T (D + 2) 55 (0, [(0, zr 9), (1, zr 2), (2, zi (d : Int))], [], (zu m 2 3 ((m 2 3) + 1))) (fun r m1 => T (D + 3) 54 (60, [(0, zr 9), (1, zr 2), (2, zi (d : Int)), (3, zi v), (4, zi (k : Int)), (5, zi (nxC m))], r.toList ++ [], m1) κ))
    (o7 : wr (k : Int) < 40 → ¬ wr v = (-1) → ¬ wr (nxC m) = 42 → wr (nxC m) = 47 → T (D + 2) 55 (0, [(0, zr 9), (1, zr 2), (2, zi (d : Int))], [], (zu m 2 3 ((m 2 3) + 1))) (fun r m1 => T (D + 3) 54 (60, [(0, zr 9), (1, zr 2), (2, zi (d : Int)), (3, zi v), (4, zi (k : Int)), (5, zi (nxC m))], r.toList ++ [], m1) κ))
    (o8 : wr (k : Int) < 40 → ¬ wr v = (-1) → ¬ wr (nxC m) = 42 → ¬ wr (nxC m) = 47 → κ (some (zi (wr v))) m) :
    T (D + 3) 54 (10, lo, [], m) κ :=
  zkeep hT hlo (hT.1 [(10, [0, 1, 2, 3, 4])] 6 (D + 3) 54 _ κ (And.intro (fun a1 => (o1 a1)) (fun a2 => (And.intro (fun a3 => (hT.1 [(10, [0, 1, 2, 3, 4])] 6 (D + 3) 54 (88, [(0, zr 9), (1, zr 2), (2, zi (d : Int)), (3, zi v), (4, zi (k : Int))], [], m) _ (o2 (Classical.byContradiction a2) a3))) (fun a4 => (hT.1 [(10, [0, 1, 2, 3, 4])] 6 (D + 3) 54 (22, [(0, zr 9), (1, zr 2), (2, zi (d : Int)), (3, zi v), (4, zi (k : Int))], [], m) _ (z_next hT (o3 (Classical.byContradiction a2) a4) (o4 (Classical.byContradiction a2) a4) (o5 (Classical.byContradiction a2) a4) (hT.1 [(10, [0, 1, 2, 3, 4])] 6 (D + 3) 54 _ _ (And.intro (fun a5 => (hT.1 [(10, [0, 1, 2, 3, 4])] 6 (D + 3) 54 (46, [(0, zr 9), (1, zr 2), (2, zi (d : Int)), (3, zi v), (4, zi (k : Int)), (5, zi (nxC m))], [zr 2, zr 2], m) _ (And.intro trivial (hT.1 [(10, [0, 1, 2, 3, 4])] 6 (D + 3) 54 (56, [(0, zr 9), (1, zr 2), (2, zi (d : Int)), (3, zi v), (4, zi (k : Int)), (5, zi (nxC m))], [zr 2, zr 9], (zu m 2 3 ((m 2 3) + 1))) _ (o6 (Classical.byContradiction a2) a4 a5))))) (fun a6 => (hT.1 [(10, [0, 1, 2, 3, 4])] 6 (D + 3) 54 (39, [(0, zr 9), (1, zr 2), (2, zi (d : Int)), (3, zi v), (4, zi (k : Int)), (5, zi (nxC m))], [zi 47, zi (nxC m)], m) _ (And.intro (fun a7 => (hT.1 [(10, [0, 1, 2, 3, 4])] 6 (D + 3) 54 (51, [(0, zr 9), (1, zr 2), (2, zi (d : Int)), (3, zi v), (4, zi (k : Int)), (5, zi (nxC m))], [zi ((m 2 3) + 1), zr 2], m) _ (And.intro trivial (o7 (Classical.byContradiction a2) a4 a6 a7)))) (fun a8 => (o8 (Classical.byContradiction a2) a4 a6 a8))))))))))))))
theorem zb54_10 (hT : zRules T) {D : Nat} {κ : Option zA → zM → Prop} {m : zM} {d : Nat} {v : Int} {k : Nat} {lo : zL} (hlo : z_keep [0, 1, 2, 3, 4] lo = [(0, zr 9), (1, zr 2), (2, zi (d : Int)), (3, zi v), (4, zi (k : Int))])  (hB : zB m) (h_d : d ≤ 4) (h_v : (-1) ≤ v ∧ v ≤ 39) (h_k : k ≤ 100) (hf0 : 0 ≤ m 2 3 ∧ m 2 3 ≤ 90) 
    (k1 : ¬ (k : Int) < 40 → κ (some (zi v)) m)
    (k2 : (k : Int) < 40 → v = (-1) → κ (some (zi v)) m)
    (k3 : (k : Int) < 40 → ¬ v = (-1) → (nxC m) = 42 → zB (zu m 2 3 ((m 2 3) + 1)) → T (D + 2) 55 (0, [(0, zr 9), (1, zr 2), (2, zi (d : Int))], [], (zu m 2 3 ((m 2 3) + 1))) (fun r m1 => T (D + 3) 54 (60, [(0, zr 9), (1, zr 2), (2, zi (d : Int)), (3, zi v), (4, zi (k : Int)), (5, zi (nxC m))], r.toList ++ [], m1) κ))
    (k4 : (k : Int) < 40 → ¬ v = (-1) → ¬ (nxC m) = 42 → (nxC m) = 47 → zB (zu m 2 3 ((m 2 3) + 1)) → T (D + 2) 55 (0, [(0, zr 9), (1, zr 2), (2, zi (d : Int))], [], (zu m 2 3 ((m 2 3) + 1))) (fun r m1 => T (D + 3) 54 (60, [(0, zr 9), (1, zr 2), (2, zi (d : Int)), (3, zi v), (4, zi (k : Int)), (5, zi (nxC m))], r.toList ++ [], m1) κ))
    (k5 : (k : Int) < 40 → ¬ v = (-1) → ¬ (nxC m) = 42 → ¬ (nxC m) = 47 → κ (some (zi v)) m) :
    T (D + 3) 54 (10, lo, [], m) κ := by
  have hb4 : 0 ≤ (m 2 2) ∧ (m 2 2) ≤ 80 := hB 2 2
  have hb5 : (-1) ≤ (nxC m) ∧ (nxC m) ≤ 65535 := nxCBo m (fun j => hB 3 j)
  have he0 : wr (k : Int) = (k : Int) := wr_id (by omega) (by omega)
  have he1 : wr v = v := wr_id (by omega) (by omega)
  have he2 : wr (nxC m) = (nxC m) := wr_id (by omega) (by omega)
  have key := @zb54_10r T hT D κ m d v k lo hlo
  simp only [he0, he1, he2, Int.toNat_natCast] at key
  exact key
    k1
    k2
    (fun x0 x1 => fun j => hB 3 j)
    (fun x0 x1 => by refine ⟨?_, ?_⟩ <;> omega)
    (fun x0 x1 => by refine ⟨?_, ?_⟩ <;> omega)
    (fun x0 x1 x2 => k3 x0 x1 x2 (zB_u hB (show (-1) ≤ ((m 2 3) + 1) ∧ ((m 2 3) + 1) ≤ 100 from ⟨by omega, by omega⟩)))
    (fun x0 x1 x2 x3 => k4 x0 x1 x2 x3 (zB_u hB (show (-1) ≤ ((m 2 3) + 1) ∧ ((m 2 3) + 1) ≤ 100 from ⟨by omega, by omega⟩)))
    k5
theorem zb54_60r (hT : zRules T) {D : Nat} {κ : Option zA → zM → Prop} {m : zM} {d : Nat} {v : Int} {k : Nat} {sg : Int} {w : Int} {lo : zL} (hlo : z_keep [0, 1, 2, 3, 4, 5] lo = [(0, zr 9), (1, zr 2), (2, zi (d : Int)), (3, zi v), (4, zi (k : Int)), (5, zi sg)]) 
    (o1 : ¬ wr w = (-1) → wr (m 9 8) < 40 → (0 ≤ wr (m 9 8) ∧ wr (m 9 8) < 40))
    (o2 : ¬ wr w = (-1) → wr (m 9 8) < 40 → (0 ≤ wr (m 9 8) ∧ wr (m 9 8) < 40))
    (o3 : ¬ wr w = (-1) → wr (m 9 8) < 40 → (0 ≤ wr (m 9 8) ∧ wr (m 9 8) < 40))
    (o4 : ¬ wr w = (-1) → wr (m 9 8) < 40 → T (D + 3) 54 (10, [(0, zr 9), (1, zr 2), (2, zi (d : Int)), (3, zi (wr (((m 9 8) + 1) - 1))), (4, zi ((k : Int) + 1))], [], (zu (zu (zu (zu m 14 ((wr (m 9 8)).toNat) sg) 15 ((wr (m 9 8)).toNat) v) 16 ((wr (m 9 8)).toNat) w) 9 8 ((m 9 8) + 1))) κ)
    (o5 : ¬ wr w = (-1) → ¬ wr (m 9 8) < 40 → False)
    (o6 : wr w = (-1) → T (D + 3) 54 (10, [(0, zr 9), (1, zr 2), (2, zi (d : Int)), (3, zi (-1)), (4, zi ((k : Int) + 1))], [], m) κ) :
    T (D + 3) 54 (60, lo, [zi w], m) κ :=
  zkeep hT hlo (hT.1 [(10, [0, 1, 2, 3, 4])] 6 (D + 3) 54 _ κ (And.intro (fun a1 => (hT.1 [(10, [0, 1, 2, 3, 4])] 6 (D + 3) 54 (75, [(0, zr 9), (1, zr 2), (2, zi (d : Int)), (3, zi v), (4, zi (k : Int)), (5, zi sg), (6, zi w)], [zi sg, zr 9], m) _ (hT.1 [] 6 (D + 2) 51 _ _ (And.intro (fun a3 => (hT.1 [] 6 (D + 2) 51 (15, [(0, zr 9), (1, zi sg), (2, zi v), (3, zi w)], [zr 14], m) _ (And.intro (And.intro (o1 a1 a3) trivial) (hT.1 [] 6 (D + 2) 51 (25, [(0, zr 9), (1, zi sg), (2, zi v), (3, zi w)], [zr 15], (zu m 14 ((wr (m 9 8)).toNat) sg)) _ (And.intro (And.intro (o2 a1 a3) trivial) (hT.1 [] 6 (D + 2) 51 (35, [(0, zr 9), (1, zi sg), (2, zi v), (3, zi w)], [zr 16], (zu (zu m 14 ((wr (m 9 8)).toNat) sg) 15 ((wr (m 9 8)).toNat) v)) _ (And.intro (And.intro (o3 a1 a3) trivial) (hT.1 [] 6 (D + 2) 51 (43, [(0, zr 9), (1, zi sg), (2, zi v), (3, zi w)], [zr 9, zr 9], (zu (zu (zu m 14 ((wr (m 9 8)).toNat) sg) 15 ((wr (m 9 8)).toNat) v) 16 ((wr (m 9 8)).toNat) w)) _ (And.intro trivial (hT.1 [] 6 (D + 2) 51 (55, [(0, zr 9), (1, zi sg), (2, zi v), (3, zi w)], [zi ((m 9 8) + 1)], (zu (zu (zu (zu m 14 ((wr (m 9 8)).toNat) sg) 15 ((wr (m 9 8)).toNat) v) 16 ((wr (m 9 8)).toNat) w) 9 8 ((m 9 8) + 1))) _ (hT.1 [(10, [0, 1, 2, 3, 4])] 6 (D + 3) 54 _ _ (o4 a1 a3)))))))))))) (fun a4 => (o5 a1 a4).elim))))) (fun a2 => (hT.1 [(10, [0, 1, 2, 3, 4])] 6 (D + 3) 54 (81, [(0, zr 9), (1, zr 2), (2, zi (d : Int)), (3, zi v), (4, zi (k : Int)), (5, zi sg), (6, zi w)], [zi (-1)], m) _ (o6 (Classical.byContradiction a2))))))
theorem zb54_60 (hT : zRules T) {D : Nat} {κ : Option zA → zM → Prop} {m : zM} {d : Nat} {v : Int} {k : Nat} {sg : Int} {w : Int} {lo : zL} (hlo : z_keep [0, 1, 2, 3, 4, 5] lo = [(0, zr 9), (1, zr 2), (2, zi (d : Int)), (3, zi v), (4, zi (k : Int)), (5, zi sg)])  (hB : zB m) (h_d : d ≤ 4) (h_v : 0 ≤ v ∧ v ≤ 39) (h_k : k ≤ 100) (h_sg : 0 ≤ sg ∧ sg ≤ 65535) (h_w : (-1) ≤ w ∧ w ≤ 39) (hf0 : 0 ≤ m 9 8 ∧ m 9 8 ≤ 39) 
    (k1 : ¬ w = (-1) → zB (zu (zu (zu (zu m 14 ((m 9 8).toNat) sg) 15 ((m 9 8).toNat) v) 16 ((m 9 8).toNat) w) 9 8 ((m 9 8) + 1)) → T (D + 3) 54 (10, [(0, zr 9), (1, zr 2), (2, zi (d : Int)), (3, zi (((m 9 8) + 1) - 1)), (4, zi ((k : Int) + 1))], [], (zu (zu (zu (zu m 14 ((m 9 8).toNat) sg) 15 ((m 9 8).toNat) v) 16 ((m 9 8).toNat) w) 9 8 ((m 9 8) + 1))) κ)
    (k2 : w = (-1) → T (D + 3) 54 (10, [(0, zr 9), (1, zr 2), (2, zi (d : Int)), (3, zi (-1)), (4, zi ((k : Int) + 1))], [], m) κ) :
    T (D + 3) 54 (60, lo, [zi w], m) κ := by
  have he0 : wr w = w := wr_id (by omega) (by omega)
  have he1 : wr (m 9 8) = (m 9 8) := wr_id (by omega) (by omega)
  have he2 : wr (((m 9 8) + 1) - 1) = (((m 9 8) + 1) - 1) := wr_id (by omega) (by omega)
  have key := @zb54_60r T hT D κ m d v k sg w lo hlo
  simp only [he0, he1, he2, Int.toNat_natCast] at key
  exact key
    (fun x0 x1 => by refine ⟨?_, ?_⟩ <;> omega)
    (fun x0 x1 => by refine ⟨?_, ?_⟩ <;> omega)
    (fun x0 x1 => by refine ⟨?_, ?_⟩ <;> omega)
    (fun x0 x1 => k1 x0 (zB_u (zB_u (zB_u (zB_u hB (show (-1) ≤ sg ∧ sg ≤ 65535 from ⟨by omega, by omega⟩)) (show 0 ≤ v ∧ v ≤ 999 from ⟨by omega, by omega⟩)) (show 0 ≤ w ∧ w ≤ 39 from ⟨by omega, by omega⟩)) (show 0 ≤ ((m 9 8) + 1) ∧ ((m 9 8) + 1) ≤ 40 from ⟨by omega, by omega⟩)))
    (fun x0 x1 => by omega)
    k2
theorem zb55_0r (hT : zRules T) {D : Nat} {κ : Option zA → zM → Prop} {m : zM} {d : Nat} 
    (o1 : T (D + 3) 55 (5, [(0, zr 9), (1, zr 2), (2, zi (d : Int)), (3, zi 0), (4, zi 0)], [], m) κ) :
    T (D + 3) 55 (0, [(0, zr 9), (1, zr 2), (2, zi (d : Int))], [], m) κ :=
  hT.1 [(5, [0, 1, 2, 3, 4])] 6 (D + 3) 55 _ κ (o1)
theorem zb55_0 (hT : zRules T) {D : Nat} {κ : Option zA → zM → Prop} {m : zM} {d : Nat}  (h_d : d ≤ 4) 
    (k1 : T (D + 3) 55 (5, [(0, zr 9), (1, zr 2), (2, zi (d : Int)), (3, zi 0), (4, zi 0)], [], m) κ) :
    T (D + 3) 55 (0, [(0, zr 9), (1, zr 2), (2, zi (d : Int))], [], m) κ := by
  exact zb55_0r hT
    k1
theorem zb55_5r (hT : zRules T) {D : Nat} {κ : Option zA → zM → Prop} {m : zM} {d : Nat} {ng : Int} {k : Nat} {lo : zL} (hlo : z_keep [0, 1, 2, 3, 4] lo = [(0, zr 9), (1, zr 2), (2, zi (d : Int)), (3, zi ng), (4, zi (k : Int))]) 
    (o1 : ¬ wr (k : Int) < 40 → T (D + 2) 56 (0, [(0, zr 9), (1, zr 2), (2, zi (d : Int))], [], m) (fun r m1 => T (D + 3) 55 (43, [(0, zr 9), (1, zr 2), (2, zi (d : Int)), (3, zi ng), (4, zi (k : Int))], r.toList ++ [], m1) κ))
    (o2 : wr (k : Int) < 40 → ∀ j, zbd 3 j (m 3 j))
    (o3 : wr (k : Int) < 40 → (0 ≤ (m 2 3) ∧ (m 2 3) ≤ 1000))
    (o4 : wr (k : Int) < 40 → (0 ≤ (m 2 2) ∧ (m 2 2) ≤ 80))
    (o5 : wr (k : Int) < 40 → wr (nxC m) = 45 → ¬ wr ng = 0 → T (D + 3) 55 (5, [(0, zr 9), (1, zr 2), (2, zi (d : Int)), (3, zi 0), (4, zi ((k : Int) + 1))], [], (zu m 2 3 ((m 2 3) + 1))) κ)
    (o6 : wr (k : Int) < 40 → wr (nxC m) = 45 → wr ng = 0 → T (D + 3) 55 (5, [(0, zr 9), (1, zr 2), (2, zi (d : Int)), (3, zi 1), (4, zi ((k : Int) + 1))], [], (zu m 2 3 ((m 2 3) + 1))) κ)
    (o7 : wr (k : Int) < 40 → ¬ wr (nxC m) = 45 → T (D + 2) 56 (0, [(0, zr 9), (1, zr 2), (2, zi (d : Int))], [], m) (fun r m1 => T (D + 3) 55 (43, [(0, zr 9), (1, zr 2), (2, zi (d : Int)), (3, zi ng), (4, zi (k : Int))], r.toList ++ [], m1) κ)) :
    T (D + 3) 55 (5, lo, [], m) κ :=
  zkeep hT hlo (hT.1 [(5, [0, 1, 2, 3, 4])] 6 (D + 3) 55 _ κ (And.intro (fun a1 => (hT.1 [(5, [0, 1, 2, 3, 4])] 6 (D + 3) 55 (40, [(0, zr 9), (1, zr 2), (2, zi (d : Int)), (3, zi ng), (4, zi (k : Int))], [zi (d : Int), zr 2, zr 9], m) _ (o1 a1))) (fun a2 => (hT.1 [] 6 (D + 2) 70 _ _ (z_next hT (o2 (Classical.byContradiction a2)) (o3 (Classical.byContradiction a2)) (o4 (Classical.byContradiction a2)) (hT.1 [] 6 (D + 2) 70 _ _ (And.intro (fun a3 => (hT.1 [] 6 (D + 2) 70 (16, [(0, zr 2), (1, zi 45)], [zi 1, zi (m 2 3), zr 2], m) _ (And.intro trivial (And.intro (z_b01L rfl) (hT.1 [(5, [0, 1, 2, 3, 4])] 6 (D + 3) 55 _ _ (And.intro (fun a5 => (z_litF a5 rfl).elim) (fun _ => (And.intro (fun a6 => (hT.1 [(5, [0, 1, 2, 3, 4])] 6 (D + 3) 55 (34, [(0, zr 9), (1, zr 2), (2, zi (d : Int)), (3, zi 0), (4, zi ((k : Int) + 1))], [], (zu m 2 3 ((m 2 3) + 1))) _ (o5 (Classical.byContradiction a2) a3 a6))) (fun a7 => (hT.1 [(5, [0, 1, 2, 3, 4])] 6 (D + 3) 55 (31, [(0, zr 9), (1, zr 2), (2, zi (d : Int)), (3, zi 1), (4, zi (k : Int))], [], (zu m 2 3 ((m 2 3) + 1))) _ (o6 (Classical.byContradiction a2) a3 (Classical.byContradiction a7)))))))))))) (fun a4 => (And.intro (z_b01L rfl) (hT.1 [(5, [0, 1, 2, 3, 4])] 6 (D + 3) 55 _ _ (And.intro (fun _ => (o7 (Classical.byContradiction a2) a4)) (fun a8 => (a8 (z_litT rfl)).elim))))))))))))
theorem zb55_5 (hT : zRules T) {D : Nat} {κ : Option zA → zM → Prop} {m : zM} {d : Nat} {ng : Int} {k : Nat} {lo : zL} (hlo : z_keep [0, 1, 2, 3, 4] lo = [(0, zr 9), (1, zr 2), (2, zi (d : Int)), (3, zi ng), (4, zi (k : Int))])  (hB : zB m) (h_d : d ≤ 4) (h_ng : 0 ≤ ng ∧ ng ≤ 1) (h_k : k ≤ 100) (hf0 : 0 ≤ m 2 3 ∧ m 2 3 ≤ 90) 
    (k1 : ¬ (k : Int) < 40 → T (D + 2) 56 (0, [(0, zr 9), (1, zr 2), (2, zi (d : Int))], [], m) (fun r m1 => T (D + 3) 55 (43, [(0, zr 9), (1, zr 2), (2, zi (d : Int)), (3, zi ng), (4, zi (k : Int))], r.toList ++ [], m1) κ))
    (k2 : (k : Int) < 40 → (nxC m) = 45 → ¬ ng = 0 → zB (zu m 2 3 ((m 2 3) + 1)) → T (D + 3) 55 (5, [(0, zr 9), (1, zr 2), (2, zi (d : Int)), (3, zi 0), (4, zi ((k : Int) + 1))], [], (zu m 2 3 ((m 2 3) + 1))) κ)
    (k3 : (k : Int) < 40 → (nxC m) = 45 → ng = 0 → zB (zu m 2 3 ((m 2 3) + 1)) → T (D + 3) 55 (5, [(0, zr 9), (1, zr 2), (2, zi (d : Int)), (3, zi 1), (4, zi ((k : Int) + 1))], [], (zu m 2 3 ((m 2 3) + 1))) κ)
    (k4 : (k : Int) < 40 → ¬ (nxC m) = 45 → T (D + 2) 56 (0, [(0, zr 9), (1, zr 2), (2, zi (d : Int))], [], m) (fun r m1 => T (D + 3) 55 (43, [(0, zr 9), (1, zr 2), (2, zi (d : Int)), (3, zi ng), (4, zi (k : Int))], r.toList ++ [], m1) κ)) :
    T (D + 3) 55 (5, lo, [], m) κ := by
  have hb4 : 0 ≤ (m 2 2) ∧ (m 2 2) ≤ 80 := hB 2 2
  have hb5 : (-1) ≤ (nxC m) ∧ (nxC m) ≤ 65535 := nxCBo m (fun j => hB 3 j)
  have he0 : wr (k : Int) = (k : Int) := wr_id (by omega) (by omega)
  have he1 : wr (nxC m) = (nxC m) := wr_id (by omega) (by omega)
  have he2 : wr ng = ng := wr_id (by omega) (by omega)
  have key := @zb55_5r T hT D κ m d ng k lo hlo
  simp only [he0, he1, he2, Int.toNat_natCast] at key
  exact key
    k1
    (fun x0 => fun j => hB 3 j)
    (fun x0 => by refine ⟨?_, ?_⟩ <;> omega)
    (fun x0 => by refine ⟨?_, ?_⟩ <;> omega)
    (fun x0 x1 x2 => k2 x0 x1 x2 (zB_u hB (show (-1) ≤ ((m 2 3) + 1) ∧ ((m 2 3) + 1) ≤ 100 from ⟨by omega, by omega⟩)))
    (fun x0 x1 x2 => k3 x0 x1 x2 (zB_u hB (show (-1) ≤ ((m 2 3) + 1) ∧ ((m 2 3) + 1) ≤ 100 from ⟨by omega, by omega⟩)))
    k4
theorem zb55_43r (hT : zRules T) {D : Nat} {κ : Option zA → zM → Prop} {m : zM} {ng : Int} {v : Int} {lo : zL} (hlo : z_keep [0, 3] lo = [(0, zr 9), (3, zi ng)]) 
    (o1 : wr ng = 0 → κ (some (zi (wr v))) m)
    (o2 : ¬ wr ng = 0 → wr v = (-1) → κ (some (zi (wr v))) m)
    (o3 : ¬ wr ng = 0 → ¬ wr v = (-1) → wr (m 9 8) < 40 → (0 ≤ wr (m 9 8) ∧ wr (m 9 8) < 40))
    (o4 : ¬ wr ng = 0 → ¬ wr v = (-1) → wr (m 9 8) < 40 → (0 ≤ wr (m 9 8) ∧ wr (m 9 8) < 40))
    (o5 : ¬ wr ng = 0 → ¬ wr v = (-1) → wr (m 9 8) < 40 → (0 ≤ wr (m 9 8) ∧ wr (m 9 8) < 40))
    (o6 : ¬ wr ng = 0 → ¬ wr v = (-1) → wr (m 9 8) < 40 → κ (some (zi (wr (wr (((m 9 8) + 1) - 1))))) (zu (zu (zu (zu m 14 ((wr (m 9 8)).toNat) 126) 15 ((wr (m 9 8)).toNat) v) 16 ((wr (m 9 8)).toNat) v) 9 8 ((m 9 8) + 1)))
    (o7 : ¬ wr ng = 0 → ¬ wr v = (-1) → ¬ wr (m 9 8) < 40 → False) :
    T (D + 3) 55 (43, lo, [zi v], m) κ :=
  zkeep hT hlo (hT.1 [(5, [0, 1, 2, 3, 4])] 6 (D + 3) 55 _ κ (And.intro (fun a1 => (o1 a1)) (fun a2 => (And.intro (fun a3 => (hT.1 [(5, [0, 1, 2, 3, 4])] 6 (D + 3) 55 (68, [(0, zr 9), (3, zi ng), (4, zi v)], [], m) _ (o2 a2 a3))) (fun a4 => (hT.1 [(5, [0, 1, 2, 3, 4])] 6 (D + 3) 55 (55, [(0, zr 9), (3, zi ng), (4, zi v)], [], m) _ (hT.1 [] 6 (D + 2) 51 _ _ (And.intro (fun a5 => (hT.1 [] 6 (D + 2) 51 (15, [(0, zr 9), (1, zi 126), (2, zi v), (3, zi v)], [zr 14], m) _ (And.intro (And.intro (o3 a2 a4 a5) trivial) (hT.1 [] 6 (D + 2) 51 (25, [(0, zr 9), (1, zi 126), (2, zi v), (3, zi v)], [zr 15], (zu m 14 ((wr (m 9 8)).toNat) 126)) _ (And.intro (And.intro (o4 a2 a4 a5) trivial) (hT.1 [] 6 (D + 2) 51 (35, [(0, zr 9), (1, zi 126), (2, zi v), (3, zi v)], [zr 16], (zu (zu m 14 ((wr (m 9 8)).toNat) 126) 15 ((wr (m 9 8)).toNat) v)) _ (And.intro (And.intro (o5 a2 a4 a5) trivial) (hT.1 [] 6 (D + 2) 51 (43, [(0, zr 9), (1, zi 126), (2, zi v), (3, zi v)], [zr 9, zr 9], (zu (zu (zu m 14 ((wr (m 9 8)).toNat) 126) 15 ((wr (m 9 8)).toNat) v) 16 ((wr (m 9 8)).toNat) v)) _ (And.intro trivial (hT.1 [] 6 (D + 2) 51 (55, [(0, zr 9), (1, zi 126), (2, zi v), (3, zi v)], [zi ((m 9 8) + 1)], (zu (zu (zu (zu m 14 ((wr (m 9 8)).toNat) 126) 15 ((wr (m 9 8)).toNat) v) 16 ((wr (m 9 8)).toNat) v) 9 8 ((m 9 8) + 1))) _ (hT.1 [(5, [0, 1, 2, 3, 4])] 6 (D + 3) 55 _ _ (o6 a2 a4 a5)))))))))))) (fun a6 => (o7 a2 a4 a6).elim)))))))))
theorem zb55_43 (hT : zRules T) {D : Nat} {κ : Option zA → zM → Prop} {m : zM} {ng : Int} {v : Int} {lo : zL} (hlo : z_keep [0, 3] lo = [(0, zr 9), (3, zi ng)])  (hB : zB m) (h_ng : 0 ≤ ng ∧ ng ≤ 1) (h_v : (-1) ≤ v ∧ v ≤ 39) (hf0 : 0 ≤ m 9 8 ∧ m 9 8 ≤ 39) 
    (k1 : ng = 0 → κ (some (zi v)) m)
    (k2 : ¬ ng = 0 → v = (-1) → κ (some (zi v)) m)
    (k3 : ¬ ng = 0 → ¬ v = (-1) → zB (zu (zu (zu (zu m 14 ((m 9 8).toNat) 126) 15 ((m 9 8).toNat) v) 16 ((m 9 8).toNat) v) 9 8 ((m 9 8) + 1)) → κ (some (zi (((m 9 8) + 1) - 1))) (zu (zu (zu (zu m 14 ((m 9 8).toNat) 126) 15 ((m 9 8).toNat) v) 16 ((m 9 8).toNat) v) 9 8 ((m 9 8) + 1))) :
    T (D + 3) 55 (43, lo, [zi v], m) κ := by
  have he0 : wr ng = ng := wr_id (by omega) (by omega)
  have he1 : wr v = v := wr_id (by omega) (by omega)
  have he2 : wr (m 9 8) = (m 9 8) := wr_id (by omega) (by omega)
  have he3 : wr (((m 9 8) + 1) - 1) = (((m 9 8) + 1) - 1) := wr_id (by omega) (by omega)
  have key := @zb55_43r T hT D κ m ng v lo hlo
  simp only [he0, he1, he2, he3, Int.toNat_natCast] at key
  exact key
    k1
    k2
    (fun x0 x1 x2 => by refine ⟨?_, ?_⟩ <;> omega)
    (fun x0 x1 x2 => by refine ⟨?_, ?_⟩ <;> omega)
    (fun x0 x1 x2 => by refine ⟨?_, ?_⟩ <;> omega)
    (fun x0 x1 x2 => k3 x0 x1 (zB_u (zB_u (zB_u (zB_u hB (show (-1) ≤ 126 ∧ 126 ≤ 65535 from ⟨by omega, by omega⟩)) (show 0 ≤ v ∧ v ≤ 999 from ⟨by omega, by omega⟩)) (show 0 ≤ v ∧ v ≤ 39 from ⟨by omega, by omega⟩)) (show 0 ≤ ((m 9 8) + 1) ∧ ((m 9 8) + 1) ≤ 40 from ⟨by omega, by omega⟩)))
    (fun x0 x1 x2 => by omega)
theorem zb56_0r (hT : zRules T) {D : Nat} {κ : Option zA → zM → Prop} {m : zM} {d : Nat} 
    (o1 : ∀ j, zbd 3 j (m 3 j))
    (o2 : (0 ≤ (m 2 3) ∧ (m 2 3) ≤ 1000))
    (o3 : (0 ≤ (m 2 2) ∧ (m 2 2) ≤ 80))
    (o4 : wr (nxC m) < 48 → ¬ wr (nxC m) = 40 → wr (nxC m) = 104 → False)
    (o5 : wr (nxC m) < 48 → ¬ wr (nxC m) = 40 → ¬ wr (nxC m) = 104 → wr (nxC m) = 108 → False)
    (o6 : wr (nxC m) < 48 → ¬ wr (nxC m) = 40 → ¬ wr (nxC m) = 104 → ¬ wr (nxC m) = 108 → wr (nxC m) = 119 → False)
    (o7 : wr (nxC m) < 48 → ¬ wr (nxC m) = 40 → ¬ wr (nxC m) = 104 → ¬ wr (nxC m) = 108 → ¬ wr (nxC m) = 119 → wr (nxC m) = 112 → False)
    (o8 : wr (nxC m) < 48 → ¬ wr (nxC m) = 40 → ¬ wr (nxC m) = 104 → ¬ wr (nxC m) = 108 → ¬ wr (nxC m) = 119 → ¬ wr (nxC m) = 112 → wr (nxC m) = 105 → False)
    (o9 : wr (nxC m) < 48 → ¬ wr (nxC m) = 40 → ¬ wr (nxC m) = 104 → ¬ wr (nxC m) = 108 → ¬ wr (nxC m) = 119 → ¬ wr (nxC m) = 112 → ¬ wr (nxC m) = 105 → κ (some (zi (-1))) m)
    (o10 : wr (nxC m) < 48 → wr (nxC m) = 40 → T (D + 2) 57 (0, [(0, zr 9), (1, zr 2), (2, zi ((d : Int) + 1))], [], m) (fun r m1 => T (D + 3) 56 (44, [(0, zr 9), (1, zr 2), (2, zi (d : Int)), (3, zi (nxC m))], r.toList ++ [], m1) κ))
    (o11 : ¬ wr (nxC m) < 48 → 57 < wr (nxC m) → ¬ wr (nxC m) = 40 → wr (nxC m) = 104 → wr (m 9 8) < 40 → (0 ≤ wr (m 9 8) ∧ wr (m 9 8) < 40))
    (o12 : ¬ wr (nxC m) < 48 → 57 < wr (nxC m) → ¬ wr (nxC m) = 40 → wr (nxC m) = 104 → wr (m 9 8) < 40 → (0 ≤ wr (m 9 8) ∧ wr (m 9 8) < 40))
    (o13 : ¬ wr (nxC m) < 48 → 57 < wr (nxC m) → ¬ wr (nxC m) = 40 → wr (nxC m) = 104 → wr (m 9 8) < 40 → (0 ≤ wr (m 9 8) ∧ wr (m 9 8) < 40))
    (o14 : ¬ wr (nxC m) < 48 → 57 < wr (nxC m) → ¬ wr (nxC m) = 40 → wr (nxC m) = 104 → wr (m 9 8) < 40 → κ (some (zi (wr (wr (((m 9 8) + 1) - 1))))) (zu (zu (zu (zu (zu m 2 3 ((m 2 3) + 1)) 14 ((wr (m 9 8)).toNat) (nxC m)) 15 ((wr (m 9 8)).toNat) 0) 16 ((wr (m 9 8)).toNat) 0) 9 8 ((m 9 8) + 1)))
    (o15 : ¬ wr (nxC m) < 48 → 57 < wr (nxC m) → ¬ wr (nxC m) = 40 → wr (nxC m) = 104 → ¬ wr (m 9 8) < 40 → κ (some (zi (-1))) (zu m 2 3 ((m 2 3) + 1)))
    (o16 : ¬ wr (nxC m) < 48 → 57 < wr (nxC m) → ¬ wr (nxC m) = 40 → ¬ wr (nxC m) = 104 → wr (nxC m) = 108 → wr (m 9 8) < 40 → (0 ≤ wr (m 9 8) ∧ wr (m 9 8) < 40))
    (o17 : ¬ wr (nxC m) < 48 → 57 < wr (nxC m) → ¬ wr (nxC m) = 40 → ¬ wr (nxC m) = 104 → wr (nxC m) = 108 → wr (m 9 8) < 40 → (0 ≤ wr (m 9 8) ∧ wr (m 9 8) < 40))
    (o18 : ¬ wr (nxC m) < 48 → 57 < wr (nxC m) → ¬ wr (nxC m) = 40 → ¬ wr (nxC m) = 104 → wr (nxC m) = 108 → wr (m 9 8) < 40 → (0 ≤ wr (m 9 8) ∧ wr (m 9 8) < 40))
    (o19 : ¬ wr (nxC m) < 48 → 57 < wr (nxC m) → ¬ wr (nxC m) = 40 → ¬ wr (nxC m) = 104 → wr (nxC m) = 108 → wr (m 9 8) < 40 → κ (some (zi (wr (wr (((m 9 8) + 1) - 1))))) (zu (zu (zu (zu (zu m 2 3 ((m 2 3) + 1)) 14 ((wr (m 9 8)).toNat) (nxC m)) 15 ((wr (m 9 8)).toNat) 0) 16 ((wr (m 9 8)).toNat) 0) 9 8 ((m 9 8) + 1)))
    (o20 : ¬ wr (nxC m) < 48 → 57 < wr (nxC m) → ¬ wr (nxC m) = 40 → ¬ wr (nxC m) = 104 → wr (nxC m) = 108 → ¬ wr (m 9 8) < 40 → κ (some (zi (-1))) (zu m 2 3 ((m 2 3) + 1)))
    (o21 : ¬ wr (nxC m) < 48 → 57 < wr (nxC m) → ¬ wr (nxC m) = 40 → ¬ wr (nxC m) = 104 → ¬ wr (nxC m) = 108 → wr (nxC m) = 119 → wr (m 9 8) < 40 → (0 ≤ wr (m 9 8) ∧ wr (m 9 8) < 40))
    (o22 : ¬ wr (nxC m) < 48 → 57 < wr (nxC m) → ¬ wr (nxC m) = 40 → ¬ wr (nxC m) = 104 → ¬ wr (nxC m) = 108 → wr (nxC m) = 119 → wr (m 9 8) < 40 → (0 ≤ wr (m 9 8) ∧ wr (m 9 8) < 40))
    (o23 : ¬ wr (nxC m) < 48 → 57 < wr (nxC m) → ¬ wr (nxC m) = 40 → ¬ wr (nxC m) = 104 → ¬ wr (nxC m) = 108 → wr (nxC m) = 119 → wr (m 9 8) < 40 → (0 ≤ wr (m 9 8) ∧ wr (m 9 8) < 40))
    (o24 : ¬ wr (nxC m) < 48 → 57 < wr (nxC m) → ¬ wr (nxC m) = 40 → ¬ wr (nxC m) = 104 → ¬ wr (nxC m) = 108 → wr (nxC m) = 119 → wr (m 9 8) < 40 → κ (some (zi (wr (wr (((m 9 8) + 1) - 1))))) (zu (zu (zu (zu (zu m 2 3 ((m 2 3) + 1)) 14 ((wr (m 9 8)).toNat) (nxC m)) 15 ((wr (m 9 8)).toNat) 0) 16 ((wr (m 9 8)).toNat) 0) 9 8 ((m 9 8) + 1)))
    (o25 : ¬ wr (nxC m) < 48 → 57 < wr (nxC m) → ¬ wr (nxC m) = 40 → ¬ wr (nxC m) = 104 → ¬ wr (nxC m) = 108 → wr (nxC m) = 119 → ¬ wr (m 9 8) < 40 → κ (some (zi (-1))) (zu m 2 3 ((m 2 3) + 1)))
    (o26 : ¬ wr (nxC m) < 48 → 57 < wr (nxC m) → ¬ wr (nxC m) = 40 → ¬ wr (nxC m) = 104 → ¬ wr (nxC m) = 108 → ¬ wr (nxC m) = 119 → wr (nxC m) = 112 → wr (m 9 8) < 40 → (0 ≤ wr (m 9 8) ∧ wr (m 9 8) < 40))
    (o27 : ¬ wr (nxC m) < 48 → 57 < wr (nxC m) → ¬ wr (nxC m) = 40 → ¬ wr (nxC m) = 104 → ¬ wr (nxC m) = 108 → ¬ wr (nxC m) = 119 → wr (nxC m) = 112 → wr (m 9 8) < 40 → (0 ≤ wr (m 9 8) ∧ wr (m 9 8) < 40))
    (o28 : ¬ wr (nxC m) < 48 → 57 < wr (nxC m) → ¬ wr (nxC m) = 40 → ¬ wr (nxC m) = 104 → ¬ wr (nxC m) = 108 → ¬ wr (nxC m) = 119 → wr (nxC m) = 112 → wr (m 9 8) < 40 → (0 ≤ wr (m 9 8) ∧ wr (m 9 8) < 40))
    (o29 : ¬ wr (nxC m) < 48 → 57 < wr (nxC m) → ¬ wr (nxC m) = 40 → ¬ wr (nxC m) = 104 → ¬ wr (nxC m) = 108 → ¬ wr (nxC m) = 119 → wr (nxC m) = 112 → wr (m 9 8) < 40 → κ (some (zi (wr (wr (((m 9 8) + 1) - 1))))) (zu (zu (zu (zu (zu m 2 3 ((m 2 3) + 1)) 14 ((wr (m 9 8)).toNat) (nxC m)) 15 ((wr (m 9 8)).toNat) 0) 16 ((wr (m 9 8)).toNat) 0) 9 8 ((m 9 8) + 1)))
    (o30 : ¬ wr (nxC m) < 48 → 57 < wr (nxC m) → ¬ wr (nxC m) = 40 → ¬ wr (nxC m) = 104 → ¬ wr (nxC m) = 108 → ¬ wr (nxC m) = 119 → wr (nxC m) = 112 → ¬ wr (m 9 8) < 40 → κ (some (zi (-1))) (zu m 2 3 ((m 2 3) + 1)))
    (o31 : ¬ wr (nxC m) < 48 → 57 < wr (nxC m) → ¬ wr (nxC m) = 40 → ¬ wr (nxC m) = 104 → ¬ wr (nxC m) = 108 → ¬ wr (nxC m) = 119 → ¬ wr (nxC m) = 112 → wr (nxC m) = 105 → wr (m 9 8) < 40 → (0 ≤ wr (m 9 8) ∧ wr (m 9 8) < 40))
    (o32 : ¬ wr (nxC m) < 48 → 57 < wr (nxC m) → ¬ wr (nxC m) = 40 → ¬ wr (nxC m) = 104 → ¬ wr (nxC m) = 108 → ¬ wr (nxC m) = 119 → ¬ wr (nxC m) = 112 → wr (nxC m) = 105 → wr (m 9 8) < 40 → (0 ≤ wr (m 9 8) ∧ wr (m 9 8) < 40))
    (o33 : ¬ wr (nxC m) < 48 → 57 < wr (nxC m) → ¬ wr (nxC m) = 40 → ¬ wr (nxC m) = 104 → ¬ wr (nxC m) = 108 → ¬ wr (nxC m) = 119 → ¬ wr (nxC m) = 112 → wr (nxC m) = 105 → wr (m 9 8) < 40 → (0 ≤ wr (m 9 8) ∧ wr (m 9 8) < 40))
    (o34 : ¬ wr (nxC m) < 48 → 57 < wr (nxC m) → ¬ wr (nxC m) = 40 → ¬ wr (nxC m) = 104 → ¬ wr (nxC m) = 108 → ¬ wr (nxC m) = 119 → ¬ wr (nxC m) = 112 → wr (nxC m) = 105 → wr (m 9 8) < 40 → κ (some (zi (wr (wr (((m 9 8) + 1) - 1))))) (zu (zu (zu (zu (zu m 2 3 ((m 2 3) + 1)) 14 ((wr (m 9 8)).toNat) (nxC m)) 15 ((wr (m 9 8)).toNat) 0) 16 ((wr (m 9 8)).toNat) 0) 9 8 ((m 9 8) + 1)))
    (o35 : ¬ wr (nxC m) < 48 → 57 < wr (nxC m) → ¬ wr (nxC m) = 40 → ¬ wr (nxC m) = 104 → ¬ wr (nxC m) = 108 → ¬ wr (nxC m) = 119 → ¬ wr (nxC m) = 112 → wr (nxC m) = 105 → ¬ wr (m 9 8) < 40 → κ (some (zi (-1))) (zu m 2 3 ((m 2 3) + 1)))
    (o36 : ¬ wr (nxC m) < 48 → 57 < wr (nxC m) → ¬ wr (nxC m) = 40 → ¬ wr (nxC m) = 104 → ¬ wr (nxC m) = 108 → ¬ wr (nxC m) = 119 → ¬ wr (nxC m) = 112 → ¬ wr (nxC m) = 105 → κ (some (zi (-1))) m)
    (o37 : ¬ wr (nxC m) < 48 → 57 < wr (nxC m) → wr (nxC m) = 40 → False)
    (o38 : ¬ wr (nxC m) < 48 → ¬ 57 < wr (nxC m) → T (D + 2) 72 (0, [(0, zr 2), (1, zi 3)], [], m) (fun r m1 => T (D + 3) 56 (25, [(0, zr 9), (1, zr 2), (2, zi (d : Int)), (3, zi (nxC m))], r.toList ++ [zi 48, zr 9], m1) κ)) :
    T (D + 3) 56 (0, [(0, zr 9), (1, zr 2), (2, zi (d : Int))], [], m) κ :=
  hT.1 [] 6 (D + 3) 56 _ κ (z_next hT (o1) (o2) (o3) (hT.1 [] 6 (D + 3) 56 _ _ (And.intro (fun a1 => (hT.1 [] 6 (D + 3) 56 (33, [(0, zr 9), (1, zr 2), (2, zi (d : Int)), (3, zi (nxC m))], [zi 40, zi (nxC m)], m) _ (And.intro (fun a3 => (And.intro (fun a5 => (o4 a1 a3 a5).elim) (fun a6 => (hT.1 [] 6 (D + 3) 56 (54, [(0, zr 9), (1, zr 2), (2, zi (d : Int)), (3, zi (nxC m))], [zi 108, zi (nxC m)], m) _ (And.intro (fun a7 => (o5 a1 a3 a6 a7).elim) (fun a8 => (And.intro (fun a9 => (o6 a1 a3 a6 a8 a9).elim) (fun a10 => (hT.1 [] 6 (D + 3) 56 (66, [(0, zr 9), (1, zr 2), (2, zi (d : Int)), (3, zi (nxC m))], [zi 112, zi (nxC m)], m) _ (And.intro (fun a11 => (o7 a1 a3 a6 a8 a10 a11).elim) (fun a12 => (And.intro (fun a13 => (o8 a1 a3 a6 a8 a10 a12 a13).elim) (fun a14 => (o9 a1 a3 a6 a8 a10 a12 a14)))))))))))))) (fun a4 => (hT.1 [] 6 (D + 3) 56 (41, [(0, zr 9), (1, zr 2), (2, zi (d : Int)), (3, zi (nxC m))], [zi ((d : Int) + 1), zr 2, zr 9], m) _ (o10 a1 (Classical.byContradiction a4))))))) (fun a2 => (hT.1 [] 6 (D + 3) 56 (14, [(0, zr 9), (1, zr 2), (2, zi (d : Int)), (3, zi (nxC m))], [zi 57, zi (nxC m)], m) _ (And.intro (fun a15 => (And.intro (fun a17 => (hT.1 [] 6 (D + 3) 56 (48, [(0, zr 9), (1, zr 2), (2, zi (d : Int)), (3, zi (nxC m))], [zi 104, zi (nxC m)], m) _ (And.intro (fun a19 => (hT.1 [] 6 (D + 3) 56 (84, [(0, zr 9), (1, zr 2), (2, zi (d : Int)), (3, zi (nxC m))], [zi ((m 2 3) + 1), zr 2], m) _ (And.intro trivial (hT.1 [] 6 (D + 2) 51 _ _ (And.intro (fun a21 => (hT.1 [] 6 (D + 2) 51 (15, [(0, zr 9), (1, zi (nxC m)), (2, zi 0), (3, zi 0)], [zr 14], (zu m 2 3 ((m 2 3) + 1))) _ (And.intro (And.intro (o11 a2 a15 a17 a19 a21) trivial) (hT.1 [] 6 (D + 2) 51 (25, [(0, zr 9), (1, zi (nxC m)), (2, zi 0), (3, zi 0)], [zr 15], (zu (zu m 2 3 ((m 2 3) + 1)) 14 ((wr (m 9 8)).toNat) (nxC m))) _ (And.intro (And.intro (o12 a2 a15 a17 a19 a21) trivial) (hT.1 [] 6 (D + 2) 51 (35, [(0, zr 9), (1, zi (nxC m)), (2, zi 0), (3, zi 0)], [zr 16], (zu (zu (zu m 2 3 ((m 2 3) + 1)) 14 ((wr (m 9 8)).toNat) (nxC m)) 15 ((wr (m 9 8)).toNat) 0)) _ (And.intro (And.intro (o13 a2 a15 a17 a19 a21) trivial) (hT.1 [] 6 (D + 2) 51 (43, [(0, zr 9), (1, zi (nxC m)), (2, zi 0), (3, zi 0)], [zr 9, zr 9], (zu (zu (zu (zu m 2 3 ((m 2 3) + 1)) 14 ((wr (m 9 8)).toNat) (nxC m)) 15 ((wr (m 9 8)).toNat) 0) 16 ((wr (m 9 8)).toNat) 0)) _ (And.intro trivial (hT.1 [] 6 (D + 2) 51 (55, [(0, zr 9), (1, zi (nxC m)), (2, zi 0), (3, zi 0)], [zi ((m 9 8) + 1)], (zu (zu (zu (zu (zu m 2 3 ((m 2 3) + 1)) 14 ((wr (m 9 8)).toNat) (nxC m)) 15 ((wr (m 9 8)).toNat) 0) 16 ((wr (m 9 8)).toNat) 0) 9 8 ((m 9 8) + 1))) _ (hT.1 [] 6 (D + 3) 56 _ _ (o14 a2 a15 a17 a19 a21)))))))))))) (fun a22 => (hT.1 [] 6 (D + 3) 56 _ _ (o15 a2 a15 a17 a19 a22)))))))) (fun a20 => (And.intro (fun a23 => (hT.1 [] 6 (D + 3) 56 (79, [(0, zr 9), (1, zr 2), (2, zi (d : Int)), (3, zi (nxC m))], [zr 2, zr 2], m) _ (And.intro trivial (hT.1 [] 6 (D + 3) 56 (89, [(0, zr 9), (1, zr 2), (2, zi (d : Int)), (3, zi (nxC m))], [zi (nxC m), zr 9], (zu m 2 3 ((m 2 3) + 1))) _ (hT.1 [] 6 (D + 2) 51 _ _ (And.intro (fun a25 => (hT.1 [] 6 (D + 2) 51 (15, [(0, zr 9), (1, zi (nxC m)), (2, zi 0), (3, zi 0)], [zr 14], (zu m 2 3 ((m 2 3) + 1))) _ (And.intro (And.intro (o16 a2 a15 a17 a20 a23 a25) trivial) (hT.1 [] 6 (D + 2) 51 (25, [(0, zr 9), (1, zi (nxC m)), (2, zi 0), (3, zi 0)], [zr 15], (zu (zu m 2 3 ((m 2 3) + 1)) 14 ((wr (m 9 8)).toNat) (nxC m))) _ (And.intro (And.intro (o17 a2 a15 a17 a20 a23 a25) trivial) (hT.1 [] 6 (D + 2) 51 (35, [(0, zr 9), (1, zi (nxC m)), (2, zi 0), (3, zi 0)], [zr 16], (zu (zu (zu m 2 3 ((m 2 3) + 1)) 14 ((wr (m 9 8)).toNat) (nxC m)) 15 ((wr (m 9 8)).toNat) 0)) _ (And.intro (And.intro (o18 a2 a15 a17 a20 a23 a25) trivial) (hT.1 [] 6 (D + 2) 51 (43, [(0, zr 9), (1, zi (nxC m)), (2, zi 0), (3, zi 0)], [zr 9, zr 9], (zu (zu (zu (zu m 2 3 ((m 2 3) + 1)) 14 ((wr (m 9 8)).toNat) (nxC m)) 15 ((wr (m 9 8)).toNat) 0) 16 ((wr (m 9 8)).toNat) 0)) _ (And.intro trivial (hT.1 [] 6 (D + 2) 51 (55, [(0, zr 9), (1, zi (nxC m)), (2, zi 0), (3, zi 0)], [zi ((m 9 8) + 1)], (zu (zu (zu (zu (zu m 2 3 ((m 2 3) + 1)) 14 ((wr (m 9 8)).toNat) (nxC m)) 15 ((wr (m 9 8)).toNat) 0) 16 ((wr (m 9 8)).toNat) 0) 9 8 ((m 9 8) + 1))) _ (hT.1 [] 6 (D + 3) 56 _ _ (o19 a2 a15 a17 a20 a23 a25)))))))))))) (fun a26 => (hT.1 [] 6 (D + 3) 56 _ _ (o20 a2 a15 a17 a20 a23 a26))))))))) (fun a24 => (hT.1 [] 6 (D + 3) 56 (60, [(0, zr 9), (1, zr 2), (2, zi (d : Int)), (3, zi (nxC m))], [zi 119, zi (nxC m)], m) _ (And.intro (fun a27 => (hT.1 [] 6 (D + 3) 56 (84, [(0, zr 9), (1, zr 2), (2, zi (d : Int)), (3, zi (nxC m))], [zi ((m 2 3) + 1), zr 2], m) _ (And.intro trivial (hT.1 [] 6 (D + 2) 51 _ _ (And.intro (fun a29 => (hT.1 [] 6 (D + 2) 51 (15, [(0, zr 9), (1, zi (nxC m)), (2, zi 0), (3, zi 0)], [zr 14], (zu m 2 3 ((m 2 3) + 1))) _ (And.intro (And.intro (o21 a2 a15 a17 a20 a24 a27 a29) trivial) (hT.1 [] 6 (D + 2) 51 (25, [(0, zr 9), (1, zi (nxC m)), (2, zi 0), (3, zi 0)], [zr 15], (zu (zu m 2 3 ((m 2 3) + 1)) 14 ((wr (m 9 8)).toNat) (nxC m))) _ (And.intro (And.intro (o22 a2 a15 a17 a20 a24 a27 a29) trivial) (hT.1 [] 6 (D + 2) 51 (35, [(0, zr 9), (1, zi (nxC m)), (2, zi 0), (3, zi 0)], [zr 16], (zu (zu (zu m 2 3 ((m 2 3) + 1)) 14 ((wr (m 9 8)).toNat) (nxC m)) 15 ((wr (m 9 8)).toNat) 0)) _ (And.intro (And.intro (o23 a2 a15 a17 a20 a24 a27 a29) trivial) (hT.1 [] 6 (D + 2) 51 (43, [(0, zr 9), (1, zi (nxC m)), (2, zi 0), (3, zi 0)], [zr 9, zr 9], (zu (zu (zu (zu m 2 3 ((m 2 3) + 1)) 14 ((wr (m 9 8)).toNat) (nxC m)) 15 ((wr (m 9 8)).toNat) 0) 16 ((wr (m 9 8)).toNat) 0)) _ (And.intro trivial (hT.1 [] 6 (D + 2) 51 (55, [(0, zr 9), (1, zi (nxC m)), (2, zi 0), (3, zi 0)], [zi ((m 9 8) + 1)], (zu (zu (zu (zu (zu m 2 3 ((m 2 3) + 1)) 14 ((wr (m 9 8)).toNat) (nxC m)) 15 ((wr (m 9 8)).toNat) 0) 16 ((wr (m 9 8)).toNat) 0) 9 8 ((m 9 8) + 1))) _ (hT.1 [] 6 (D + 3) 56 _ _ (o24 a2 a15 a17 a20 a24 a27 a29)))))))))))) (fun a30 => (hT.1 [] 6 (D + 3) 56 _ _ (o25 a2 a15 a17 a20 a24 a27 a30)))))))) (fun a28 => (And.intro (fun a31 => (hT.1 [] 6 (D + 3) 56 (79, [(0, zr 9), (1, zr 2), (2, zi (d : Int)), (3, zi (nxC m))], [zr 2, zr 2], m) _ (And.intro trivial (hT.1 [] 6 (D + 3) 56 (89, [(0, zr 9), (1, zr 2), (2, zi (d : Int)), (3, zi (nxC m))], [zi (nxC m), zr 9], (zu m 2 3 ((m 2 3) + 1))) _ (hT.1 [] 6 (D + 2) 51 _ _ (And.intro (fun a33 => (hT.1 [] 6 (D + 2) 51 (15, [(0, zr 9), (1, zi (nxC m)), (2, zi 0), (3, zi 0)], [zr 14], (zu m 2 3 ((m 2 3) + 1))) _ (And.intro (And.intro (o26 a2 a15 a17 a20 a24 a28 a31 a33) trivial) (hT.1 [] 6 (D + 2) 51 (25, [(0, zr 9), (1, zi (nxC m)), (2, zi 0), (3, zi 0)], [zr 15], (zu (zu m 2 3 ((m 2 3) + 1)) 14 ((wr (m 9 8)).toNat) (nxC m))) _ (And.intro (And.intro (o27 a2 a15 a17 a20 a24 a28 a31 a33) trivial) (hT.1 [] 6 (D + 2) 51 (35, [(0, zr 9), (1, zi (nxC m)), (2, zi 0), (3, zi 0)], [zr 16], (zu (zu (zu m 2 3 ((m 2 3) + 1)) 14 ((wr (m 9 8)).toNat) (nxC m)) 15 ((wr (m 9 8)).toNat) 0)) _ (And.intro (And.intro (o28 a2 a15 a17 a20 a24 a28 a31 a33) trivial) (hT.1 [] 6 (D + 2) 51 (43, [(0, zr 9), (1, zi (nxC m)), (2, zi 0), (3, zi 0)], [zr 9, zr 9], (zu (zu (zu (zu m 2 3 ((m 2 3) + 1)) 14 ((wr (m 9 8)).toNat) (nxC m)) 15 ((wr (m 9 8)).toNat) 0) 16 ((wr (m 9 8)).toNat) 0)) _ (And.intro trivial (hT.1 [] 6 (D + 2) 51 (55, [(0, zr 9), (1, zi (nxC m)), (2, zi 0), (3, zi 0)], [zi ((m 9 8) + 1)], (zu (zu (zu (zu (zu m 2 3 ((m 2 3) + 1)) 14 ((wr (m 9 8)).toNat) (nxC m)) 15 ((wr (m 9 8)).toNat) 0) 16 ((wr (m 9 8)).toNat) 0) 9 8 ((m 9 8) + 1))) _ (hT.1 [] 6 (D + 3) 56 _ _ (o29 a2 a15 a17 a20 a24 a28 a31 a33)))))))))))) (fun a34 => (hT.1 [] 6 (D + 3) 56 _ _ (o30 a2 a15 a17 a20 a24 a28 a31 a34))))))))) (fun a32 => (hT.1 [] 6 (D + 3) 56 (72, [(0, zr 9), (1, zr 2), (2, zi (d : Int)), (3, zi (nxC m))], [zi 105, zi (nxC m)], m) _ (And.intro (fun a35 => (hT.1 [] 6 (D + 3) 56 (84, [(0, zr 9), (1, zr 2), (2, zi (d : Int)), (3, zi (nxC m))], [zi ((m 2 3) + 1), zr 2], m) _ (And.intro trivial (hT.1 [] 6 (D + 2) 51 _ _ (And.intro (fun a37 => (hT.1 [] 6 (D + 2) 51 (15, [(0, zr 9), (1, zi (nxC m)), (2, zi 0), (3, zi 0)], [zr 14], (zu m 2 3 ((m 2 3) + 1))) _ (And.intro (And.intro (o31 a2 a15 a17 a20 a24 a28 a32 a35 a37) trivial) (hT.1 [] 6 (D + 2) 51 (25, [(0, zr 9), (1, zi (nxC m)), (2, zi 0), (3, zi 0)], [zr 15], (zu (zu m 2 3 ((m 2 3) + 1)) 14 ((wr (m 9 8)).toNat) (nxC m))) _ (And.intro (And.intro (o32 a2 a15 a17 a20 a24 a28 a32 a35 a37) trivial) (hT.1 [] 6 (D + 2) 51 (35, [(0, zr 9), (1, zi (nxC m)), (2, zi 0), (3, zi 0)], [zr 16], (zu (zu (zu m 2 3 ((m 2 3) + 1)) 14 ((wr (m 9 8)).toNat) (nxC m)) 15 ((wr (m 9 8)).toNat) 0)) _ (And.intro (And.intro (o33 a2 a15 a17 a20 a24 a28 a32 a35 a37) trivial) (hT.1 [] 6 (D + 2) 51 (43, [(0, zr 9), (1, zi (nxC m)), (2, zi 0), (3, zi 0)], [zr 9, zr 9], (zu (zu (zu (zu m 2 3 ((m 2 3) + 1)) 14 ((wr (m 9 8)).toNat) (nxC m)) 15 ((wr (m 9 8)).toNat) 0) 16 ((wr (m 9 8)).toNat) 0)) _ (And.intro trivial (hT.1 [] 6 (D + 2) 51 (55, [(0, zr 9), (1, zi (nxC m)), (2, zi 0), (3, zi 0)], [zi ((m 9 8) + 1)], (zu (zu (zu (zu (zu m 2 3 ((m 2 3) + 1)) 14 ((wr (m 9 8)).toNat) (nxC m)) 15 ((wr (m 9 8)).toNat) 0) 16 ((wr (m 9 8)).toNat) 0) 9 8 ((m 9 8) + 1))) _ (hT.1 [] 6 (D + 3) 56 _ _ (o34 a2 a15 a17 a20 a24 a28 a32 a35 a37)))))))))))) (fun a38 => (hT.1 [] 6 (D + 3) 56 _ _ (o35 a2 a15 a17 a20 a24 a28 a32 a35 a38)))))))) (fun a36 => (o36 a2 a15 a17 a20 a24 a28 a32 a36))))))))))))))) (fun a18 => (o37 a2 a15 (Classical.byContradiction a18)).elim))) (fun a16 => (o38 a2 a16))))))))
theorem zb56_0 (hT : zRules T) {D : Nat} {κ : Option zA → zM → Prop} {m : zM} {d : Nat}  (hB : zB m) (h_d : d ≤ 4) (hf0 : 0 ≤ m 2 3 ∧ m 2 3 ≤ 90) 
    (k1 : (nxC m) < 48 → ¬ (nxC m) = 40 → κ (some (zi (-1))) m)
    (k2 : (nxC m) < 48 → (nxC m) = 40 → T (D + 2) 57 (0, [(0, zr 9), (1, zr 2), (2, zi ((d : Int) + 1))], [], m) (fun r m1 => T (D + 3) 56 (44, [(0, zr 9), (1, zr 2), (2, zi (d : Int)), (3, zi (nxC m))], r.toList ++ [], m1) κ))
    (k3 : ¬ (nxC m) < 48 → 57 < (nxC m) → (nxC m) = 104 → (m 9 8) < 40 → zB (zu (zu (zu (zu (zu m 2 3 ((m 2 3) + 1)) 14 ((m 9 8).toNat) (nxC m)) 15 ((m 9 8).toNat) 0) 16 ((m 9 8).toNat) 0) 9 8 ((m 9 8) + 1)) → κ (some (zi (((m 9 8) + 1) - 1))) (zu (zu (zu (zu (zu m 2 3 ((m 2 3) + 1)) 14 ((m 9 8).toNat) (nxC m)) 15 ((m 9 8).toNat) 0) 16 ((m 9 8).toNat) 0) 9 8 ((m 9 8) + 1)))
    (k4 : ¬ (nxC m) < 48 → 57 < (nxC m) → (nxC m) = 104 → ¬ (m 9 8) < 40 → zB (zu m 2 3 ((m 2 3) + 1)) → κ (some (zi (-1))) (zu m 2 3 ((m 2 3) + 1)))
    (k5 : ¬ (nxC m) < 48 → 57 < (nxC m) → ¬ (nxC m) = 104 → (nxC m) = 108 → (m 9 8) < 40 → zB (zu (zu (zu (zu (zu m 2 3 ((m 2 3) + 1)) 14 ((m 9 8).toNat) (nxC m)) 15 ((m 9 8).toNat) 0) 16 ((m 9 8).toNat) 0) 9 8 ((m 9 8) + 1)) → κ (some (zi (((m 9 8) + 1) - 1))) (zu (zu (zu (zu (zu m 2 3 ((m 2 3) + 1)) 14 ((m 9 8).toNat) (nxC m)) 15 ((m 9 8).toNat) 0) 16 ((m 9 8).toNat) 0) 9 8 ((m 9 8) + 1)))
    (k6 : ¬ (nxC m) < 48 → 57 < (nxC m) → ¬ (nxC m) = 104 → (nxC m) = 108 → ¬ (m 9 8) < 40 → zB (zu m 2 3 ((m 2 3) + 1)) → κ (some (zi (-1))) (zu m 2 3 ((m 2 3) + 1)))
    (k7 : ¬ (nxC m) < 48 → 57 < (nxC m) → ¬ (nxC m) = 104 → ¬ (nxC m) = 108 → (nxC m) = 119 → (m 9 8) < 40 → zB (zu (zu (zu (zu (zu m 2 3 ((m 2 3) + 1)) 14 ((m 9 8).toNat) (nxC m)) 15 ((m 9 8).toNat) 0) 16 ((m 9 8).toNat) 0) 9 8 ((m 9 8) + 1)) → κ (some (zi (((m 9 8) + 1) - 1))) (zu (zu (zu (zu (zu m 2 3 ((m 2 3) + 1)) 14 ((m 9 8).toNat) (nxC m)) 15 ((m 9 8).toNat) 0) 16 ((m 9 8).toNat) 0) 9 8 ((m 9 8) + 1)))
    (k8 : ¬ (nxC m) < 48 → 57 < (nxC m) → ¬ (nxC m) = 104 → ¬ (nxC m) = 108 → (nxC m) = 119 → ¬ (m 9 8) < 40 → zB (zu m 2 3 ((m 2 3) + 1)) → κ (some (zi (-1))) (zu m 2 3 ((m 2 3) + 1)))
    (k9 : ¬ (nxC m) < 48 → 57 < (nxC m) → ¬ (nxC m) = 104 → ¬ (nxC m) = 108 → ¬ (nxC m) = 119 → (nxC m) = 112 → (m 9 8) < 40 → zB (zu (zu (zu (zu (zu m 2 3 ((m 2 3) + 1)) 14 ((m 9 8).toNat) (nxC m)) 15 ((m 9 8).toNat) 0) 16 ((m 9 8).toNat) 0) 9 8 ((m 9 8) + 1)) → κ (some (zi (((m 9 8) + 1) - 1))) (zu (zu (zu (zu (zu m 2 3 ((m 2 3) + 1)) 14 ((m 9 8).toNat) (nxC m)) 15 ((m 9 8).toNat) 0) 16 ((m 9 8).toNat) 0) 9 8 ((m 9 8) + 1)))
    (k10 : ¬ (nxC m) < 48 → 57 < (nxC m) → ¬ (nxC m) = 104 → ¬ (nxC m) = 108 → ¬ (nxC m) = 119 → (nxC m) = 112 → ¬ (m 9 8) < 40 → zB (zu m 2 3 ((m 2 3) + 1)) → κ (some (zi (-1))) (zu m 2 3 ((m 2 3) + 1)))
    (k11 : ¬ (nxC m) < 48 → 57 < (nxC m) → ¬ (nxC m) = 104 → ¬ (nxC m) = 108 → ¬ (nxC m) = 119 → ¬ (nxC m) = 112 → (nxC m) = 105 → (m 9 8) < 40 → zB (zu (zu (zu (zu (zu m 2 3 ((m 2 3) + 1)) 14 ((m 9 8).toNat) (nxC m)) 15 ((m 9 8).toNat) 0) 16 ((m 9 8).toNat) 0) 9 8 ((m 9 8) + 1)) → κ (some (zi (((m 9 8) + 1) - 1))) (zu (zu (zu (zu (zu m 2 3 ((m 2 3) + 1)) 14 ((m 9 8).toNat) (nxC m)) 15 ((m 9 8).toNat) 0) 16 ((m 9 8).toNat) 0) 9 8 ((m 9 8) + 1)))
    (k12 : ¬ (nxC m) < 48 → 57 < (nxC m) → ¬ (nxC m) = 104 → ¬ (nxC m) = 108 → ¬ (nxC m) = 119 → ¬ (nxC m) = 112 → (nxC m) = 105 → ¬ (m 9 8) < 40 → zB (zu m 2 3 ((m 2 3) + 1)) → κ (some (zi (-1))) (zu m 2 3 ((m 2 3) + 1)))
    (k13 : ¬ (nxC m) < 48 → 57 < (nxC m) → ¬ (nxC m) = 104 → ¬ (nxC m) = 108 → ¬ (nxC m) = 119 → ¬ (nxC m) = 112 → ¬ (nxC m) = 105 → κ (some (zi (-1))) m)
    (k14 : ¬ (nxC m) < 48 → ¬ 57 < (nxC m) → T (D + 2) 72 (0, [(0, zr 2), (1, zi 3)], [], m) (fun r m1 => T (D + 3) 56 (25, [(0, zr 9), (1, zr 2), (2, zi (d : Int)), (3, zi (nxC m))], r.toList ++ [zi 48, zr 9], m1) κ)) :
    T (D + 3) 56 (0, [(0, zr 9), (1, zr 2), (2, zi (d : Int))], [], m) κ := by
  have hb2 : 0 ≤ (m 2 2) ∧ (m 2 2) ≤ 80 := hB 2 2
  have hb3 : (-1) ≤ (nxC m) ∧ (nxC m) ≤ 65535 := nxCBo m (fun j => hB 3 j)
  have hb4 : 0 ≤ (m 9 8) ∧ (m 9 8) ≤ 40 := hB 9 8
  have he0 : wr (nxC m) = (nxC m) := wr_id (by omega) (by omega)
  have he1 : wr (m 9 8) = (m 9 8) := wr_id (by omega) (by omega)
  have he2 : wr (((m 9 8) + 1) - 1) = (((m 9 8) + 1) - 1) := wr_id (by omega) (by omega)
  have key := @zb56_0r T hT D κ m d
  simp only [he0, he1, he2, Int.toNat_natCast] at key
  exact key
    (fun j => hB 3 j)
    (by refine ⟨?_, ?_⟩ <;> omega)
    (by refine ⟨?_, ?_⟩ <;> omega)
    (fun x0 x1 x2 => by omega)
    (fun x0 x1 x2 x3 => by omega)
    (fun x0 x1 x2 x3 x4 => by omega)
    (fun x0 x1 x2 x3 x4 x5 => by omega)
    (fun x0 x1 x2 x3 x4 x5 x6 => by omega)
    (fun x0 x1 x2 x3 x4 x5 x6 => k1 x0 x1)
    k2
    (fun x0 x1 x2 x3 x4 => by refine ⟨?_, ?_⟩ <;> omega)
    (fun x0 x1 x2 x3 x4 => by refine ⟨?_, ?_⟩ <;> omega)
    (fun x0 x1 x2 x3 x4 => by refine ⟨?_, ?_⟩ <;> omega)
    (fun x0 x1 x2 x3 x4 => k3 x0 x1 x3 x4 (zB_u (zB_u (zB_u (zB_u (zB_u hB (show (-1) ≤ ((m 2 3) + 1) ∧ ((m 2 3) + 1) ≤ 100 from ⟨by omega, by omega⟩)) (show (-1) ≤ (nxC m) ∧ (nxC m) ≤ 65535 from ⟨by omega, by omega⟩)) (show 0 ≤ 0 ∧ 0 ≤ 999 from ⟨by omega, by omega⟩)) (show 0 ≤ 0 ∧ 0 ≤ 39 from ⟨by omega, by omega⟩)) (show 0 ≤ ((m 9 8) + 1) ∧ ((m 9 8) + 1) ≤ 40 from ⟨by omega, by omega⟩)))
    (fun x0 x1 x2 x3 x4 => k4 x0 x1 x3 x4 (zB_u hB (show (-1) ≤ ((m 2 3) + 1) ∧ ((m 2 3) + 1) ≤ 100 from ⟨by omega, by omega⟩)))
    (fun x0 x1 x2 x3 x4 x5 => by refine ⟨?_, ?_⟩ <;> omega)
    (fun x0 x1 x2 x3 x4 x5 => by refine ⟨?_, ?_⟩ <;> omega)
    (fun x0 x1 x2 x3 x4 x5 => by refine ⟨?_, ?_⟩ <;> omega)
    (fun x0 x1 x2 x3 x4 x5 => k5 x0 x1 x3 x4 x5 (zB_u (zB_u (zB_u (zB_u (zB_u hB (show (-1) ≤ ((m 2 3) + 1) ∧ ((m 2 3) + 1) ≤ 100 from ⟨by omega, by omega⟩)) (show (-1) ≤ (nxC m) ∧ (nxC m) ≤ 65535 from ⟨by omega, by omega⟩)) (show 0 ≤ 0 ∧ 0 ≤ 999 from ⟨by omega, by omega⟩)) (show 0 ≤ 0 ∧ 0 ≤ 39 from ⟨by omega, by omega⟩)) (show 0 ≤ ((m 9 8) + 1) ∧ ((m 9 8) + 1) ≤ 40 from ⟨by omega, by omega⟩)))
    (fun x0 x1 x2 x3 x4 x5 => k6 x0 x1 x3 x4 x5 (zB_u hB (show (-1) ≤ ((m 2 3) + 1) ∧ ((m 2 3) + 1) ≤ 100 from ⟨by omega, by omega⟩)))
    (fun x0 x1 x2 x3 x4 x5 x6 => by refine ⟨?_, ?_⟩ <;> omega)
    (fun x0 x1 x2 x3 x4 x5 x6 => by refine ⟨?_, ?_⟩ <;> omega)
    (fun x0 x1 x2 x3 x4 x5 x6 => by refine ⟨?_, ?_⟩ <;> omega)
    (fun x0 x1 x2 x3 x4 x5 x6 => k7 x0 x1 x3 x4 x5 x6 (zB_u (zB_u (zB_u (zB_u (zB_u hB (show (-1) ≤ ((m 2 3) + 1) ∧ ((m 2 3) + 1) ≤ 100 from ⟨by omega, by omega⟩)) (show (-1) ≤ (nxC m) ∧ (nxC m) ≤ 65535 from ⟨by omega, by omega⟩)) (show 0 ≤ 0 ∧ 0 ≤ 999 from ⟨by omega, by omega⟩)) (show 0 ≤ 0 ∧ 0 ≤ 39 from ⟨by omega, by omega⟩)) (show 0 ≤ ((m 9 8) + 1) ∧ ((m 9 8) + 1) ≤ 40 from ⟨by omega, by omega⟩)))
    (fun x0 x1 x2 x3 x4 x5 x6 => k8 x0 x1 x3 x4 x5 x6 (zB_u hB (show (-1) ≤ ((m 2 3) + 1) ∧ ((m 2 3) + 1) ≤ 100 from ⟨by omega, by omega⟩)))
    (fun x0 x1 x2 x3 x4 x5 x6 x7 => by refine ⟨?_, ?_⟩ <;> omega)
    (fun x0 x1 x2 x3 x4 x5 x6 x7 => by refine ⟨?_, ?_⟩ <;> omega)
    (fun x0 x1 x2 x3 x4 x5 x6 x7 => by refine ⟨?_, ?_⟩ <;> omega)
    (fun x0 x1 x2 x3 x4 x5 x6 x7 => k9 x0 x1 x3 x4 x5 x6 x7 (zB_u (zB_u (zB_u (zB_u (zB_u hB (show (-1) ≤ ((m 2 3) + 1) ∧ ((m 2 3) + 1) ≤ 100 from ⟨by omega, by omega⟩)) (show (-1) ≤ (nxC m) ∧ (nxC m) ≤ 65535 from ⟨by omega, by omega⟩)) (show 0 ≤ 0 ∧ 0 ≤ 999 from ⟨by omega, by omega⟩)) (show 0 ≤ 0 ∧ 0 ≤ 39 from ⟨by omega, by omega⟩)) (show 0 ≤ ((m 9 8) + 1) ∧ ((m 9 8) + 1) ≤ 40 from ⟨by omega, by omega⟩)))
    (fun x0 x1 x2 x3 x4 x5 x6 x7 => k10 x0 x1 x3 x4 x5 x6 x7 (zB_u hB (show (-1) ≤ ((m 2 3) + 1) ∧ ((m 2 3) + 1) ≤ 100 from ⟨by omega, by omega⟩)))
    (fun x0 x1 x2 x3 x4 x5 x6 x7 x8 => by refine ⟨?_, ?_⟩ <;> omega)
    (fun x0 x1 x2 x3 x4 x5 x6 x7 x8 => by refine ⟨?_, ?_⟩ <;> omega)
    (fun x0 x1 x2 x3 x4 x5 x6 x7 x8 => by refine ⟨?_, ?_⟩ <;> omega)
    (fun x0 x1 x2 x3 x4 x5 x6 x7 x8 => k11 x0 x1 x3 x4 x5 x6 x7 x8 (zB_u (zB_u (zB_u (zB_u (zB_u hB (show (-1) ≤ ((m 2 3) + 1) ∧ ((m 2 3) + 1) ≤ 100 from ⟨by omega, by omega⟩)) (show (-1) ≤ (nxC m) ∧ (nxC m) ≤ 65535 from ⟨by omega, by omega⟩)) (show 0 ≤ 0 ∧ 0 ≤ 999 from ⟨by omega, by omega⟩)) (show 0 ≤ 0 ∧ 0 ≤ 39 from ⟨by omega, by omega⟩)) (show 0 ≤ ((m 9 8) + 1) ∧ ((m 9 8) + 1) ≤ 40 from ⟨by omega, by omega⟩)))
    (fun x0 x1 x2 x3 x4 x5 x6 x7 x8 => k12 x0 x1 x3 x4 x5 x6 x7 x8 (zB_u hB (show (-1) ≤ ((m 2 3) + 1) ∧ ((m 2 3) + 1) ≤ 100 from ⟨by omega, by omega⟩)))
    (fun x0 x1 x2 x3 x4 x5 x6 x7 => k13 x0 x1 x3 x4 x5 x6 x7)
    (fun x0 x1 x2 => by omega)
    k14
theorem zb56_25r (hT : zRules T) {D : Nat} {κ : Option zA → zM → Prop} {m : zM} {v : Int} {lo : zL} (hlo : z_keep [] lo = []) 
    (o1 : wr (m 9 8) < 40 → (0 ≤ wr (m 9 8) ∧ wr (m 9 8) < 40))
    (o2 : wr (m 9 8) < 40 → (0 ≤ wr (m 9 8) ∧ wr (m 9 8) < 40))
    (o3 : wr (m 9 8) < 40 → (0 ≤ wr (m 9 8) ∧ wr (m 9 8) < 40))
    (o4 : wr (m 9 8) < 40 → κ (some (zi (wr (wr (((m 9 8) + 1) - 1))))) (zu (zu (zu (zu m 14 ((wr (m 9 8)).toNat) 48) 15 ((wr (m 9 8)).toNat) v) 16 ((wr (m 9 8)).toNat) 0) 9 8 ((m 9 8) + 1)))
    (o5 : ¬ wr (m 9 8) < 40 → False) :
    T (D + 3) 56 (25, lo, [zi v, zi 48, zr 9], m) κ :=
  zkeep hT hlo (hT.1 [] 6 (D + 3) 56 _ κ (hT.1 [] 6 (D + 2) 51 _ _ (And.intro (fun a1 => (hT.1 [] 6 (D + 2) 51 (15, [(0, zr 9), (1, zi 48), (2, zi v), (3, zi 0)], [zr 14], m) _ (And.intro (And.intro (o1 a1) trivial) (hT.1 [] 6 (D + 2) 51 (25, [(0, zr 9), (1, zi 48), (2, zi v), (3, zi 0)], [zr 15], (zu m 14 ((wr (m 9 8)).toNat) 48)) _ (And.intro (And.intro (o2 a1) trivial) (hT.1 [] 6 (D + 2) 51 (35, [(0, zr 9), (1, zi 48), (2, zi v), (3, zi 0)], [zr 16], (zu (zu m 14 ((wr (m 9 8)).toNat) 48) 15 ((wr (m 9 8)).toNat) v)) _ (And.intro (And.intro (o3 a1) trivial) (hT.1 [] 6 (D + 2) 51 (43, [(0, zr 9), (1, zi 48), (2, zi v), (3, zi 0)], [zr 9, zr 9], (zu (zu (zu m 14 ((wr (m 9 8)).toNat) 48) 15 ((wr (m 9 8)).toNat) v) 16 ((wr (m 9 8)).toNat) 0)) _ (And.intro trivial (hT.1 [] 6 (D + 2) 51 (55, [(0, zr 9), (1, zi 48), (2, zi v), (3, zi 0)], [zi ((m 9 8) + 1)], (zu (zu (zu (zu m 14 ((wr (m 9 8)).toNat) 48) 15 ((wr (m 9 8)).toNat) v) 16 ((wr (m 9 8)).toNat) 0) 9 8 ((m 9 8) + 1))) _ (hT.1 [] 6 (D + 3) 56 _ _ (o4 a1)))))))))))) (fun a2 => (o5 a2).elim))))
theorem zb56_25 (hT : zRules T) {D : Nat} {κ : Option zA → zM → Prop} {m : zM} {v : Int} {lo : zL} (hlo : z_keep [] lo = [])  (hB : zB m) (h_v : 0 ≤ v ∧ v ≤ 999) (hf0 : 0 ≤ m 9 8 ∧ m 9 8 ≤ 39) 
    (k1 : zB (zu (zu (zu (zu m 14 ((m 9 8).toNat) 48) 15 ((m 9 8).toNat) v) 16 ((m 9 8).toNat) 0) 9 8 ((m 9 8) + 1)) → κ (some (zi (((m 9 8) + 1) - 1))) (zu (zu (zu (zu m 14 ((m 9 8).toNat) 48) 15 ((m 9 8).toNat) v) 16 ((m 9 8).toNat) 0) 9 8 ((m 9 8) + 1))) :
    T (D + 3) 56 (25, lo, [zi v, zi 48, zr 9], m) κ := by
  have he0 : wr (m 9 8) = (m 9 8) := wr_id (by omega) (by omega)
  have he1 : wr (((m 9 8) + 1) - 1) = (((m 9 8) + 1) - 1) := wr_id (by omega) (by omega)
  have key := @zb56_25r T hT D κ m v lo hlo
  simp only [he0, he1, Int.toNat_natCast] at key
  exact key
    (fun x0 => by refine ⟨?_, ?_⟩ <;> omega)
    (fun x0 => by refine ⟨?_, ?_⟩ <;> omega)
    (fun x0 => by refine ⟨?_, ?_⟩ <;> omega)
    (fun x0 => k1  (zB_u (zB_u (zB_u (zB_u hB (show (-1) ≤ 48 ∧ 48 ≤ 65535 from ⟨by omega, by omega⟩)) (show 0 ≤ v ∧ v ≤ 999 from ⟨by omega, by omega⟩)) (show 0 ≤ 0 ∧ 0 ≤ 39 from ⟨by omega, by omega⟩)) (show 0 ≤ ((m 9 8) + 1) ∧ ((m 9 8) + 1) ≤ 40 from ⟨by omega, by omega⟩)))
    (fun x0 => by omega)
theorem zb56_44r (hT : zRules T) {D : Nat} {κ : Option zA → zM → Prop} {m : zM} {v : Int} {lo : zL} (hlo : z_keep [] lo = []) 
    (o1 : κ (some (zi (wr v))) m) :
    T (D + 3) 56 (44, lo, [zi v], m) κ :=
  zkeep hT hlo (hT.1 [] 6 (D + 3) 56 _ κ (o1))
theorem zb56_44 (hT : zRules T) {D : Nat} {κ : Option zA → zM → Prop} {m : zM} {v : Int} {lo : zL} (hlo : z_keep [] lo = [])  (h_v : (-1) ≤ v ∧ v ≤ 39) 
    (k1 : κ (some (zi v)) m) :
    T (D + 3) 56 (44, lo, [zi v], m) κ := by
  have he0 : wr v = v := wr_id (by omega) (by omega)
  have key := @zb56_44r T hT D κ m v lo hlo
  simp only [he0, Int.toNat_natCast] at key
  exact key
    k1
theorem zb57_0r (hT : zRules T) {D : Nat} {κ : Option zA → zM → Prop} {m : zM} {d : Nat} 
    (o1 : ¬ 4 < wr (d : Int) → T (D + 2) 52 (0, [(0, zr 9), (1, zr 2), (2, zi (d : Int))], [], (zu m 2 3 ((m 2 3) + 1))) (fun r m1 => T (D + 3) 57 (23, [(0, zr 9), (1, zr 2), (2, zi (d : Int))], r.toList ++ [], m1) κ))
    (o2 : 4 < wr (d : Int) → κ (some (zi (-1))) m) :
    T (D + 3) 57 (0, [(0, zr 9), (1, zr 2), (2, zi (d : Int))], [], m) κ :=
  hT.1 [] 6 (D + 3) 57 _ κ (And.intro (fun a1 => (hT.1 [] 6 (D + 3) 57 (12, [(0, zr 9), (1, zr 2), (2, zi (d : Int))], [zi (m 2 3), zr 2], m) _ (And.intro trivial (hT.1 [] 6 (D + 3) 57 (20, [(0, zr 9), (1, zr 2), (2, zi (d : Int))], [zi (d : Int), zr 2, zr 9], (zu m 2 3 ((m 2 3) + 1))) _ (o1 a1))))) (fun a2 => (o2 (Classical.byContradiction a2))))
theorem zb57_0 (hT : zRules T) {D : Nat} {κ : Option zA → zM → Prop} {m : zM} {d : Nat}  (hB : zB m) (h_d : d ≤ 5) (hf0 : 0 ≤ m 2 3 ∧ m 2 3 ≤ 90) 
    (k1 : ¬ 4 < (d : Int) → zB (zu m 2 3 ((m 2 3) + 1)) → T (D + 2) 52 (0, [(0, zr 9), (1, zr 2), (2, zi (d : Int))], [], (zu m 2 3 ((m 2 3) + 1))) (fun r m1 => T (D + 3) 57 (23, [(0, zr 9), (1, zr 2), (2, zi (d : Int))], r.toList ++ [], m1) κ))
    (k2 : 4 < (d : Int) → κ (some (zi (-1))) m) :
    T (D + 3) 57 (0, [(0, zr 9), (1, zr 2), (2, zi (d : Int))], [], m) κ := by
  have he0 : wr (d : Int) = (d : Int) := wr_id (by omega) (by omega)
  have key := @zb57_0r T hT D κ m d
  simp only [he0, Int.toNat_natCast] at key
  exact key
    (fun x0 => k1 x0 (zB_u hB (show (-1) ≤ ((m 2 3) + 1) ∧ ((m 2 3) + 1) ≤ 100 from ⟨by omega, by omega⟩)))
    k2
theorem zb57_23r (hT : zRules T) {D : Nat} {κ : Option zA → zM → Prop} {m : zM} {v : Int} {lo : zL} (hlo : z_keep [1] lo = [(1, zr 2)]) 
    (o1 : wr v = (-1) → κ (some (zi (-1))) m)
    (o2 : ¬ wr v = (-1) → ∀ j, zbd 3 j (m 3 j))
    (o3 : ¬ wr v = (-1) → (0 ≤ (m 2 3) ∧ (m 2 3) ≤ 1000))
    (o4 : ¬ wr v = (-1) → (0 ≤ (m 2 2) ∧ (m 2 2) ≤ 80))
    (o5 : ¬ wr v = (-1) → wr (nxC m) = 41 → κ (some (zi (wr v))) (zu m 2 3 ((m 2 3) + 1)))
    (o6 : ¬ wr v = (-1) → ¬ wr (nxC m) = 41 → κ (some (zi (-1))) m) :
    T (D + 3) 57 (23, lo, [zi v], m) κ :=
  zkeep hT hlo (hT.1 [] 6 (D + 3) 57 _ κ (And.intro (fun a1 => (o1 a1)) (fun a2 => (hT.1 [] 6 (D + 3) 57 (32, [(1, zr 2), (3, zi v)], [zi 41, zr 2], m) _ (hT.1 [] 6 (D + 2) 70 _ _ (z_next hT (o2 a2) (o3 a2) (o4 a2) (hT.1 [] 6 (D + 2) 70 _ _ (And.intro (fun a3 => (hT.1 [] 6 (D + 2) 70 (16, [(0, zr 2), (1, zi 41)], [zi 1, zi (m 2 3), zr 2], m) _ (And.intro trivial (And.intro (z_b01L rfl) (hT.1 [] 6 (D + 3) 57 _ _ (And.intro (fun a5 => (z_litF a5 rfl).elim) (fun _ => (o5 a2 a3)))))))) (fun a4 => (And.intro (z_b01L rfl) (hT.1 [] 6 (D + 3) 57 _ _ (And.intro (fun _ => (o6 a2 a4)) (fun a6 => (a6 (z_litT rfl)).elim)))))))))))))
theorem zb57_23 (hT : zRules T) {D : Nat} {κ : Option zA → zM → Prop} {m : zM} {v : Int} {lo : zL} (hlo : z_keep [1] lo = [(1, zr 2)])  (hB : zB m) (h_v : (-1) ≤ v ∧ v ≤ 39) (hf0 : 0 ≤ m 2 3 ∧ m 2 3 ≤ 90) 
    (k1 : v = (-1) → κ (some (zi (-1))) m)
    (k2 : ¬ v = (-1) → (nxC m) = 41 → zB (zu m 2 3 ((m 2 3) + 1)) → κ (some (zi v)) (zu m 2 3 ((m 2 3) + 1)))
    (k3 : ¬ v = (-1) → ¬ (nxC m) = 41 → κ (some (zi (-1))) m) :
    T (D + 3) 57 (23, lo, [zi v], m) κ := by
  have hb2 : 0 ≤ (m 2 2) ∧ (m 2 2) ≤ 80 := hB 2 2
  have hb3 : (-1) ≤ (nxC m) ∧ (nxC m) ≤ 65535 := nxCBo m (fun j => hB 3 j)
  have he0 : wr v = v := wr_id (by omega) (by omega)
  have he1 : wr (nxC m) = (nxC m) := wr_id (by omega) (by omega)
  have key := @zb57_23r T hT D κ m v lo hlo
  simp only [he0, he1, Int.toNat_natCast] at key
  exact key
    k1
    (fun x0 => fun j => hB 3 j)
    (fun x0 => by refine ⟨?_, ?_⟩ <;> omega)
    (fun x0 => by refine ⟨?_, ?_⟩ <;> omega)
    (fun x0 x1 => k2 x0 x1 (zB_u hB (show (-1) ≤ ((m 2 3) + 1) ∧ ((m 2 3) + 1) ≤ 100 from ⟨by omega, by omega⟩)))
    k3
theorem zb52_57br (hT : zRules T) {D : Nat} {κ : Option zA → zM → Prop} {m : zM} {v : Int} {sg : Int} {lo : zL} (hlo : z_keep [0, 3, 4] lo = [(0, zr 9), (3, zi v), (4, zi sg)]) 
    (o1 : κ (some (zi (-1))) m) :
    T (D + 3) 52 (57, lo, [zi (-1)], m) κ :=
  zkeep hT hlo (hT.1 [] 6 (D + 3) 52 _ κ (And.intro (fun a1 => (z_litF a1 rfl).elim) (fun _ => (hT.1 [] 6 (D + 3) 52 (78, [(0, zr 9), (3, zi v), (4, zi sg), (5, zi (-1))], [zi (-1)], m) _ (o1)))))
theorem zb52_57b (hT : zRules T) {D : Nat} {κ : Option zA → zM → Prop} {m : zM} {v : Int} {sg : Int} {lo : zL} (hlo : z_keep [0, 3, 4] lo = [(0, zr 9), (3, zi v), (4, zi sg)])  (h_v : 0 ≤ v ∧ v ≤ 39) (h_sg : 0 ≤ sg ∧ sg ≤ 65535) 
    (k1 : κ (some (zi (-1))) m) :
    T (D + 3) 52 (57, lo, [zi (-1)], m) κ := by
  exact zb52_57br hT hlo
    k1
theorem zb53_60br (hT : zRules T) {D : Nat} {κ : Option zA → zM → Prop} {m : zM} {d : Nat} {v : Int} {k : Nat} {sg : Int} {lo : zL} (hlo : z_keep [0, 1, 2, 3, 4, 5] lo = [(0, zr 9), (1, zr 2), (2, zi (d : Int)), (3, zi v), (4, zi (k : Int)), (5, zi sg)]) 
    (o1 : T (D + 3) 53 (10, [(0, zr 9), (1, zr 2), (2, zi (d : Int)), (3, zi (-1)), (4, zi ((k : Int) + 1))], [], m) κ) :
    T (D + 3) 53 (60, lo, [zi (-1)], m) κ :=
  zkeep hT hlo (hT.1 [(10, [0, 1, 2, 3, 4])] 6 (D + 3) 53 _ κ (And.intro (fun a1 => (z_litF a1 rfl).elim) (fun _ => (hT.1 [(10, [0, 1, 2, 3, 4])] 6 (D + 3) 53 (81, [(0, zr 9), (1, zr 2), (2, zi (d : Int)), (3, zi v), (4, zi (k : Int)), (5, zi sg), (6, zi (-1))], [zi (-1)], m) _ (o1)))))
theorem zb53_60b (hT : zRules T) {D : Nat} {κ : Option zA → zM → Prop} {m : zM} {d : Nat} {v : Int} {k : Nat} {sg : Int} {lo : zL} (hlo : z_keep [0, 1, 2, 3, 4, 5] lo = [(0, zr 9), (1, zr 2), (2, zi (d : Int)), (3, zi v), (4, zi (k : Int)), (5, zi sg)])  (h_d : d ≤ 4) (h_v : 0 ≤ v ∧ v ≤ 39) (h_k : k ≤ 100) (h_sg : 0 ≤ sg ∧ sg ≤ 65535) 
    (k1 : T (D + 3) 53 (10, [(0, zr 9), (1, zr 2), (2, zi (d : Int)), (3, zi (-1)), (4, zi ((k : Int) + 1))], [], m) κ) :
    T (D + 3) 53 (60, lo, [zi (-1)], m) κ := by
  exact zb53_60br hT hlo
    k1
theorem zb54_60br (hT : zRules T) {D : Nat} {κ : Option zA → zM → Prop} {m : zM} {d : Nat} {v : Int} {k : Nat} {sg : Int} {lo : zL} (hlo : z_keep [0, 1, 2, 3, 4, 5] lo = [(0, zr 9), (1, zr 2), (2, zi (d : Int)), (3, zi v), (4, zi (k : Int)), (5, zi sg)]) 
    (o1 : T (D + 3) 54 (10, [(0, zr 9), (1, zr 2), (2, zi (d : Int)), (3, zi (-1)), (4, zi ((k : Int) + 1))], [], m) κ) :
    T (D + 3) 54 (60, lo, [zi (-1)], m) κ :=
  zkeep hT hlo (hT.1 [(10, [0, 1, 2, 3, 4])] 6 (D + 3) 54 _ κ (And.intro (fun a1 => (z_litF a1 rfl).elim) (fun _ => (hT.1 [(10, [0, 1, 2, 3, 4])] 6 (D + 3) 54 (81, [(0, zr 9), (1, zr 2), (2, zi (d : Int)), (3, zi v), (4, zi (k : Int)), (5, zi sg), (6, zi (-1))], [zi (-1)], m) _ (o1)))))
theorem zb54_60b (hT : zRules T) {D : Nat} {κ : Option zA → zM → Prop} {m : zM} {d : Nat} {v : Int} {k : Nat} {sg : Int} {lo : zL} (hlo : z_keep [0, 1, 2, 3, 4, 5] lo = [(0, zr 9), (1, zr 2), (2, zi (d : Int)), (3, zi v), (4, zi (k : Int)), (5, zi sg)])  (h_d : d ≤ 4) (h_v : 0 ≤ v ∧ v ≤ 39) (h_k : k ≤ 100) (h_sg : 0 ≤ sg ∧ sg ≤ 65535) 
    (k1 : T (D + 3) 54 (10, [(0, zr 9), (1, zr 2), (2, zi (d : Int)), (3, zi (-1)), (4, zi ((k : Int) + 1))], [], m) κ) :
    T (D + 3) 54 (60, lo, [zi (-1)], m) κ := by
  exact zb54_60br hT hlo
    k1
theorem zb55_43br (hT : zRules T) {D : Nat} {κ : Option zA → zM → Prop} {m : zM} {ng : Int} {lo : zL} (hlo : z_keep [0, 3] lo = [(0, zr 9), (3, zi ng)]) 
    (o1 : wr ng = 0 → κ (some (zi (-1))) m)
    (o2 : ¬ wr ng = 0 → κ (some (zi (-1))) m) :
    T (D + 3) 55 (43, lo, [zi (-1)], m) κ :=
  zkeep hT hlo (hT.1 [(5, [0, 1, 2, 3, 4])] 6 (D + 3) 55 _ κ (And.intro (fun a1 => (o1 a1)) (fun a2 => (And.intro (fun _ => (hT.1 [(5, [0, 1, 2, 3, 4])] 6 (D + 3) 55 (68, [(0, zr 9), (3, zi ng), (4, zi (-1))], [], m) _ (o2 a2))) (fun a3 => (a3 (z_litT rfl)).elim)))))
theorem zb55_43b (hT : zRules T) {D : Nat} {κ : Option zA → zM → Prop} {m : zM} {ng : Int} {lo : zL} (hlo : z_keep [0, 3] lo = [(0, zr 9), (3, zi ng)])  (h_ng : 0 ≤ ng ∧ ng ≤ 1) 
    (k1 : ng = 0 → κ (some (zi (-1))) m)
    (k2 : ¬ ng = 0 → κ (some (zi (-1))) m) :
    T (D + 3) 55 (43, lo, [zi (-1)], m) κ := by
  have he0 : wr ng = ng := wr_id (by omega) (by omega)
  have key := @zb55_43br T hT D κ m ng lo hlo
  simp only [he0, Int.toNat_natCast] at key
  exact key
    k1
    k2
theorem zb55_43cr (hT : zRules T) {D : Nat} {κ : Option zA → zM → Prop} {m : zM} {v : Int} {lo : zL} (hlo : z_keep [0, 3] lo = [(0, zr 9), (3, zi 0)]) 
    (o1 : κ (some (zi (wr v))) m) :
    T (D + 3) 55 (43, lo, [zi v], m) κ :=
  zkeep hT hlo (hT.1 [(5, [0, 1, 2, 3, 4])] 6 (D + 3) 55 _ κ (And.intro (fun _ => (o1)) (fun a1 => (a1 (z_litT rfl)).elim)))
theorem zb55_43c (hT : zRules T) {D : Nat} {κ : Option zA → zM → Prop} {m : zM} {v : Int} {lo : zL} (hlo : z_keep [0, 3] lo = [(0, zr 9), (3, zi 0)])  (h_v : (-1) ≤ v ∧ v ≤ 40) 
    (k1 : κ (some (zi v)) m) :
    T (D + 3) 55 (43, lo, [zi v], m) κ := by
  have he0 : wr v = v := wr_id (by omega) (by omega)
  have key := @zb55_43cr T hT D κ m v lo hlo
  simp only [he0, Int.toNat_natCast] at key
  exact key
    k1
end ZBlocks
