-- 78.b12.lean.txt
section
section ZBlocks
variable {T : Nat → Nat → zG → (Option zA → zM → Prop) → Prop}
theorem zb180_0r (hT : zRules T) {D : Nat} {κ : Option zA → zM → Prop} {m : zM} {p : Nat} {q : Nat} {n : Nat} 
    (o1 : T (D + 5) 180 (10, [(0, zr 1), (1, zi (p : Int)), (2, zi (q : Int)), (3, zi (n : Int)), (4, zi 0)], [], (zu m 52 1 0)) κ) :
    T (D + 5) 180 (0, [(0, zr 1), (1, zi (p : Int)), (2, zi (q : Int)), (3, zi (n : Int))], [], m) κ :=
  hT.1 [(10, [0, 1, 2, 3, 4])] 6 (D + 5) 180 _ κ (hT.1 [] 6 (D + 4) 74 _ _ (And.intro trivial (hT.1 [(10, [0, 1, 2, 3, 4])] 6 (D + 5) 180 _ _ (o1))))
theorem zb180_0 (hT : zRules T) {D : Nat} {κ : Option zA → zM → Prop} {m : zM} {p : Nat} {q : Nat} {n : Nat}  (hB : zB m) (h_p : p ≤ 5) (h_q : q ≤ 3) (h_n : n ≤ 60) 
    (k1 : zB (zu m 52 1 0) → T (D + 5) 180 (10, [(0, zr 1), (1, zi (p : Int)), (2, zi (q : Int)), (3, zi (n : Int)), (4, zi 0)], [], (zu m 52 1 0)) κ) :
    T (D + 5) 180 (0, [(0, zr 1), (1, zi (p : Int)), (2, zi (q : Int)), (3, zi (n : Int))], [], m) κ := by
  exact zb180_0r hT
    (k1  (zB_u hB (show 0 ≤ 0 ∧ 0 ≤ 60 from ⟨by omega, by omega⟩)))
theorem zb180_10r (hT : zRules T) {D : Nat} {κ : Option zA → zM → Prop} {m : zM} {p : Nat} {q : Nat} {n : Nat} {k : Nat} {lo : zL} (hlo : z_keep [0, 1, 2, 3, 4] lo = [(0, zr 1), (1, zi (p : Int)), (2, zi (q : Int)), (3, zi (n : Int)), (4, zi (k : Int))]) 
    (o1 : ¬ wr (k : Int) < wr (n : Int) → κ (none) m)
    (o2 : wr (k : Int) < wr (n : Int) → T (D + 4) 169 (0, [(0, zr 1), (1, zi (p : Int)), (2, zi (q : Int)), (3, zi ((m 17 11) + (k : Int)))], [], m) (fun r m1 => T (D + 5) 180 (36, [(0, zr 1), (1, zi (p : Int)), (2, zi (q : Int)), (3, zi (n : Int)), (4, zi (k : Int))], r.toList ++ [zr 52], m1) κ)) :
    T (D + 5) 180 (10, lo, [], m) κ :=
  zkeep hT hlo (hT.1 [(10, [0, 1, 2, 3, 4])] 6 (D + 5) 180 _ κ (And.intro (fun a1 => (o1 a1)) (fun a2 => (hT.1 [(10, [0, 1, 2, 3, 4])] 6 (D + 5) 180 (21, [(0, zr 1), (1, zi (p : Int)), (2, zi (q : Int)), (3, zi (n : Int)), (4, zi (k : Int))], [zr 1, zr 52], m) _ (hT.1 [(10, [0, 1, 2, 3, 4])] 6 (D + 5) 180 (32, [(0, zr 1), (1, zi (p : Int)), (2, zi (q : Int)), (3, zi (n : Int)), (4, zi (k : Int))], [zi (k : Int), zi (m 17 11), zi (q : Int), zi (p : Int), zr 1, zr 52], m) _ (o2 (Classical.byContradiction a2)))))))
theorem zb180_10 (hT : zRules T) {D : Nat} {κ : Option zA → zM → Prop} {m : zM} {p : Nat} {q : Nat} {n : Nat} {k : Nat} {lo : zL} (hlo : z_keep [0, 1, 2, 3, 4] lo = [(0, zr 1), (1, zi (p : Int)), (2, zi (q : Int)), (3, zi (n : Int)), (4, zi (k : Int))])  (hB : zB m) (h_p : p ≤ 5) (h_q : q ≤ 3) (h_n : n ≤ 60) (h_k : k ≤ 60) 
    (k1 : ¬ (k : Int) < (n : Int) → κ (none) m)
    (k2 : (k : Int) < (n : Int) → T (D + 4) 169 (0, [(0, zr 1), (1, zi (p : Int)), (2, zi (q : Int)), (3, zi ((m 17 11) + (k : Int)))], [], m) (fun r m1 => T (D + 5) 180 (36, [(0, zr 1), (1, zi (p : Int)), (2, zi (q : Int)), (3, zi (n : Int)), (4, zi (k : Int))], r.toList ++ [zr 52], m1) κ)) :
    T (D + 5) 180 (10, lo, [], m) κ := by
  have hb4 : 0 ≤ (m 17 11) ∧ (m 17 11) ≤ 400000 := hB 17 11
  have he0 : wr (k : Int) = (k : Int) := wr_id (by omega) (by omega)
  have he1 : wr (n : Int) = (n : Int) := wr_id (by omega) (by omega)
  have key := @zb180_10r T hT D κ m p q n k lo hlo
  simp only [he0, he1, Int.toNat_natCast] at key
  exact key
    k1
    k2
theorem zb180_36r (hT : zRules T) {D : Nat} {κ : Option zA → zM → Prop} {m : zM} {p : Nat} {q : Nat} {n : Nat} {k : Nat} {v : Int} {lo : zL} (hlo : z_keep [0, 1, 2, 3, 4] lo = [(0, zr 1), (1, zi (p : Int)), (2, zi (q : Int)), (3, zi (n : Int)), (4, zi (k : Int))]) 
    (o1 : ¬ wr (m 52 1) < 60 → T (D + 5) 180 (10, [(0, zr 1), (1, zi (p : Int)), (2, zi (q : Int)), (3, zi (n : Int)), (4, zi ((k : Int) + 1))], [], m) κ)
    (o2 : wr (m 52 1) < 60 → (0 ≤ wr (m 52 1) ∧ wr (m 52 1) < 60))
    (o3 : wr (m 52 1) < 60 → T (D + 5) 180 (10, [(0, zr 1), (1, zi (p : Int)), (2, zi (q : Int)), (3, zi (n : Int)), (4, zi ((k : Int) + 1))], [], (zu (zu m 53 ((wr (m 52 1)).toNat) v) 52 1 ((m 52 1) + 1))) κ) :
    T (D + 5) 180 (36, lo, [zi v, zr 52], m) κ :=
  zkeep hT hlo (hT.1 [(10, [0, 1, 2, 3, 4])] 6 (D + 5) 180 _ κ (hT.1 [] 6 (D + 4) 75 _ _ (And.intro (fun a1 => (hT.1 [(10, [0, 1, 2, 3, 4])] 6 (D + 5) 180 _ _ (o1 a1))) (fun a2 => (hT.1 [] 6 (D + 4) 75 (13, [(0, zr 52), (1, zi v)], [zr 53], m) _ (And.intro (And.intro (o2 (Classical.byContradiction a2)) trivial) (hT.1 [] 6 (D + 4) 75 (21, [(0, zr 52), (1, zi v)], [zr 52, zr 52], (zu m 53 ((wr (m 52 1)).toNat) v)) _ (And.intro trivial (hT.1 [(10, [0, 1, 2, 3, 4])] 6 (D + 5) 180 _ _ (o3 (Classical.byContradiction a2)))))))))))
theorem zb180_36 (hT : zRules T) {D : Nat} {κ : Option zA → zM → Prop} {m : zM} {p : Nat} {q : Nat} {n : Nat} {k : Nat} {v : Int} {lo : zL} (hlo : z_keep [0, 1, 2, 3, 4] lo = [(0, zr 1), (1, zi (p : Int)), (2, zi (q : Int)), (3, zi (n : Int)), (4, zi (k : Int))])  (hB : zB m) (h_p : p ≤ 5) (h_q : q ≤ 3) (h_n : n ≤ 60) (h_k : k ≤ 59) (h_v : 0 ≤ v ∧ v ≤ 99) 
    (k1 : ¬ (m 52 1) < 60 → T (D + 5) 180 (10, [(0, zr 1), (1, zi (p : Int)), (2, zi (q : Int)), (3, zi (n : Int)), (4, zi ((k : Int) + 1))], [], m) κ)
    (k2 : (m 52 1) < 60 → zB (zu (zu m 53 ((m 52 1).toNat) v) 52 1 ((m 52 1) + 1)) → T (D + 5) 180 (10, [(0, zr 1), (1, zi (p : Int)), (2, zi (q : Int)), (3, zi (n : Int)), (4, zi ((k : Int) + 1))], [], (zu (zu m 53 ((m 52 1).toNat) v) 52 1 ((m 52 1) + 1))) κ) :
    T (D + 5) 180 (36, lo, [zi v, zr 52], m) κ := by
  have hb5 : 0 ≤ (m 52 1) ∧ (m 52 1) ≤ 60 := hB 52 1
  have he0 : wr (m 52 1) = (m 52 1) := wr_id (by omega) (by omega)
  have key := @zb180_36r T hT D κ m p q n k v lo hlo
  simp only [he0, Int.toNat_natCast] at key
  exact key
    k1
    (fun x0 => by refine ⟨?_, ?_⟩ <;> omega)
    (fun x0 => k2 x0 (zB_u (zB_u hB (show 0 ≤ v ∧ v ≤ 99 from ⟨by omega, by omega⟩)) (show 0 ≤ ((m 52 1) + 1) ∧ ((m 52 1) + 1) ≤ 60 from ⟨by omega, by omega⟩)))
theorem zb76_0r (hT : zRules T) {D : Nat} {κ : Option zA → zM → Prop} {m : zM} 
    (o1 : T (D + 1) 76 (4, [(0, zr 52), (1, zi 0), (2, zi 1)], [], m) κ) :
    T (D + 1) 76 (0, [(0, zr 52)], [], m) κ :=
  hT.1 [(4, [0, 1, 2])] 6 (D + 1) 76 _ κ (o1)
theorem zb76_0 (hT : zRules T) {D : Nat} {κ : Option zA → zM → Prop} {m : zM}  (hB : zB m) 
    (k1 : T (D + 1) 76 (4, [(0, zr 52), (1, zi 0), (2, zi 1)], [], m) κ) :
    T (D + 1) 76 (0, [(0, zr 52)], [], m) κ := by
  exact zb76_0r hT
    k1
theorem zb76_4r (hT : zRules T) {D : Nat} {κ : Option zA → zM → Prop} {m : zM} {f : Nat} {k : Nat} {lo : zL} (hlo : z_keep [0, 1, 2] lo = [(0, zr 52), (1, zi (f : Int)), (2, zi (k : Int))]) 
    (o1 : ¬ wr (k : Int) < wr (m 52 1) → κ (some (zi (wr (f : Int)))) m)
    (o2 : wr (k : Int) < wr (m 52 1) → (0 ≤ wr (k : Int) ∧ wr (k : Int) < 60))
    (o3 : wr (k : Int) < wr (m 52 1) → (0 ≤ wr (f : Int) ∧ wr (f : Int) < 60))
    (o4 : wr (k : Int) < wr (m 52 1) → ¬ wr (m 53 ((wr (f : Int)).toNat)) < wr (m 53 ((wr (k : Int)).toNat)) → T (D + 1) 76 (4, [(0, zr 52), (1, zi (f : Int)), (2, zi ((k : Int) + 1))], [], m) κ)
    (o5 : wr (k : Int) < wr (m 52 1) → wr (m 53 ((wr (f : Int)).toNat)) < wr (m 53 ((wr (k : Int)).toNat)) → T (D + 1) 76 (4, [(0, zr 52), (1, zi (k : Int)), (2, zi ((k : Int) + 1))], [], m) κ) :
    T (D + 1) 76 (4, lo, [], m) κ :=
  zkeep hT hlo (hT.1 [(4, [0, 1, 2])] 6 (D + 1) 76 _ κ (And.intro (fun a1 => (o1 a1)) (fun a2 => (hT.1 [(4, [0, 1, 2])] 6 (D + 1) 76 (16, [(0, zr 52), (1, zi (f : Int)), (2, zi (k : Int))], [zr 53], m) _ (And.intro (o2 (Classical.byContradiction a2)) (And.intro (o3 (Classical.byContradiction a2)) (hT.1 [(4, [0, 1, 2])] 6 (D + 1) 76 (24, [(0, zr 52), (1, zi (f : Int)), (2, zi (k : Int))], [zi (m 53 ((wr (f : Int)).toNat)), zi (m 53 ((wr (k : Int)).toNat))], m) _ (And.intro (fun a3 => (o4 (Classical.byContradiction a2) a3)) (fun a4 => (o5 (Classical.byContradiction a2) (Classical.byContradiction a4)))))))))))
theorem zb76_4 (hT : zRules T) {D : Nat} {κ : Option zA → zM → Prop} {m : zM} {f : Nat} {k : Nat} {lo : zL} (hlo : z_keep [0, 1, 2] lo = [(0, zr 52), (1, zi (f : Int)), (2, zi (k : Int))])  (hB : zB m) (h_f : f ≤ 60) (h_k : k ≤ 60) 
    (k1 : ¬ (k : Int) < (m 52 1) → κ (some (zi (f : Int))) m)
    (k2 : (k : Int) < (m 52 1) → (0 ≤ (f : Int) ∧ (f : Int) < 60))
    (k3 : (k : Int) < (m 52 1) → ¬ (m 53 f) < (m 53 k) → T (D + 1) 76 (4, [(0, zr 52), (1, zi (f : Int)), (2, zi ((k : Int) + 1))], [], m) κ)
    (k4 : (k : Int) < (m 52 1) → (m 53 f) < (m 53 k) → T (D + 1) 76 (4, [(0, zr 52), (1, zi (k : Int)), (2, zi ((k : Int) + 1))], [], m) κ) :
    T (D + 1) 76 (4, lo, [], m) κ := by
  have hb2 : 0 ≤ (m 52 1) ∧ (m 52 1) ≤ 60 := hB 52 1
  have hb3 : 0 ≤ (m 53 k) ∧ (m 53 k) ≤ 99 := hB 53 k
  have hb4 : 0 ≤ (m 53 f) ∧ (m 53 f) ≤ 99 := hB 53 f
  have he0 : wr (k : Int) = (k : Int) := wr_id (by omega) (by omega)
  have he1 : wr (m 52 1) = (m 52 1) := wr_id (by omega) (by omega)
  have he2 : (k : Int).toNat = k := by omega
  have he3 : wr (f : Int) = (f : Int) := wr_id (by omega) (by omega)
  have he4 : (f : Int).toNat = f := by omega
  have he5 : wr (m 53 f) = (m 53 f) := wr_id (by omega) (by omega)
  have he6 : wr (m 53 k) = (m 53 k) := wr_id (by omega) (by omega)
  have key := @zb76_4r T hT D κ m f k lo hlo
  simp only [he0, he1, he2, he3, he4, he5, he6, Int.toNat_natCast] at key
  exact key
    k1
    (fun x0 => by refine ⟨?_, ?_⟩ <;> omega)
    k2
    k3
    k4
theorem zb77_0r (hT : zRules T) {D : Nat} {κ : Option zA → zM → Prop} {m : zM} 
    (o1 : T (D + 1) 77 (4, [(0, zr 52), (1, zi 0), (2, zi 1)], [], m) κ) :
    T (D + 1) 77 (0, [(0, zr 52)], [], m) κ :=
  hT.1 [(4, [0, 1, 2])] 6 (D + 1) 77 _ κ (o1)
theorem zb77_0 (hT : zRules T) {D : Nat} {κ : Option zA → zM → Prop} {m : zM}  (hB : zB m) 
    (k1 : T (D + 1) 77 (4, [(0, zr 52), (1, zi 0), (2, zi 1)], [], m) κ) :
    T (D + 1) 77 (0, [(0, zr 52)], [], m) κ := by
  exact zb77_0r hT
    k1
theorem zb77_4r (hT : zRules T) {D : Nat} {κ : Option zA → zM → Prop} {m : zM} {f : Nat} {k : Nat} {lo : zL} (hlo : z_keep [0, 1, 2] lo = [(0, zr 52), (1, zi (f : Int)), (2, zi (k : Int))]) 
    (o1 : ¬ wr (k : Int) < wr (m 52 1) → κ (some (zi (wr (f : Int)))) m)
    (o2 : wr (k : Int) < wr (m 52 1) → (0 ≤ wr (k : Int) ∧ wr (k : Int) < 60))
    (o3 : wr (k : Int) < wr (m 52 1) → (0 ≤ wr (f : Int) ∧ wr (f : Int) < 60))
    (o4 : wr (k : Int) < wr (m 52 1) → ¬ wr (m 53 ((wr (k : Int)).toNat)) < wr (m 53 ((wr (f : Int)).toNat)) → T (D + 1) 77 (4, [(0, zr 52), (1, zi (f : Int)), (2, zi ((k : Int) + 1))], [], m) κ)
    (o5 : wr (k : Int) < wr (m 52 1) → wr (m 53 ((wr (k : Int)).toNat)) < wr (m 53 ((wr (f : Int)).toNat)) → T (D + 1) 77 (4, [(0, zr 52), (1, zi (k : Int)), (2, zi ((k : Int) + 1))], [], m) κ) :
    T (D + 1) 77 (4, lo, [], m) κ :=
  zkeep hT hlo (hT.1 [(4, [0, 1, 2])] 6 (D + 1) 77 _ κ (And.intro (fun a1 => (o1 a1)) (fun a2 => (hT.1 [(4, [0, 1, 2])] 6 (D + 1) 77 (16, [(0, zr 52), (1, zi (f : Int)), (2, zi (k : Int))], [zr 53], m) _ (And.intro (o2 (Classical.byContradiction a2)) (And.intro (o3 (Classical.byContradiction a2)) (hT.1 [(4, [0, 1, 2])] 6 (D + 1) 77 (24, [(0, zr 52), (1, zi (f : Int)), (2, zi (k : Int))], [zi (m 53 ((wr (f : Int)).toNat)), zi (m 53 ((wr (k : Int)).toNat))], m) _ (And.intro (fun a3 => (o4 (Classical.byContradiction a2) a3)) (fun a4 => (o5 (Classical.byContradiction a2) (Classical.byContradiction a4)))))))))))
theorem zb77_4 (hT : zRules T) {D : Nat} {κ : Option zA → zM → Prop} {m : zM} {f : Nat} {k : Nat} {lo : zL} (hlo : z_keep [0, 1, 2] lo = [(0, zr 52), (1, zi (f : Int)), (2, zi (k : Int))])  (hB : zB m) (h_f : f ≤ 60) (h_k : k ≤ 60) 
    (k1 : ¬ (k : Int) < (m 52 1) → κ (some (zi (f : Int))) m)
    (k2 : (k : Int) < (m 52 1) → (0 ≤ (f : Int) ∧ (f : Int) < 60))
    (k3 : (k : Int) < (m 52 1) → ¬ (m 53 k) < (m 53 f) → T (D + 1) 77 (4, [(0, zr 52), (1, zi (f : Int)), (2, zi ((k : Int) + 1))], [], m) κ)
    (k4 : (k : Int) < (m 52 1) → (m 53 k) < (m 53 f) → T (D + 1) 77 (4, [(0, zr 52), (1, zi (k : Int)), (2, zi ((k : Int) + 1))], [], m) κ) :
    T (D + 1) 77 (4, lo, [], m) κ := by
  have hb2 : 0 ≤ (m 52 1) ∧ (m 52 1) ≤ 60 := hB 52 1
  have hb3 : 0 ≤ (m 53 k) ∧ (m 53 k) ≤ 99 := hB 53 k
  have hb4 : 0 ≤ (m 53 f) ∧ (m 53 f) ≤ 99 := hB 53 f
  have he0 : wr (k : Int) = (k : Int) := wr_id (by omega) (by omega)
  have he1 : wr (m 52 1) = (m 52 1) := wr_id (by omega) (by omega)
  have he2 : (k : Int).toNat = k := by omega
  have he3 : wr (f : Int) = (f : Int) := wr_id (by omega) (by omega)
  have he4 : (f : Int).toNat = f := by omega
  have he5 : wr (m 53 k) = (m 53 k) := wr_id (by omega) (by omega)
  have he6 : wr (m 53 f) = (m 53 f) := wr_id (by omega) (by omega)
  have key := @zb77_4r T hT D κ m f k lo hlo
  simp only [he0, he1, he2, he3, he4, he5, he6, Int.toNat_natCast] at key
  exact key
    k1
    (fun x0 => by refine ⟨?_, ?_⟩ <;> omega)
    k2
    k3
    k4
theorem zb78_0r (hT : zRules T) {D : Nat} {κ : Option zA → zM → Prop} {m : zM} {h : Int} 
    (o1 : T (D + 1) 78 (2, [(0, zr 52), (1, zi h), (2, zi 0)], [], m) κ) :
    T (D + 1) 78 (0, [(0, zr 52), (1, zi h)], [], m) κ :=
  hT.1 [(2, [0, 1, 2]), (23, [0, 1, 2]), (38, [0, 1, 2, 3])] 6 (D + 1) 78 _ κ (o1)
theorem zb78_0 (hT : zRules T) {D : Nat} {κ : Option zA → zM → Prop} {m : zM} {h : Int}  (hB : zB m) (h_h : 0 ≤ h ∧ h ≤ 9) 
    (k1 : T (D + 1) 78 (2, [(0, zr 52), (1, zi h), (2, zi 0)], [], m) κ) :
    T (D + 1) 78 (0, [(0, zr 52), (1, zi h)], [], m) κ := by
  exact zb78_0r hT
    k1
theorem zb78_2r (hT : zRules T) {D : Nat} {κ : Option zA → zM → Prop} {m : zM} {h : Int} {a : Nat} {lo : zL} (hlo : z_keep [0, 1, 2] lo = [(0, zr 52), (1, zi h), (2, zi (a : Int))]) 
    (o1 : 108 < wr (a : Int) → T (D + 1) 78 (23, [(0, zr 52), (1, zi h), (2, zi 0)], [], m) κ)
    (o2 : ¬ 108 < wr (a : Int) → (0 ≤ wr (a : Int) ∧ wr (a : Int) < 109))
    (o3 : ¬ 108 < wr (a : Int) → T (D + 1) 78 (2, [(0, zr 52), (1, zi h), (2, zi ((a : Int) + 1))], [], (zu m 54 ((wr (a : Int)).toNat) 0)) κ) :
    T (D + 1) 78 (2, lo, [], m) κ :=
  zkeep hT hlo (hT.1 [(2, [0, 1, 2]), (23, [0, 1, 2]), (38, [0, 1, 2, 3])] 6 (D + 1) 78 _ κ (And.intro (fun a1 => (o1 a1)) (fun a2 => (hT.1 [(2, [0, 1, 2]), (23, [0, 1, 2]), (38, [0, 1, 2, 3])] 6 (D + 1) 78 (13, [(0, zr 52), (1, zi h), (2, zi (a : Int))], [zi (a : Int), zr 54], m) _ (And.intro (And.intro (o2 a2) trivial) (o3 a2))))))
theorem zb78_2 (hT : zRules T) {D : Nat} {κ : Option zA → zM → Prop} {m : zM} {h : Int} {a : Nat} {lo : zL} (hlo : z_keep [0, 1, 2] lo = [(0, zr 52), (1, zi h), (2, zi (a : Int))])  (hB : zB m) (h_h : 0 ≤ h ∧ h ≤ 9) (h_a : a ≤ 109) 
    (k1 : 108 < (a : Int) → T (D + 1) 78 (23, [(0, zr 52), (1, zi h), (2, zi 0)], [], m) κ)
    (k2 : ¬ 108 < (a : Int) → zB (zu m 54 a 0) → T (D + 1) 78 (2, [(0, zr 52), (1, zi h), (2, zi ((a : Int) + 1))], [], (zu m 54 a 0)) κ) :
    T (D + 1) 78 (2, lo, [], m) κ := by
  have he0 : wr (a : Int) = (a : Int) := wr_id (by omega) (by omega)
  have he1 : (a : Int).toNat = a := by omega
  have key := @zb78_2r T hT D κ m h a lo hlo
  simp only [he0, he1, Int.toNat_natCast] at key
  exact key
    k1
    (fun x0 => by refine ⟨?_, ?_⟩ <;> omega)
    (fun x0 => k2 x0 (zB_u hB trivial))
theorem zb78_23r (hT : zRules T) {D : Nat} {κ : Option zA → zM → Prop} {m : zM} {h : Int} {k : Nat} {lo : zL} (hlo : z_keep [0, 1, 2] lo = [(0, zr 52), (1, zi h), (2, zi (k : Int))]) 
    (o1 : ¬ wr (k : Int) < wr (m 52 1) → κ (none) m)
    (o2 : wr (k : Int) < wr (m 52 1) → (0 ≤ wr (k : Int) ∧ wr (k : Int) < 60))
    (o3 : wr (k : Int) < wr (m 52 1) → T (D + 1) 78 (38, [(0, zr 52), (1, zi h), (2, zi (k : Int)), (3, zi (m 53 ((wr (k : Int)).toNat)))], [], m) κ) :
    T (D + 1) 78 (23, lo, [], m) κ :=
  zkeep hT hlo (hT.1 [(2, [0, 1, 2]), (23, [0, 1, 2]), (38, [0, 1, 2, 3])] 6 (D + 1) 78 _ κ (And.intro (fun a1 => (o1 a1)) (fun a2 => (hT.1 [(2, [0, 1, 2]), (23, [0, 1, 2]), (38, [0, 1, 2, 3])] 6 (D + 1) 78 (35, [(0, zr 52), (1, zi h), (2, zi (k : Int))], [zr 53], m) _ (And.intro (o2 (Classical.byContradiction a2)) (o3 (Classical.byContradiction a2)))))))
theorem zb78_23 (hT : zRules T) {D : Nat} {κ : Option zA → zM → Prop} {m : zM} {h : Int} {k : Nat} {lo : zL} (hlo : z_keep [0, 1, 2] lo = [(0, zr 52), (1, zi h), (2, zi (k : Int))])  (hB : zB m) (h_h : 0 ≤ h ∧ h ≤ 9) (h_k : k ≤ 60) 
    (k1 : ¬ (k : Int) < (m 52 1) → κ (none) m)
    (k2 : (k : Int) < (m 52 1) → T (D + 1) 78 (38, [(0, zr 52), (1, zi h), (2, zi (k : Int)), (3, zi (m 53 k))], [], m) κ) :
    T (D + 1) 78 (23, lo, [], m) κ := by
  have hb2 : 0 ≤ (m 52 1) ∧ (m 52 1) ≤ 60 := hB 52 1
  have hb3 : 0 ≤ (m 53 k) ∧ (m 53 k) ≤ 99 := hB 53 k
  have he0 : wr (k : Int) = (k : Int) := wr_id (by omega) (by omega)
  have he1 : wr (m 52 1) = (m 52 1) := wr_id (by omega) (by omega)
  have he2 : (k : Int).toNat = k := by omega
  have key := @zb78_23r T hT D κ m h k lo hlo
  simp only [he0, he1, he2, Int.toNat_natCast] at key
  exact key
    k1
    (fun x0 => by refine ⟨?_, ?_⟩ <;> omega)
    k2
theorem zb78_38r (hT : zRules T) {D : Nat} {κ : Option zA → zM → Prop} {m : zM} {h : Int} {k : Nat} {a : Nat} {lo : zL} (hlo : z_keep [0, 1, 2, 3] lo = [(0, zr 52), (1, zi h), (2, zi (k : Int)), (3, zi (a : Int))]) 
    (o1 : (0 ≤ wr (k : Int) ∧ wr (k : Int) < 60))
    (o2 : wr ((m 53 ((wr (k : Int)).toNat)) + h) < wr (a : Int) → T (D + 1) 78 (23, [(0, zr 52), (1, zi h), (2, zi ((k : Int) + 1))], [], m) κ)
    (o3 : ¬ wr ((m 53 ((wr (k : Int)).toNat)) + h) < wr (a : Int) → 108 < wr (a : Int) → False)
    (o4 : ¬ wr ((m 53 ((wr (k : Int)).toNat)) + h) < wr (a : Int) → ¬ 108 < wr (a : Int) → (0 ≤ wr (a : Int) ∧ wr (a : Int) < 109))
    (o5 : ¬ wr ((m 53 ((wr (k : Int)).toNat)) + h) < wr (a : Int) → ¬ 108 < wr (a : Int) → (0 ≤ wr (a : Int) ∧ wr (a : Int) < 109))
    (o6 : ¬ wr ((m 53 ((wr (k : Int)).toNat)) + h) < wr (a : Int) → ¬ 108 < wr (a : Int) → T (D + 1) 78 (38, [(0, zr 52), (1, zi h), (2, zi (k : Int)), (3, zi ((a : Int) + 1))], [], (zu m 54 ((wr (a : Int)).toNat) ((m 54 ((wr (a : Int)).toNat)) + 1))) κ) :
    T (D + 1) 78 (38, lo, [], m) κ :=
  zkeep hT hlo (hT.1 [(2, [0, 1, 2]), (23, [0, 1, 2]), (38, [0, 1, 2, 3])] 6 (D + 1) 78 _ κ (And.intro (o1) (hT.1 [(2, [0, 1, 2]), (23, [0, 1, 2]), (38, [0, 1, 2, 3])] 6 (D + 1) 78 (46, [(0, zr 52), (1, zi h), (2, zi (k : Int)), (3, zi (a : Int))], [zi h, zi (m 53 ((wr (k : Int)).toNat)), zi (a : Int)], m) _ (And.intro (fun a1 => (o2 a1)) (fun a2 => (And.intro (fun a3 => (o3 a2 a3).elim) (fun a4 => (hT.1 [(2, [0, 1, 2]), (23, [0, 1, 2]), (38, [0, 1, 2, 3])] 6 (D + 1) 78 (57, [(0, zr 52), (1, zi h), (2, zi (k : Int)), (3, zi (a : Int))], [zr 52], m) _ (And.intro (o4 a2 a4) (hT.1 [(2, [0, 1, 2]), (23, [0, 1, 2]), (38, [0, 1, 2, 3])] 6 (D + 1) 78 (65, [(0, zr 52), (1, zi h), (2, zi (k : Int)), (3, zi (a : Int))], [zi ((m 54 ((wr (a : Int)).toNat)) + 1), zi (a : Int), zr 54], m) _ (And.intro (And.intro (o5 a2 a4) trivial) (o6 a2 a4))))))))))))
theorem zb78_38 (hT : zRules T) {D : Nat} {κ : Option zA → zM → Prop} {m : zM} {h : Int} {k : Nat} {a : Nat} {lo : zL} (hlo : z_keep [0, 1, 2, 3] lo = [(0, zr 52), (1, zi h), (2, zi (k : Int)), (3, zi (a : Int))])  (hB : zB m) (h_h : 0 ≤ h ∧ h ≤ 9) (h_k : k ≤ 59) (h_a : a ≤ 109) 
    (k1 : ((m 53 k) + h) < (a : Int) → T (D + 1) 78 (23, [(0, zr 52), (1, zi h), (2, zi ((k : Int) + 1))], [], m) κ)
    (k2 : ¬ ((m 53 k) + h) < (a : Int) → zB (zu m 54 a ((m 54 a) + 1)) → T (D + 1) 78 (38, [(0, zr 52), (1, zi h), (2, zi (k : Int)), (3, zi ((a : Int) + 1))], [], (zu m 54 a ((m 54 a) + 1))) κ) :
    T (D + 1) 78 (38, lo, [], m) κ := by
  have hb3 : 0 ≤ (m 53 k) ∧ (m 53 k) ≤ 99 := hB 53 k
  have he0 : wr (k : Int) = (k : Int) := wr_id (by omega) (by omega)
  have he1 : (k : Int).toNat = k := by omega
  have he2 : wr ((m 53 k) + h) = ((m 53 k) + h) := wr_id (by omega) (by omega)
  have he3 : wr (a : Int) = (a : Int) := wr_id (by omega) (by omega)
  have he4 : (a : Int).toNat = a := by omega
  have key := @zb78_38r T hT D κ m h k a lo hlo
  simp only [he0, he1, he2, he3, he4, Int.toNat_natCast] at key
  exact key
    (by refine ⟨?_, ?_⟩ <;> omega)
    k1
    (fun x0 x1 => by omega)
    (fun x0 x1 => by refine ⟨?_, ?_⟩ <;> omega)
    (fun x0 x1 => by refine ⟨?_, ?_⟩ <;> omega)
    (fun x0 x1 => k2 x0 (zB_u hB trivial))
theorem zb79_0r (hT : zRules T) {D : Nat} {κ : Option zA → zM → Prop} {m : zM} 
    (o1 : T (D + 1) 79 (4, [(0, zr 52), (1, zi 0), (2, zi 1)], [], m) κ) :
    T (D + 1) 79 (0, [(0, zr 52)], [], m) κ :=
  hT.1 [(4, [0, 1, 2])] 6 (D + 1) 79 _ κ (o1)
theorem zb79_0 (hT : zRules T) {D : Nat} {κ : Option zA → zM → Prop} {m : zM}  (hB : zB m) 
    (k1 : T (D + 1) 79 (4, [(0, zr 52), (1, zi 0), (2, zi 1)], [], m) κ) :
    T (D + 1) 79 (0, [(0, zr 52)], [], m) κ := by
  exact zb79_0r hT
    k1
theorem zb79_4r (hT : zRules T) {D : Nat} {κ : Option zA → zM → Prop} {m : zM} {f : Nat} {a : Nat} {lo : zL} (hlo : z_keep [0, 1, 2] lo = [(0, zr 52), (1, zi (f : Int)), (2, zi (a : Int))]) 
    (o1 : 108 < wr (a : Int) → κ (some (zi (wr (f : Int)))) m)
    (o2 : ¬ 108 < wr (a : Int) → (0 ≤ wr (a : Int) ∧ wr (a : Int) < 109))
    (o3 : ¬ 108 < wr (a : Int) → (0 ≤ wr (f : Int) ∧ wr (f : Int) < 109))
    (o4 : ¬ 108 < wr (a : Int) → ¬ wr (m 54 ((wr (f : Int)).toNat)) < wr (m 54 ((wr (a : Int)).toNat)) → T (D + 1) 79 (4, [(0, zr 52), (1, zi (f : Int)), (2, zi ((a : Int) + 1))], [], m) κ)
    (o5 : ¬ 108 < wr (a : Int) → wr (m 54 ((wr (f : Int)).toNat)) < wr (m 54 ((wr (a : Int)).toNat)) → T (D + 1) 79 (4, [(0, zr 52), (1, zi (a : Int)), (2, zi ((a : Int) + 1))], [], m) κ) :
    T (D + 1) 79 (4, lo, [], m) κ :=
  zkeep hT hlo (hT.1 [(4, [0, 1, 2])] 6 (D + 1) 79 _ κ (And.intro (fun a1 => (o1 a1)) (fun a2 => (hT.1 [(4, [0, 1, 2])] 6 (D + 1) 79 (15, [(0, zr 52), (1, zi (f : Int)), (2, zi (a : Int))], [zi (a : Int), zr 54], m) _ (And.intro (o2 a2) (And.intro (o3 a2) (And.intro (fun a3 => (hT.1 [(4, [0, 1, 2])] 6 (D + 1) 79 (27, [(0, zr 52), (1, zi (f : Int)), (2, zi (a : Int))], [], m) _ (o4 a2 a3))) (fun a4 => (hT.1 [(4, [0, 1, 2])] 6 (D + 1) 79 (25, [(0, zr 52), (1, zi (f : Int)), (2, zi (a : Int))], [], m) _ (o5 a2 (Classical.byContradiction a4)))))))))))
theorem zb79_4 (hT : zRules T) {D : Nat} {κ : Option zA → zM → Prop} {m : zM} {f : Nat} {a : Nat} {lo : zL} (hlo : z_keep [0, 1, 2] lo = [(0, zr 52), (1, zi (f : Int)), (2, zi (a : Int))])  (hB : zB m) (h_f : f ≤ 108) (h_a : a ≤ 109) 
    (k1 : 108 < (a : Int) → κ (some (zi (f : Int))) m)
    (k2 : ¬ 108 < (a : Int) → ¬ wr (m 54 f) < wr (m 54 a) → T (D + 1) 79 (4, [(0, zr 52), (1, zi (f : Int)), (2, zi ((a : Int) + 1))], [], m) κ)
    (k3 : ¬ 108 < (a : Int) → wr (m 54 f) < wr (m 54 a) → T (D + 1) 79 (4, [(0, zr 52), (1, zi (a : Int)), (2, zi ((a : Int) + 1))], [], m) κ) :
    T (D + 1) 79 (4, lo, [], m) κ := by
  have hb2 : (-2147483648) ≤ wr (m 54 f) ∧ wr (m 54 f) ≤ 2147483647 := wrB (m 54 f)
  have hb3 : (-2147483648) ≤ wr (m 54 a) ∧ wr (m 54 a) ≤ 2147483647 := wrB (m 54 a)
  have he0 : wr (a : Int) = (a : Int) := wr_id (by omega) (by omega)
  have he1 : wr (f : Int) = (f : Int) := wr_id (by omega) (by omega)
  have he2 : (a : Int).toNat = a := by omega
  have he3 : (f : Int).toNat = f := by omega
  have key := @zb79_4r T hT D κ m f a lo hlo
  simp only [he0, he1, he2, he3, Int.toNat_natCast] at key
  exact key
    k1
    (fun x0 => by refine ⟨?_, ?_⟩ <;> omega)
    (fun x0 => by refine ⟨?_, ?_⟩ <;> omega)
    k2
    k3
theorem zb80_0r (hT : zRules T) {D : Nat} {κ : Option zA → zM → Prop} {m : zM} 
    (o1 : T (D + 1) 80 (4, [(0, zr 52), (1, zi 0), (2, zi 0)], [], m) κ) :
    T (D + 1) 80 (0, [(0, zr 52)], [], m) κ :=
  hT.1 [(4, [0, 1, 2])] 6 (D + 1) 80 _ κ (o1)
theorem zb80_0 (hT : zRules T) {D : Nat} {κ : Option zA → zM → Prop} {m : zM}  (hB : zB m) 
    (k1 : T (D + 1) 80 (4, [(0, zr 52), (1, zi 0), (2, zi 0)], [], m) κ) :
    T (D + 1) 80 (0, [(0, zr 52)], [], m) κ := by
  exact zb80_0r hT
    k1
theorem zb80_4r (hT : zRules T) {D : Nat} {κ : Option zA → zM → Prop} {m : zM} {c : Nat} {a : Nat} {lo : zL} (hlo : z_keep [0, 1, 2] lo = [(0, zr 52), (1, zi (c : Int)), (2, zi (a : Int))]) 
    (o1 : 108 < wr (a : Int) → κ (some (zi (wr (c : Int)))) m)
    (o2 : ¬ 108 < wr (a : Int) → (0 ≤ wr (a : Int) ∧ wr (a : Int) < 109))
    (o3 : ¬ 108 < wr (a : Int) → ¬ 0 < wr (m 54 ((wr (a : Int)).toNat)) → T (D + 1) 80 (4, [(0, zr 52), (1, zi (c : Int)), (2, zi ((a : Int) + 1))], [], m) κ)
    (o4 : ¬ 108 < wr (a : Int) → 0 < wr (m 54 ((wr (a : Int)).toNat)) → T (D + 1) 80 (4, [(0, zr 52), (1, zi ((c : Int) + 1)), (2, zi ((a : Int) + 1))], [], m) κ) :
    T (D + 1) 80 (4, lo, [], m) κ :=
  zkeep hT hlo (hT.1 [(4, [0, 1, 2])] 6 (D + 1) 80 _ κ (And.intro (fun a1 => (o1 a1)) (fun a2 => (hT.1 [(4, [0, 1, 2])] 6 (D + 1) 80 (15, [(0, zr 52), (1, zi (c : Int)), (2, zi (a : Int))], [zi (a : Int), zr 54], m) _ (And.intro (o2 a2) (And.intro (fun a3 => (o3 a2 a3)) (fun a4 => (o4 a2 (Classical.byContradiction a4)))))))))
theorem zb80_4 (hT : zRules T) {D : Nat} {κ : Option zA → zM → Prop} {m : zM} {c : Nat} {a : Nat} {lo : zL} (hlo : z_keep [0, 1, 2] lo = [(0, zr 52), (1, zi (c : Int)), (2, zi (a : Int))])  (hB : zB m) (h_c : c ≤ 109) (h_a : a ≤ 109) 
    (k1 : 108 < (a : Int) → κ (some (zi (c : Int))) m)
    (k2 : ¬ 108 < (a : Int) → ¬ 0 < wr (m 54 a) → T (D + 1) 80 (4, [(0, zr 52), (1, zi (c : Int)), (2, zi ((a : Int) + 1))], [], m) κ)
    (k3 : ¬ 108 < (a : Int) → 0 < wr (m 54 a) → T (D + 1) 80 (4, [(0, zr 52), (1, zi ((c : Int) + 1)), (2, zi ((a : Int) + 1))], [], m) κ) :
    T (D + 1) 80 (4, lo, [], m) κ := by
  have hb2 : (-2147483648) ≤ wr (m 54 a) ∧ wr (m 54 a) ≤ 2147483647 := wrB (m 54 a)
  have he0 : wr (a : Int) = (a : Int) := wr_id (by omega) (by omega)
  have he1 : wr (c : Int) = (c : Int) := wr_id (by omega) (by omega)
  have he2 : (a : Int).toNat = a := by omega
  have key := @zb80_4r T hT D κ m c a lo hlo
  simp only [he0, he1, he2, Int.toNat_natCast] at key
  exact key
    k1
    (fun x0 => by refine ⟨?_, ?_⟩ <;> omega)
    k2
    k3
theorem zb82_0r (hT : zRules T) {D : Nat} {κ : Option zA → zM → Prop} {m : zM} {l : Int} {h : Int} 
    (o1 : T (D + 2) 82 (5, [(0, zr 52), (1, zi l), (2, zi h), (3, zi 0), (4, zi 0)], [], m) κ) :
    T (D + 2) 82 (0, [(0, zr 52), (1, zi l), (2, zi h)], [], m) κ :=
  hT.1 [(5, [0, 1, 2, 3, 4])] 6 (D + 2) 82 _ κ (o1)
theorem zb82_0 (hT : zRules T) {D : Nat} {κ : Option zA → zM → Prop} {m : zM} {l : Int} {h : Int}  (hB : zB m) (h_l : (-2) ≤ l ∧ l ≤ 108) (h_h : 0 ≤ h ∧ h ≤ 9) 
    (k1 : T (D + 2) 82 (5, [(0, zr 52), (1, zi l), (2, zi h), (3, zi 0), (4, zi 0)], [], m) κ) :
    T (D + 2) 82 (0, [(0, zr 52), (1, zi l), (2, zi h)], [], m) κ := by
  exact zb82_0r hT
    k1
theorem zb82_5r (hT : zRules T) {D : Nat} {κ : Option zA → zM → Prop} {m : zM} {l : Int} {h : Int} {c : Nat} {k : Nat} {lo : zL} (hlo : z_keep [0, 1, 2, 3, 4] lo = [(0, zr 52), (1, zi l), (2, zi h), (3, zi (c : Int)), (4, zi (k : Int))]) 
    (o1 : ¬ wr (k : Int) < wr (m 52 1) → κ (some (zi (wr (c : Int)))) m)
    (o2 : wr (k : Int) < wr (m 52 1) → (0 ≤ wr (k : Int) ∧ wr (k : Int) < 60))
    (o3 : wr (k : Int) < wr (m 52 1) → wr l < wr (m 53 ((wr (k : Int)).toNat)) → T (D + 2) 82 (5, [(0, zr 52), (1, zi l), (2, zi h), (3, zi (c : Int)), (4, zi ((k : Int) + 1))], [], m) κ)
    (o4 : wr (k : Int) < wr (m 52 1) → ¬ wr l < wr (m 53 ((wr (k : Int)).toNat)) → wr ((m 53 ((wr (k : Int)).toNat)) + h) < wr l → T (D + 2) 82 (5, [(0, zr 52), (1, zi l), (2, zi h), (3, zi (c : Int)), (4, zi ((k : Int) + 1))], [], m) κ)
    (o5 : wr (k : Int) < wr (m 52 1) → ¬ wr l < wr (m 53 ((wr (k : Int)).toNat)) → ¬ wr ((m 53 ((wr (k : Int)).toNat)) + h) < wr l → T (D + 2) 82 (5, [(0, zr 52), (1, zi l), (2, zi h), (3, zi ((c : Int) + 1)), (4, zi ((k : Int) + 1))], [], m) κ) :
    T (D + 2) 82 (5, lo, [], m) κ :=
  zkeep hT hlo (hT.1 [(5, [0, 1, 2, 3, 4])] 6 (D + 2) 82 _ κ (And.intro (fun a1 => (o1 a1)) (fun a2 => (hT.1 [(5, [0, 1, 2, 3, 4])] 6 (D + 2) 82 (16, [(0, zr 52), (1, zi l), (2, zi h), (3, zi (c : Int)), (4, zi (k : Int))], [zr 52, zi l], m) _ (And.intro (o2 (Classical.byContradiction a2)) (hT.1 [] 6 (D + 1) 81 _ _ (And.intro (fun a3 => (And.intro (z_b01L rfl) (hT.1 [(5, [0, 1, 2, 3, 4])] 6 (D + 2) 82 _ _ (And.intro (fun _ => (o3 (Classical.byContradiction a2) a3)) (fun a5 => (a5 (z_litT rfl)).elim))))) (fun a4 => (hT.1 [] 6 (D + 1) 81 (8, [(0, zi l), (1, zi (m 53 ((wr (k : Int)).toNat))), (2, zi h)], [zi h, zi (m 53 ((wr (k : Int)).toNat)), zi l], m) _ (And.intro (fun a6 => (And.intro (z_b01L rfl) (hT.1 [(5, [0, 1, 2, 3, 4])] 6 (D + 2) 82 _ _ (And.intro (fun _ => (o4 (Classical.byContradiction a2) a4 a6)) (fun a8 => (a8 (z_litT rfl)).elim))))) (fun a7 => (And.intro (z_b01L rfl) (hT.1 [(5, [0, 1, 2, 3, 4])] 6 (D + 2) 82 _ _ (And.intro (fun a9 => (z_litF a9 rfl).elim) (fun _ => (o5 (Classical.byContradiction a2) a4 a7))))))))))))))))
theorem zb82_5 (hT : zRules T) {D : Nat} {κ : Option zA → zM → Prop} {m : zM} {l : Int} {h : Int} {c : Nat} {k : Nat} {lo : zL} (hlo : z_keep [0, 1, 2, 3, 4] lo = [(0, zr 52), (1, zi l), (2, zi h), (3, zi (c : Int)), (4, zi (k : Int))])  (hB : zB m) (h_l : (-2) ≤ l ∧ l ≤ 108) (h_h : 0 ≤ h ∧ h ≤ 9) (h_c : c ≤ 60) (h_k : k ≤ 60) 
    (k1 : ¬ (k : Int) < (m 52 1) → κ (some (zi (c : Int))) m)
    (k2 : (k : Int) < (m 52 1) → l < (m 53 k) → T (D + 2) 82 (5, [(0, zr 52), (1, zi l), (2, zi h), (3, zi (c : Int)), (4, zi ((k : Int) + 1))], [], m) κ)
    (k3 : (k : Int) < (m 52 1) → ¬ l < (m 53 k) → ((m 53 k) + h) < l → T (D + 2) 82 (5, [(0, zr 52), (1, zi l), (2, zi h), (3, zi (c : Int)), (4, zi ((k : Int) + 1))], [], m) κ)
    (k4 : (k : Int) < (m 52 1) → ¬ l < (m 53 k) → ¬ ((m 53 k) + h) < l → T (D + 2) 82 (5, [(0, zr 52), (1, zi l), (2, zi h), (3, zi ((c : Int) + 1)), (4, zi ((k : Int) + 1))], [], m) κ) :
    T (D + 2) 82 (5, lo, [], m) κ := by
  have hb4 : 0 ≤ (m 52 1) ∧ (m 52 1) ≤ 60 := hB 52 1
  have hb5 : 0 ≤ (m 53 k) ∧ (m 53 k) ≤ 99 := hB 53 k
  have he0 : wr (k : Int) = (k : Int) := wr_id (by omega) (by omega)
  have he1 : wr (m 52 1) = (m 52 1) := wr_id (by omega) (by omega)
  have he2 : (k : Int).toNat = k := by omega
  have he3 : wr l = l := wr_id (by omega) (by omega)
  have he4 : wr (m 53 k) = (m 53 k) := wr_id (by omega) (by omega)
  have he5 : wr ((m 53 k) + h) = ((m 53 k) + h) := wr_id (by omega) (by omega)
  have he6 : wr (c : Int) = (c : Int) := wr_id (by omega) (by omega)
  have key := @zb82_5r T hT D κ m l h c k lo hlo
  simp only [he0, he1, he2, he3, he4, he5, he6, Int.toNat_natCast] at key
  exact key
    k1
    (fun x0 => by refine ⟨?_, ?_⟩ <;> omega)
    k2
    k3
    k4
theorem zb83_0r (hT : zRules T) {D : Nat} {κ : Option zA → zM → Prop} {m : zM} {l : Int} {h : Int} 
    (o1 : T (D + 2) 83 (2, [(0, zr 52), (1, zi l), (2, zi h), (3, zi 0)], [], m) κ) :
    T (D + 2) 83 (0, [(0, zr 52), (1, zi l), (2, zi h)], [], m) κ :=
  hT.1 [(2, [0, 1, 2, 3])] 6 (D + 2) 83 _ κ (o1)
theorem zb83_0 (hT : zRules T) {D : Nat} {κ : Option zA → zM → Prop} {m : zM} {l : Int} {h : Int}  (hB : zB m) (h_l : (-2) ≤ l ∧ l ≤ 108) (h_h : 0 ≤ h ∧ h ≤ 9) 
    (k1 : T (D + 2) 83 (2, [(0, zr 52), (1, zi l), (2, zi h), (3, zi 0)], [], m) κ) :
    T (D + 2) 83 (0, [(0, zr 52), (1, zi l), (2, zi h)], [], m) κ := by
  exact zb83_0r hT
    k1
theorem zb83_2r (hT : zRules T) {D : Nat} {κ : Option zA → zM → Prop} {m : zM} {l : Int} {h : Int} {k : Nat} {lo : zL} (hlo : z_keep [0, 1, 2, 3] lo = [(0, zr 52), (1, zi l), (2, zi h), (3, zi (k : Int))]) 
    (o1 : ¬ wr (k : Int) < wr (m 52 1) → κ (some (zi (-1))) m)
    (o2 : wr (k : Int) < wr (m 52 1) → (0 ≤ wr (k : Int) ∧ wr (k : Int) < 60))
    (o3 : wr (k : Int) < wr (m 52 1) → wr l < wr (m 53 ((wr (k : Int)).toNat)) → κ (some (zi (wr (k : Int)))) m)
    (o4 : wr (k : Int) < wr (m 52 1) → ¬ wr l < wr (m 53 ((wr (k : Int)).toNat)) → wr ((m 53 ((wr (k : Int)).toNat)) + h) < wr l → κ (some (zi (wr (k : Int)))) m)
    (o5 : wr (k : Int) < wr (m 52 1) → ¬ wr l < wr (m 53 ((wr (k : Int)).toNat)) → ¬ wr ((m 53 ((wr (k : Int)).toNat)) + h) < wr l → T (D + 2) 83 (2, [(0, zr 52), (1, zi l), (2, zi h), (3, zi ((k : Int) + 1))], [], m) κ) :
    T (D + 2) 83 (2, lo, [], m) κ :=
  zkeep hT hlo (hT.1 [(2, [0, 1, 2, 3])] 6 (D + 2) 83 _ κ (And.intro (fun a1 => (o1 a1)) (fun a2 => (hT.1 [(2, [0, 1, 2, 3])] 6 (D + 2) 83 (12, [(0, zr 52), (1, zi l), (2, zi h), (3, zi (k : Int))], [zr 52, zi l], m) _ (And.intro (o2 (Classical.byContradiction a2)) (hT.1 [] 6 (D + 1) 81 _ _ (And.intro (fun a3 => (And.intro (z_b01L rfl) (hT.1 [(2, [0, 1, 2, 3])] 6 (D + 2) 83 _ _ (And.intro (fun a5 => (z_litF a5 rfl).elim) (fun _ => (o3 (Classical.byContradiction a2) a3)))))) (fun a4 => (hT.1 [] 6 (D + 1) 81 (8, [(0, zi l), (1, zi (m 53 ((wr (k : Int)).toNat))), (2, zi h)], [zi h, zi (m 53 ((wr (k : Int)).toNat)), zi l], m) _ (And.intro (fun a6 => (And.intro (z_b01L rfl) (hT.1 [(2, [0, 1, 2, 3])] 6 (D + 2) 83 _ _ (And.intro (fun a8 => (z_litF a8 rfl).elim) (fun _ => (o4 (Classical.byContradiction a2) a4 a6)))))) (fun a7 => (And.intro (z_b01L rfl) (hT.1 [(2, [0, 1, 2, 3])] 6 (D + 2) 83 _ _ (And.intro (fun _ => (o5 (Classical.byContradiction a2) a4 a7)) (fun a9 => (a9 (z_litT rfl)).elim)))))))))))))))
theorem zb83_2 (hT : zRules T) {D : Nat} {κ : Option zA → zM → Prop} {m : zM} {l : Int} {h : Int} {k : Nat} {lo : zL} (hlo : z_keep [0, 1, 2, 3] lo = [(0, zr 52), (1, zi l), (2, zi h), (3, zi (k : Int))])  (hB : zB m) (h_l : (-2) ≤ l ∧ l ≤ 108) (h_h : 0 ≤ h ∧ h ≤ 9) (h_k : k ≤ 60) 
    (k1 : ¬ (k : Int) < (m 52 1) → κ (some (zi (-1))) m)
    (k2 : (k : Int) < (m 52 1) → l < (m 53 k) → κ (some (zi (k : Int))) m)
    (k3 : (k : Int) < (m 52 1) → ¬ l < (m 53 k) → ((m 53 k) + h) < l → κ (some (zi (k : Int))) m)
    (k4 : (k : Int) < (m 52 1) → ¬ l < (m 53 k) → ¬ ((m 53 k) + h) < l → T (D + 2) 83 (2, [(0, zr 52), (1, zi l), (2, zi h), (3, zi ((k : Int) + 1))], [], m) κ) :
    T (D + 2) 83 (2, lo, [], m) κ := by
  have hb3 : 0 ≤ (m 52 1) ∧ (m 52 1) ≤ 60 := hB 52 1
  have hb4 : 0 ≤ (m 53 k) ∧ (m 53 k) ≤ 99 := hB 53 k
  have he0 : wr (k : Int) = (k : Int) := wr_id (by omega) (by omega)
  have he1 : wr (m 52 1) = (m 52 1) := wr_id (by omega) (by omega)
  have he2 : (k : Int).toNat = k := by omega
  have he3 : wr l = l := wr_id (by omega) (by omega)
  have he4 : wr (m 53 k) = (m 53 k) := wr_id (by omega) (by omega)
  have he5 : wr ((m 53 k) + h) = ((m 53 k) + h) := wr_id (by omega) (by omega)
  have key := @zb83_2r T hT D κ m l h k lo hlo
  simp only [he0, he1, he2, he3, he4, he5, Int.toNat_natCast] at key
  exact key
    k1
    (fun x0 => by refine ⟨?_, ?_⟩ <;> omega)
    k2
    k3
    k4
theorem zb134_0r (hT : zRules T) {D : Nat} {κ : Option zA → zM → Prop} {m : zM} {n : Int} 
    (o1 : wr n < 0 → κ (some (zi (-1))) m)
    (o2 : ¬ wr n < 0 → ¬ 60 < wr n → T (D + 5) 16 (0, [(0, zr 28), (1, zr 17)], [], m) (fun r m1 => T (D + 6) 134 (23, [(0, zr 1), (1, zi n)], r.toList ++ [], m1) κ))
    (o3 : ¬ wr n < 0 → 60 < wr n → κ (some (zi (-1))) m) :
    T (D + 6) 134 (0, [(0, zr 1), (1, zi n)], [], m) κ :=
  hT.1 [] 6 (D + 6) 134 _ κ (And.intro (fun a1 => (o1 a1)) (fun a2 => (And.intro (fun a3 => (hT.1 [] 6 (D + 6) 134 (13, [(0, zr 1), (1, zi n)], [zr 1], m) _ (o2 a2 a3))) (fun a4 => (hT.1 [] 6 (D + 6) 134 (11, [(0, zr 1), (1, zi n)], [zi (-1)], m) _ (o3 a2 (Classical.byContradiction a4)))))))
theorem zb134_0 (hT : zRules T) {D : Nat} {κ : Option zA → zM → Prop} {m : zM} {n : Int}  (hB : zB m) (h_n : (-2147483648) ≤ n ∧ n ≤ 2147483647) 
    (k1 : n < 0 → κ (some (zi (-1))) m)
    (k2 : ¬ n < 0 → ¬ 60 < n → T (D + 5) 16 (0, [(0, zr 28), (1, zr 17)], [], m) (fun r m1 => T (D + 6) 134 (23, [(0, zr 1), (1, zi n)], r.toList ++ [], m1) κ))
    (k3 : ¬ n < 0 → 60 < n → κ (some (zi (-1))) m) :
    T (D + 6) 134 (0, [(0, zr 1), (1, zi n)], [], m) κ := by
  have he0 : wr n = n := wr_id (by omega) (by omega)
  have key := @zb134_0r T hT D κ m n
  simp only [he0, Int.toNat_natCast] at key
  exact key
    k1
    k2
    k3
theorem zb134_23r (hT : zRules T) {D : Nat} {κ : Option zA → zM → Prop} {m : zM} {n : Nat} {lo : zL} (hlo : z_keep [0, 1] lo = [(0, zr 1), (1, zi (n : Int))]) 
    (o1 : T (D + 5) 175 (0, [(0, zr 1), (1, zi (n : Int))], [], (zu (zu (zu m 17 12 0) 17 13 0) 17 14 0)) (fun r m1 => T (D + 6) 134 (35, [(0, zr 1), (1, zi (n : Int))], r.toList ++ [], m1) κ)) :
    T (D + 6) 134 (23, lo, [], m) κ :=
  zkeep hT hlo (hT.1 [] 6 (D + 6) 134 _ κ (hT.1 [] 6 (D + 5) 35 _ _ (And.intro trivial (And.intro trivial (hT.1 [] 6 (D + 5) 35 (10, [(0, zr 17)], [], (zu (zu m 17 12 0) 17 13 0)) _ (And.intro trivial (hT.1 [] 6 (D + 6) 134 _ _ (o1))))))))
theorem zb134_23 (hT : zRules T) {D : Nat} {κ : Option zA → zM → Prop} {m : zM} {n : Nat} {lo : zL} (hlo : z_keep [0, 1] lo = [(0, zr 1), (1, zi (n : Int))])  (hB : zB m) (h_n : n ≤ 60) 
    (k1 : zB (zu (zu (zu m 17 12 0) 17 13 0) 17 14 0) → T (D + 5) 175 (0, [(0, zr 1), (1, zi (n : Int))], [], (zu (zu (zu m 17 12 0) 17 13 0) 17 14 0)) (fun r m1 => T (D + 6) 134 (35, [(0, zr 1), (1, zi (n : Int))], r.toList ++ [], m1) κ)) :
    T (D + 6) 134 (23, lo, [], m) κ := by
  exact zb134_23r hT hlo
    (k1  (zB_u (zB_u (zB_u hB trivial) trivial) trivial))
theorem zb134_35r (hT : zRules T) {D : Nat} {κ : Option zA → zM → Prop} {m : zM} {lo : zL} (hlo : z_keep [0] lo = [(0, zr 1)]) 
    (o1 : T (D + 5) 19 (0, [(0, zr 28), (1, zr 17)], [], m) (fun r m1 => T (D + 6) 134 (46, [(0, zr 1)], r.toList ++ [], m1) κ)) :
    T (D + 6) 134 (35, lo, [], m) κ :=
  zkeep hT hlo (hT.1 [] 6 (D + 6) 134 _ κ (o1))
theorem zb134_35 (hT : zRules T) {D : Nat} {κ : Option zA → zM → Prop} {m : zM} {lo : zL} (hlo : z_keep [0] lo = [(0, zr 1)])  (hB : zB m) 
    (k1 : T (D + 5) 19 (0, [(0, zr 28), (1, zr 17)], [], m) (fun r m1 => T (D + 6) 134 (46, [(0, zr 1)], r.toList ++ [], m1) κ)) :
    T (D + 6) 134 (35, lo, [], m) κ := by
  exact zb134_35r hT hlo
    k1
theorem zb134_46r (hT : zRules T) {D : Nat} {κ : Option zA → zM → Prop} {m : zM} {lo : zL} (hlo : z_keep [0] lo = [(0, zr 1)]) 
    (o1 : κ (some (zi (wr (wr (wr (((m 17 12) * (m 24 1)) + ((m 17 13) * (m 24 2)))))))) (zu (zu (zu (zu m 72 1 3) 73 0 (m 17 12)) 73 1 (m 17 13)) 73 2 (m 17 14))) :
    T (D + 6) 134 (46, lo, [], m) κ :=
  zkeep hT hlo (hT.1 [] 6 (D + 6) 134 _ κ (hT.1 [] 6 (D + 5) 177 _ _ (hT.1 [] 6 (D + 5) 177 (12, [(0, zr 1)], [zr 1, zi (m 17 12), zr 72], m) _ (hT.1 [] 6 (D + 4) 47 _ _ (And.intro trivial (hT.1 [] 6 (D + 4) 47 (10, [(0, zr 72), (1, zi (m 17 12)), (2, zi (m 17 13)), (3, zi (m 17 14))], [zi 0, zr 73], (zu m 72 1 3)) _ (And.intro (And.intro (z_ixL rfl) trivial) (hT.1 [] 6 (D + 4) 47 (18, [(0, zr 72), (1, zi (m 17 12)), (2, zi (m 17 13)), (3, zi (m 17 14))], [zi (m 17 13), zi 1, zr 73], (zu (zu m 72 1 3) 73 0 (m 17 12))) _ (And.intro (And.intro (z_ixL rfl) trivial) (And.intro (And.intro (z_ixL rfl) trivial) (hT.1 [] 6 (D + 4) 47 (26, [(0, zr 72), (1, zi (m 17 12)), (2, zi (m 17 13)), (3, zi (m 17 14))], [], (zu (zu (zu (zu m 72 1 3) 73 0 (m 17 12)) 73 1 (m 17 13)) 73 2 (m 17 14))) _ (hT.1 [] 6 (D + 5) 177 _ _ (hT.1 [] 6 (D + 6) 134 _ _ (hT.1 [] 6 (D + 5) 36 _ _ (hT.1 [] 6 (D + 4) 33 _ _ (And.intro (z_ixL rfl) (hT.1 [] 6 (D + 4) 33 (8, [(0, zr 17), (1, zi (m 17 12)), (2, zi (m 17 13))], [zi ((m 17 12) * (m 24 1))], (zu (zu (zu (zu m 72 1 3) 73 0 (m 17 12)) 73 1 (m 17 13)) 73 2 (m 17 14))) _ (And.intro (z_ixL rfl) (hT.1 [] 6 (D + 4) 33 (16, [(0, zr 17), (1, zi (m 17 12)), (2, zi (m 17 13))], [zi ((m 17 13) * (m 24 2)), zi ((m 17 12) * (m 24 1))], (zu (zu (zu (zu m 72 1 3) 73 0 (m 17 12)) 73 1 (m 17 13)) 73 2 (m 17 14))) _ (hT.1 [] 6 (D + 5) 36 _ _ (hT.1 [] 6 (D + 6) 134 _ _ (o1))))))))))))))))))))))
theorem zb134_46 (hT : zRules T) {D : Nat} {κ : Option zA → zM → Prop} {m : zM} {lo : zL} (hlo : z_keep [0] lo = [(0, zr 1)])  (hB : zB m) 
    (k1 : zB (zu (zu (zu (zu m 72 1 3) 73 0 (m 17 12)) 73 1 (m 17 13)) 73 2 (m 17 14)) → κ (some (zi (wr (((m 17 12) * (m 24 1)) + ((m 17 13) * (m 24 2)))))) (zu (zu (zu (zu m 72 1 3) 73 0 (m 17 12)) 73 1 (m 17 13)) 73 2 (m 17 14))) :
    T (D + 6) 134 (46, lo, [], m) κ := by
  have hb0 : 0 ≤ (m 24 1) ∧ (m 24 1) ≤ 9 := hB 24 1
  have hb1 : 0 ≤ (m 24 2) ∧ (m 24 2) ≤ 9 := hB 24 2
  have hb2 : (-2147483648) ≤ wr (((m 17 12) * (m 24 1)) + ((m 17 13) * (m 24 2))) ∧ wr (((m 17 12) * (m 24 1)) + ((m 17 13) * (m 24 2))) ≤ 2147483647 := wrB (((m 17 12) * (m 24 1)) + ((m 17 13) * (m 24 2)))
  have he0 : wr (wr (((m 17 12) * (m 24 1)) + ((m 17 13) * (m 24 2)))) = wr (((m 17 12) * (m 24 1)) + ((m 17 13) * (m 24 2))) := wr_id (by omega) (by omega)
  have key := @zb134_46r T hT D κ m  lo hlo
  simp only [he0, Int.toNat_natCast] at key
  exact key
    (k1  (zB_u (zB_u (zB_u (zB_u hB (show 0 ≤ 3 ∧ 3 ≤ 26 from ⟨by omega, by omega⟩)) trivial) trivial) trivial))
theorem zb249_0r (hT : zRules T) {D : Nat} {κ : Option zA → zM → Prop} {m : zM} {n : Int} 
    (o1 : wr n < 0 → κ (some (zi (-1))) (zu m 74 12 0))
    (o2 : ¬ wr n < 0 → 60 < wr n → κ (some (zi (-1))) (zu m 74 12 0))
    (o3 : ¬ wr n < 0 → ¬ 60 < wr n → T (D + 2) 228 (0, [(0, zr 75), (1, zr 91), (2, zi 0)], [], (zu m 74 12 0)) (fun r m1 => T (D + 3) 249 (29, [(0, zr 74), (1, zi n)], r.toList ++ [], m1) κ)) :
    T (D + 3) 249 (0, [(0, zr 74), (1, zi n)], [], m) κ :=
  hT.1 [(35, [0, 1, 2])] 6 (D + 3) 249 _ κ (And.intro trivial (hT.1 [(35, [0, 1, 2])] 6 (D + 3) 249 (9, [(0, zr 74), (1, zi n)], [zi 60, zi 0, zi n], (zu m 74 12 0)) _ (hT.1 [] 6 (D + 2) 186 _ _ (And.intro (fun a1 => (And.intro (z_b01L rfl) (hT.1 [(35, [0, 1, 2])] 6 (D + 3) 249 _ _ (And.intro (fun a3 => (z_litF a3 rfl).elim) (fun _ => (o1 a1)))))) (fun a2 => (And.intro (fun a4 => (hT.1 [] 6 (D + 2) 186 (14, [(0, zi n), (1, zi 0), (2, zi 60)], [], (zu m 74 12 0)) _ (And.intro (z_b01L rfl) (hT.1 [(35, [0, 1, 2])] 6 (D + 3) 249 _ _ (And.intro (fun a6 => (z_litF a6 rfl).elim) (fun _ => (o2 a2 a4))))))) (fun a5 => (hT.1 [] 6 (D + 2) 186 (10, [(0, zi n), (1, zi 0), (2, zi 60)], [], (zu m 74 12 0)) _ (And.intro (z_b01L rfl) (hT.1 [(35, [0, 1, 2])] 6 (D + 3) 249 _ _ (And.intro (fun _ => (hT.1 [(35, [0, 1, 2])] 6 (D + 3) 249 (26, [(0, zr 74), (1, zi n)], [zi 0, zr 91, zr 75], (zu m 74 12 0)) _ (o3 a2 a5))) (fun a7 => (a7 (z_litT rfl)).elim))))))))))))
theorem zb249_0 (hT : zRules T) {D : Nat} {κ : Option zA → zM → Prop} {m : zM} {n : Int}  (hB : zB m) (h_n : (-2147483648) ≤ n ∧ n ≤ 2147483647) 
    (k1 : n < 0 → zB (zu m 74 12 0) → κ (some (zi (-1))) (zu m 74 12 0))
    (k2 : ¬ n < 0 → 60 < n → zB (zu m 74 12 0) → κ (some (zi (-1))) (zu m 74 12 0))
    (k3 : ¬ n < 0 → ¬ 60 < n → zB (zu m 74 12 0) → T (D + 2) 228 (0, [(0, zr 75), (1, zr 91), (2, zi 0)], [], (zu m 74 12 0)) (fun r m1 => T (D + 3) 249 (29, [(0, zr 74), (1, zi n)], r.toList ++ [], m1) κ)) :
    T (D + 3) 249 (0, [(0, zr 74), (1, zi n)], [], m) κ := by
  have he0 : wr n = n := wr_id (by omega) (by omega)
  have key := @zb249_0r T hT D κ m n
  simp only [he0, Int.toNat_natCast] at key
  exact key
    (fun x0 => k1 x0 (zB_u hB trivial))
    (fun x0 x1 => k2 x0 x1 (zB_u hB trivial))
    (fun x0 x1 => k3 x0 x1 (zB_u hB trivial))
theorem zb249_29r (hT : zRules T) {D : Nat} {κ : Option zA → zM → Prop} {m : zM} {n : Nat} {lo : zL} (hlo : z_keep [0, 1] lo = [(0, zr 74), (1, zi (n : Int))]) 
    (o1 : T (D + 3) 249 (35, [(0, zr 74), (1, zi (n : Int)), (2, zi 0)], [], (zu (zu (zu m 74 31 0) 74 32 0) 74 33 0)) κ) :
    T (D + 3) 249 (29, lo, [], m) κ :=
  zkeep hT hlo (hT.1 [(35, [0, 1, 2])] 6 (D + 3) 249 _ κ (hT.1 [] 6 (D + 2) 224 _ _ (And.intro trivial (And.intro trivial (hT.1 [] 6 (D + 2) 224 (10, [(0, zr 74)], [], (zu (zu m 74 31 0) 74 32 0)) _ (And.intro trivial (hT.1 [(35, [0, 1, 2])] 6 (D + 3) 249 _ _ (o1))))))))
theorem zb249_29 (hT : zRules T) {D : Nat} {κ : Option zA → zM → Prop} {m : zM} {n : Nat} {lo : zL} (hlo : z_keep [0, 1] lo = [(0, zr 74), (1, zi (n : Int))])  (hB : zB m) (h_n : n ≤ 60) 
    (k1 : zB (zu (zu (zu m 74 31 0) 74 32 0) 74 33 0) → T (D + 3) 249 (35, [(0, zr 74), (1, zi (n : Int)), (2, zi 0)], [], (zu (zu (zu m 74 31 0) 74 32 0) 74 33 0)) κ) :
    T (D + 3) 249 (29, lo, [], m) κ := by
  exact zb249_29r hT hlo
    (k1  (zB_u (zB_u (zB_u hB trivial) trivial) trivial))
theorem zb249_35r (hT : zRules T) {D : Nat} {κ : Option zA → zM → Prop} {m : zM} {n : Nat} {k : Nat} {lo : zL} (hlo : z_keep [0, 1, 2] lo = [(0, zr 74), (1, zi (n : Int)), (2, zi (k : Int))]) 
    (o1 : ¬ wr (k : Int) < wr (n : Int) → κ (some (zi (wr (wr (((m 79 1) * (m 74 31)) + ((m 79 2) * (m 74 32))))))) (zu (zu (zu (zu (zu (zu (zu m 74 11 0) 81 0 (m 74 31)) 74 11 1) 81 1 (m 74 32)) 74 11 2) 81 2 (m 74 33)) 74 11 3))
    (o2 : wr (k : Int) < wr (n : Int) → T (D + 2) 235 (0, [(0, zr 74), (1, zr 91)], [], m) (fun r m1 => T (D + 3) 249 (48, [(0, zr 74), (1, zi (n : Int)), (2, zi (k : Int))], r.toList ++ [], m1) κ)) :
    T (D + 3) 249 (35, lo, [], m) κ :=
  zkeep hT hlo (hT.1 [(35, [0, 1, 2])] 6 (D + 3) 249 _ κ (And.intro (fun a1 => (hT.1 [] 6 (D + 2) 233 _ _ (And.intro trivial (hT.1 [] 6 (D + 2) 233 (10, [(0, zr 74)], [zi (m 74 31), zr 74], (zu m 74 11 0)) _ (hT.1 [] 6 (D + 1) 189 _ _ (And.intro (And.intro (z_ixL rfl) trivial) (hT.1 [] 6 (D + 1) 189 (10, [(0, zr 74), (1, zi (m 74 31))], [], (zu (zu m 74 11 0) 81 0 (m 74 31))) _ (And.intro trivial (hT.1 [] 6 (D + 1) 189 (20, [(0, zr 74), (1, zi (m 74 31))], [], (zu (zu (zu m 74 11 0) 81 0 (m 74 31)) 74 11 1)) _ (hT.1 [] 6 (D + 2) 233 _ _ (hT.1 [] 6 (D + 1) 189 _ _ (And.intro (And.intro (z_ixL rfl) trivial) (hT.1 [] 6 (D + 1) 189 (10, [(0, zr 74), (1, zi (m 74 32))], [], (zu (zu (zu (zu m 74 11 0) 81 0 (m 74 31)) 74 11 1) 81 1 (m 74 32))) _ (And.intro trivial (hT.1 [] 6 (D + 1) 189 (20, [(0, zr 74), (1, zi (m 74 32))], [], (zu (zu (zu (zu (zu m 74 11 0) 81 0 (m 74 31)) 74 11 1) 81 1 (m 74 32)) 74 11 2)) _ (hT.1 [] 6 (D + 2) 233 _ _ (hT.1 [] 6 (D + 1) 189 _ _ (And.intro (And.intro (z_ixL rfl) trivial) (hT.1 [] 6 (D + 1) 189 (10, [(0, zr 74), (1, zi (m 74 33))], [], (zu (zu (zu (zu (zu (zu m 74 11 0) 81 0 (m 74 31)) 74 11 1) 81 1 (m 74 32)) 74 11 2) 81 2 (m 74 33))) _ (And.intro trivial (hT.1 [] 6 (D + 1) 189 (20, [(0, zr 74), (1, zi (m 74 33))], [], (zu (zu (zu (zu (zu (zu (zu m 74 11 0) 81 0 (m 74 31)) 74 11 1) 81 1 (m 74 32)) 74 11 2) 81 2 (m 74 33)) 74 11 3)) _ (hT.1 [] 6 (D + 2) 233 _ _ (hT.1 [(35, [0, 1, 2])] 6 (D + 3) 249 _ _ (hT.1 [] 6 (D + 2) 225 _ _ (And.intro (z_ixL rfl) (hT.1 [] 6 (D + 2) 225 (10, [(0, zr 74)], [zi (m 74 31), zi (m 79 1)], (zu (zu (zu (zu (zu (zu (zu m 74 11 0) 81 0 (m 74 31)) 74 11 1) 81 1 (m 74 32)) 74 11 2) 81 2 (m 74 33)) 74 11 3)) _ (And.intro (z_ixL rfl) (hT.1 [] 6 (D + 2) 225 (18, [(0, zr 74)], [zr 74, zi (m 79 2), zi ((m 79 1) * (m 74 31))], (zu (zu (zu (zu (zu (zu (zu m 74 11 0) 81 0 (m 74 31)) 74 11 1) 81 1 (m 74 32)) 74 11 2) 81 2 (m 74 33)) 74 11 3)) _ (hT.1 [(35, [0, 1, 2])] 6 (D + 3) 249 _ _ (o1 a1)))))))))))))))))))))))))))))) (fun a2 => (hT.1 [(35, [0, 1, 2])] 6 (D + 3) 249 (45, [(0, zr 74), (1, zi (n : Int)), (2, zi (k : Int))], [zr 91, zr 74], m) _ (o2 (Classical.byContradiction a2))))))
theorem zb249_35 (hT : zRules T) {D : Nat} {κ : Option zA → zM → Prop} {m : zM} {n : Nat} {k : Nat} {lo : zL} (hlo : z_keep [0, 1, 2] lo = [(0, zr 74), (1, zi (n : Int)), (2, zi (k : Int))])  (hB : zB m) (h_n : n ≤ 60) (h_k : k ≤ 60) 
    (k1 : ¬ (k : Int) < (n : Int) → zB (zu (zu (zu (zu (zu (zu (zu m 74 11 0) 81 0 (m 74 31)) 74 11 1) 81 1 (m 74 32)) 74 11 2) 81 2 (m 74 33)) 74 11 3) → κ (some (zi (wr (((m 79 1) * (m 74 31)) + ((m 79 2) * (m 74 32)))))) (zu (zu (zu (zu (zu (zu (zu m 74 11 0) 81 0 (m 74 31)) 74 11 1) 81 1 (m 74 32)) 74 11 2) 81 2 (m 74 33)) 74 11 3))
    (k2 : (k : Int) < (n : Int) → T (D + 2) 235 (0, [(0, zr 74), (1, zr 91)], [], m) (fun r m1 => T (D + 3) 249 (48, [(0, zr 74), (1, zi (n : Int)), (2, zi (k : Int))], r.toList ++ [], m1) κ)) :
    T (D + 3) 249 (35, lo, [], m) κ := by
  have hb2 : 0 ≤ (m 79 1) ∧ (m 79 1) ≤ 9 := hB 79 1
  have hb3 : 0 ≤ (m 79 2) ∧ (m 79 2) ≤ 9 := hB 79 2
  have hb4 : (-2147483648) ≤ wr (((m 79 1) * (m 74 31)) + ((m 79 2) * (m 74 32))) ∧ wr (((m 79 1) * (m 74 31)) + ((m 79 2) * (m 74 32))) ≤ 2147483647 := wrB (((m 79 1) * (m 74 31)) + ((m 79 2) * (m 74 32)))
  have he0 : wr (k : Int) = (k : Int) := wr_id (by omega) (by omega)
  have he1 : wr (n : Int) = (n : Int) := wr_id (by omega) (by omega)
  have he2 : wr (wr (((m 79 1) * (m 74 31)) + ((m 79 2) * (m 74 32)))) = wr (((m 79 1) * (m 74 31)) + ((m 79 2) * (m 74 32))) := wr_id (by omega) (by omega)
  have key := @zb249_35r T hT D κ m n k lo hlo
  simp only [he0, he1, he2, Int.toNat_natCast] at key
  exact key
    (fun x0 => k1 x0 (zB_u (zB_u (zB_u (zB_u (zB_u (zB_u (zB_u hB (show 0 ≤ 0 ∧ 0 ≤ 32 from ⟨by omega, by omega⟩)) trivial) (show 0 ≤ 1 ∧ 1 ≤ 32 from ⟨by omega, by omega⟩)) trivial) (show 0 ≤ 2 ∧ 2 ≤ 32 from ⟨by omega, by omega⟩)) trivial) (show 0 ≤ 3 ∧ 3 ≤ 32 from ⟨by omega, by omega⟩)))
    k2
theorem zb249_48r (hT : zRules T) {D : Nat} {κ : Option zA → zM → Prop} {m : zM} {n : Nat} {k : Nat} {lo : zL} (hlo : z_keep [0, 1, 2] lo = [(0, zr 74), (1, zi (n : Int)), (2, zi (k : Int))]) 
    (o1 : T (D + 3) 249 (35, [(0, zr 74), (1, zi (n : Int)), (2, zi ((k : Int) + 1))], [], m) κ) :
    T (D + 3) 249 (48, lo, [], m) κ :=
  zkeep hT hlo (hT.1 [(35, [0, 1, 2])] 6 (D + 3) 249 _ κ (o1))
theorem zb249_48 (hT : zRules T) {D : Nat} {κ : Option zA → zM → Prop} {m : zM} {n : Nat} {k : Nat} {lo : zL} (hlo : z_keep [0, 1, 2] lo = [(0, zr 74), (1, zi (n : Int)), (2, zi (k : Int))])  (hB : zB m) (h_n : n ≤ 60) (h_k : k ≤ 60) 
    (k1 : T (D + 3) 249 (35, [(0, zr 74), (1, zi (n : Int)), (2, zi ((k : Int) + 1))], [], m) κ) :
    T (D + 3) 249 (48, lo, [], m) κ := by
  exact zb249_48r hT hlo
    k1
theorem zb135_0r (hT : zRules T) {D : Nat} {κ : Option zA → zM → Prop} {m : zM} {p : Int} {q : Int} {n : Int} 
    (o1 : wr p < 0 → κ (some (zi (-1))) m)
    (o2 : ¬ wr p < 0 → ¬ wr p < wr (m 17 0) → κ (some (zi (-1))) m)
    (o3 : ¬ wr p < 0 → wr p < wr (m 17 0) → wr q < 0 → κ (some (zi (-1))) m)
    (o4 : ¬ wr p < 0 → wr p < wr (m 17 0) → ¬ wr q < 0 → ¬ wr q < 4 → κ (some (zi (-1))) m)
    (o5 : ¬ wr p < 0 → wr p < wr (m 17 0) → ¬ wr q < 0 → wr q < 4 → wr n < 1 → κ (some (zi (-1))) m)
    (o6 : ¬ wr p < 0 → wr p < wr (m 17 0) → ¬ wr q < 0 → wr q < 4 → ¬ wr n < 1 → 60 < wr n → κ (some (zi (-1))) m)
    (o7 : ¬ wr p < 0 → wr p < wr (m 17 0) → ¬ wr q < 0 → wr q < 4 → ¬ wr n < 1 → ¬ 60 < wr n → T (D + 5) 180 (0, [(0, zr 1), (1, zi p), (2, zi q), (3, zi n)], [], m) (fun r m1 => T (D + 6) 135 (19, [(0, zr 1), (1, zi p), (2, zi q), (3, zi n)], r.toList ++ [], m1) κ)) :
    T (D + 6) 135 (0, [(0, zr 1), (1, zi p), (2, zi q), (3, zi n)], [], m) κ :=
  hT.1 [] 6 (D + 6) 135 _ κ (hT.1 [] 6 (D + 5) 179 _ _ (hT.1 [] 6 (D + 4) 25 _ _ (And.intro (fun a1 => (And.intro (z_b01L rfl) (hT.1 [] 6 (D + 5) 179 _ _ (And.intro (fun _ => (And.intro (z_b01L rfl) (hT.1 [] 6 (D + 6) 135 _ _ (And.intro (fun a4 => (z_litF a4 rfl).elim) (fun _ => (o1 a1)))))) (fun a3 => (a3 (z_litT rfl)).elim))))) (fun a2 => (And.intro (fun a5 => (hT.1 [] 6 (D + 4) 25 (16, [(0, zr 17), (1, zi p)], [], m) _ (And.intro (z_b01L rfl) (hT.1 [] 6 (D + 5) 179 _ _ (And.intro (fun _ => (And.intro (z_b01L rfl) (hT.1 [] 6 (D + 6) 135 _ _ (And.intro (fun a8 => (z_litF a8 rfl).elim) (fun _ => (o2 a2 a5)))))) (fun a7 => (a7 (z_litT rfl)).elim)))))) (fun a6 => (hT.1 [] 6 (D + 4) 25 (12, [(0, zr 17), (1, zi p)], [], m) _ (And.intro (z_b01L rfl) (hT.1 [] 6 (D + 5) 179 _ _ (And.intro (fun a9 => (z_litF a9 rfl).elim) (fun _ => (hT.1 [] 6 (D + 4) 163 _ _ (And.intro (fun a10 => (And.intro (z_b01L rfl) (hT.1 [] 6 (D + 5) 179 _ _ (And.intro (fun _ => (And.intro (z_b01L rfl) (hT.1 [] 6 (D + 6) 135 _ _ (And.intro (fun a13 => (z_litF a13 rfl).elim) (fun _ => (o3 a2 (Classical.byContradiction a6) a10)))))) (fun a12 => (a12 (z_litT rfl)).elim))))) (fun a11 => (And.intro (fun a14 => (hT.1 [] 6 (D + 4) 163 (14, [(0, zi q)], [zi 0], m) _ (And.intro (z_b01L rfl) (hT.1 [] 6 (D + 5) 179 _ _ (And.intro (fun _ => (And.intro (z_b01L rfl) (hT.1 [] 6 (D + 6) 135 _ _ (And.intro (fun a17 => (z_litF a17 rfl).elim) (fun _ => (o4 a2 (Classical.byContradiction a6) a11 a14)))))) (fun a16 => (a16 (z_litT rfl)).elim)))))) (fun a15 => (hT.1 [] 6 (D + 4) 163 (10, [(0, zi q)], [zi 1], m) _ (And.intro (z_b01L rfl) (hT.1 [] 6 (D + 5) 179 _ _ (And.intro (fun a18 => (z_litF a18 rfl).elim) (fun _ => (And.intro (fun a19 => (And.intro (z_b01L rfl) (hT.1 [] 6 (D + 6) 135 _ _ (And.intro (fun a21 => (z_litF a21 rfl).elim) (fun _ => (o5 a2 (Classical.byContradiction a6) a11 (Classical.byContradiction a15) a19)))))) (fun a20 => (hT.1 [] 6 (D + 5) 179 (26, [(0, zr 1), (1, zi p), (2, zi q), (3, zi n)], [zi 60, zi n], m) _ (And.intro (fun a22 => (And.intro (z_b01L rfl) (hT.1 [] 6 (D + 6) 135 _ _ (And.intro (fun a24 => (z_litF a24 rfl).elim) (fun _ => (o6 a2 (Classical.byContradiction a6) a11 (Classical.byContradiction a15) a20 a22)))))) (fun a23 => (And.intro (z_b01L rfl) (hT.1 [] 6 (D + 6) 135 _ _ (And.intro (fun _ => (o7 a2 (Classical.byContradiction a6) a11 (Classical.byContradiction a15) a20 a23)) (fun a25 => (a25 (z_litT rfl)).elim))))))))))))))))))))))))))))))
theorem zb135_0 (hT : zRules T) {D : Nat} {κ : Option zA → zM → Prop} {m : zM} {p : Int} {q : Int} {n : Int}  (hB : zB m) (h_p : (-2147483648) ≤ p ∧ p ≤ 2147483647) (h_q : (-2147483648) ≤ q ∧ q ≤ 2147483647) (h_n : (-2147483648) ≤ n ∧ n ≤ 2147483647) 
    (k1 : p < 0 → κ (some (zi (-1))) m)
    (k2 : ¬ p < 0 → ¬ p < (m 17 0) → κ (some (zi (-1))) m)
    (k3 : ¬ p < 0 → p < (m 17 0) → q < 0 → κ (some (zi (-1))) m)
    (k4 : ¬ p < 0 → p < (m 17 0) → ¬ q < 0 → ¬ q < 4 → κ (some (zi (-1))) m)
    (k5 : ¬ p < 0 → p < (m 17 0) → ¬ q < 0 → q < 4 → n < 1 → κ (some (zi (-1))) m)
    (k6 : ¬ p < 0 → p < (m 17 0) → ¬ q < 0 → q < 4 → ¬ n < 1 → 60 < n → κ (some (zi (-1))) m)
    (k7 : ¬ p < 0 → p < (m 17 0) → ¬ q < 0 → q < 4 → ¬ n < 1 → ¬ 60 < n → T (D + 5) 180 (0, [(0, zr 1), (1, zi p), (2, zi q), (3, zi n)], [], m) (fun r m1 => T (D + 6) 135 (19, [(0, zr 1), (1, zi p), (2, zi q), (3, zi n)], r.toList ++ [], m1) κ)) :
    T (D + 6) 135 (0, [(0, zr 1), (1, zi p), (2, zi q), (3, zi n)], [], m) κ := by
  have hb3 : 0 ≤ (m 17 0) ∧ (m 17 0) ≤ 6 := hB 17 0
  have he0 : wr p = p := wr_id (by omega) (by omega)
  have he1 : wr (m 17 0) = (m 17 0) := wr_id (by omega) (by omega)
  have he2 : wr q = q := wr_id (by omega) (by omega)
  have he3 : wr n = n := wr_id (by omega) (by omega)
  have key := @zb135_0r T hT D κ m p q n
  simp only [he0, he1, he2, he3, Int.toNat_natCast] at key
  exact key
    k1
    k2
    k3
    k4
    k5
    k6
    k7
theorem zb135_19r (hT : zRules T) {D : Nat} {κ : Option zA → zM → Prop} {m : zM} {lo : zL} (hlo : z_keep [0] lo = [(0, zr 1)]) 
    (o1 : T (D + 5) 76 (0, [(0, zr 52)], [], m) (fun r m1 => T (D + 6) 135 (26, [(0, zr 1)], r.toList ++ [], m1) κ)) :
    T (D + 6) 135 (19, lo, [], m) κ :=
  zkeep hT hlo (hT.1 [] 6 (D + 6) 135 _ κ (o1))
theorem zb135_19 (hT : zRules T) {D : Nat} {κ : Option zA → zM → Prop} {m : zM} {lo : zL} (hlo : z_keep [0] lo = [(0, zr 1)])  (hB : zB m) 
    (k1 : T (D + 5) 76 (0, [(0, zr 52)], [], m) (fun r m1 => T (D + 6) 135 (26, [(0, zr 1)], r.toList ++ [], m1) κ)) :
    T (D + 6) 135 (19, lo, [], m) κ := by
  exact zb135_19r hT hlo
    k1
theorem zb135_26r (hT : zRules T) {D : Nat} {κ : Option zA → zM → Prop} {m : zM} {f : Nat} {lo : zL} (hlo : z_keep [0] lo = [(0, zr 1)]) 
    (o1 : T (D + 5) 77 (0, [(0, zr 52)], [], m) (fun r m1 => T (D + 6) 135 (35, [(0, zr 1), (4, zi (f : Int))], r.toList ++ [], m1) κ)) :
    T (D + 6) 135 (26, lo, [zi (f : Int)], m) κ :=
  zkeep hT hlo (hT.1 [] 6 (D + 6) 135 _ κ (o1))
theorem zb135_26 (hT : zRules T) {D : Nat} {κ : Option zA → zM → Prop} {m : zM} {f : Nat} {lo : zL} (hlo : z_keep [0] lo = [(0, zr 1)])  (hB : zB m) (h_f : f ≤ 59) 
    (k1 : T (D + 5) 77 (0, [(0, zr 52)], [], m) (fun r m1 => T (D + 6) 135 (35, [(0, zr 1), (4, zi (f : Int))], r.toList ++ [], m1) κ)) :
    T (D + 6) 135 (26, lo, [zi (f : Int)], m) κ := by
  exact zb135_26r hT hlo
    k1
theorem zb135_35r (hT : zRules T) {D : Nat} {κ : Option zA → zM → Prop} {m : zM} {f : Nat} {g : Nat} {lo : zL} (hlo : z_keep [0, 4] lo = [(0, zr 1), (4, zi (f : Int))]) 
    (o1 : (0 ≤ wr (g : Int) ∧ wr (g : Int) < 60))
    (o2 : (0 ≤ wr (f : Int) ∧ wr (f : Int) < 60))
    (o3 : κ (some (zi (wr (m 53 ((wr (f : Int)).toNat))))) (zu (zu (zu (zu m 72 1 3) 73 0 (f : Int)) 73 1 (m 53 ((wr (g : Int)).toNat))) 73 2 (g : Int))) :
    T (D + 6) 135 (35, lo, [zi (g : Int)], m) κ :=
  zkeep hT hlo (hT.1 [] 6 (D + 6) 135 _ κ (hT.1 [] 6 (D + 6) 135 (47, [(0, zr 1), (4, zi (f : Int)), (5, zi (g : Int))], [zr 52, zi (f : Int), zr 72], m) _ (And.intro (o1) (hT.1 [] 6 (D + 5) 47 _ _ (And.intro trivial (hT.1 [] 6 (D + 5) 47 (10, [(0, zr 72), (1, zi (f : Int)), (2, zi (m 53 ((wr (g : Int)).toNat))), (3, zi (g : Int))], [zi 0, zr 73], (zu m 72 1 3)) _ (And.intro (And.intro (z_ixL rfl) trivial) (hT.1 [] 6 (D + 5) 47 (18, [(0, zr 72), (1, zi (f : Int)), (2, zi (m 53 ((wr (g : Int)).toNat))), (3, zi (g : Int))], [zi (m 53 ((wr (g : Int)).toNat)), zi 1, zr 73], (zu (zu m 72 1 3) 73 0 (f : Int))) _ (And.intro (And.intro (z_ixL rfl) trivial) (And.intro (And.intro (z_ixL rfl) trivial) (hT.1 [] 6 (D + 5) 47 (26, [(0, zr 72), (1, zi (f : Int)), (2, zi (m 53 ((wr (g : Int)).toNat))), (3, zi (g : Int))], [], (zu (zu (zu (zu m 72 1 3) 73 0 (f : Int)) 73 1 (m 53 ((wr (g : Int)).toNat))) 73 2 (g : Int))) _ (hT.1 [] 6 (D + 6) 135 _ _ (And.intro (o2) (o3))))))))))))))
theorem zb135_35 (hT : zRules T) {D : Nat} {κ : Option zA → zM → Prop} {m : zM} {f : Nat} {g : Nat} {lo : zL} (hlo : z_keep [0, 4] lo = [(0, zr 1), (4, zi (f : Int))])  (hB : zB m) (h_f : f ≤ 59) (h_g : g ≤ 59) 
    (k1 : zB (zu (zu (zu (zu m 72 1 3) 73 0 (f : Int)) 73 1 (m 53 g)) 73 2 (g : Int)) → κ (some (zi (m 53 f))) (zu (zu (zu (zu m 72 1 3) 73 0 (f : Int)) 73 1 (m 53 g)) 73 2 (g : Int))) :
    T (D + 6) 135 (35, lo, [zi (g : Int)], m) κ := by
  have hb2 : 0 ≤ (m 53 g) ∧ (m 53 g) ≤ 99 := hB 53 g
  have hb3 : 0 ≤ (m 53 f) ∧ (m 53 f) ≤ 99 := hB 53 f
  have he0 : wr (g : Int) = (g : Int) := wr_id (by omega) (by omega)
  have he1 : (g : Int).toNat = g := by omega
  have he2 : wr (f : Int) = (f : Int) := wr_id (by omega) (by omega)
  have he3 : (f : Int).toNat = f := by omega
  have he4 : wr (m 53 f) = (m 53 f) := wr_id (by omega) (by omega)
  have key := @zb135_35r T hT D κ m f g lo hlo
  simp only [he0, he1, he2, he3, he4, Int.toNat_natCast] at key
  exact key
    (by refine ⟨?_, ?_⟩ <;> omega)
    (by refine ⟨?_, ?_⟩ <;> omega)
    (k1  (zB_u (zB_u (zB_u (zB_u hB (show 0 ≤ 3 ∧ 3 ≤ 26 from ⟨by omega, by omega⟩)) trivial) trivial) trivial))
theorem zb250_0r (hT : zRules T) {D : Nat} {κ : Option zA → zM → Prop} {m : zM} {p : Int} {q : Int} {n : Int} 
    (o1 : wr p < 0 → κ (some (zi (-1))) (zu m 74 12 0))
    (o2 : ¬ wr p < 0 → wr ((m 74 4) - 1) < wr p → κ (some (zi (-1))) (zu m 74 12 0))
    (o3 : ¬ wr p < 0 → ¬ wr ((m 74 4) - 1) < wr p → wr q < 0 → κ (some (zi (-1))) (zu m 74 12 0))
    (o4 : ¬ wr p < 0 → ¬ wr ((m 74 4) - 1) < wr p → ¬ wr q < 0 → 3 < wr q → κ (some (zi (-1))) (zu m 74 12 0))
    (o5 : ¬ wr p < 0 → ¬ wr ((m 74 4) - 1) < wr p → ¬ wr q < 0 → ¬ 3 < wr q → wr n < 1 → κ (some (zi (-1))) (zu m 74 12 0))
    (o6 : ¬ wr p < 0 → ¬ wr ((m 74 4) - 1) < wr p → ¬ wr q < 0 → ¬ 3 < wr q → ¬ wr n < 1 → 60 < wr n → κ (some (zi (-1))) (zu m 74 12 0))
    (o7 : ¬ wr p < 0 → ¬ wr ((m 74 4) - 1) < wr p → ¬ wr q < 0 → ¬ 3 < wr q → ¬ wr n < 1 → ¬ 60 < wr n → T (D + 4) 250 (46, [(0, zr 74), (1, zi p), (2, zi q), (3, zi n), (4, zi (-1)), (5, zi 0), (6, zi 100000000), (7, zi 0), (8, zi 0)], [], (zu m 74 12 0)) κ) :
    T (D + 4) 250 (0, [(0, zr 74), (1, zi p), (2, zi q), (3, zi n)], [], m) κ :=
  hT.1 [(46, [0, 1, 2, 3, 4, 5, 6, 7, 8])] 6 (D + 4) 250 _ κ (And.intro trivial (hT.1 [] 6 (D + 3) 190 _ _ (hT.1 [] 6 (D + 3) 190 (8, [(0, zr 74), (1, zi p)], [zi ((m 74 4) - 1), zi 0, zi p], (zu m 74 12 0)) _ (hT.1 [] 6 (D + 2) 186 _ _ (And.intro (fun a1 => (And.intro (z_b01L rfl) (hT.1 [] 6 (D + 3) 190 _ _ (And.intro (z_b01L rfl) (hT.1 [(46, [0, 1, 2, 3, 4, 5, 6, 7, 8])] 6 (D + 4) 250 _ _ (And.intro (fun _ => (o1 a1)) (fun a3 => (a3 (z_litT rfl)).elim))))))) (fun a2 => (And.intro (fun a4 => (hT.1 [] 6 (D + 2) 186 (14, [(0, zi p), (1, zi 0), (2, zi ((m 74 4) - 1))], [], (zu m 74 12 0)) _ (And.intro (z_b01L rfl) (hT.1 [] 6 (D + 3) 190 _ _ (And.intro (z_b01L rfl) (hT.1 [(46, [0, 1, 2, 3, 4, 5, 6, 7, 8])] 6 (D + 4) 250 _ _ (And.intro (fun _ => (o2 a2 a4)) (fun a6 => (a6 (z_litT rfl)).elim)))))))) (fun a5 => (hT.1 [] 6 (D + 2) 186 (10, [(0, zi p), (1, zi 0), (2, zi ((m 74 4) - 1))], [], (zu m 74 12 0)) _ (And.intro (z_b01L rfl) (hT.1 [] 6 (D + 3) 190 _ _ (And.intro (z_b01L rfl) (hT.1 [(46, [0, 1, 2, 3, 4, 5, 6, 7, 8])] 6 (D + 4) 250 _ _ (And.intro (fun a7 => (z_litF a7 rfl).elim) (fun _ => (hT.1 [] 6 (D + 3) 192 _ _ (hT.1 [] 6 (D + 2) 186 _ _ (And.intro (fun a8 => (And.intro (z_b01L rfl) (hT.1 [] 6 (D + 3) 192 _ _ (And.intro (z_b01L rfl) (hT.1 [(46, [0, 1, 2, 3, 4, 5, 6, 7, 8])] 6 (D + 4) 250 _ _ (And.intro (fun _ => (o3 a2 a5 a8)) (fun a10 => (a10 (z_litT rfl)).elim))))))) (fun a9 => (And.intro (fun a11 => (hT.1 [] 6 (D + 2) 186 (14, [(0, zi q), (1, zi 0), (2, zi 3)], [], (zu m 74 12 0)) _ (And.intro (z_b01L rfl) (hT.1 [] 6 (D + 3) 192 _ _ (And.intro (z_b01L rfl) (hT.1 [(46, [0, 1, 2, 3, 4, 5, 6, 7, 8])] 6 (D + 4) 250 _ _ (And.intro (fun _ => (o4 a2 a5 a9 a11)) (fun a13 => (a13 (z_litT rfl)).elim)))))))) (fun a12 => (hT.1 [] 6 (D + 2) 186 (10, [(0, zi q), (1, zi 0), (2, zi 3)], [], (zu m 74 12 0)) _ (And.intro (z_b01L rfl) (hT.1 [] 6 (D + 3) 192 _ _ (And.intro (z_b01L rfl) (hT.1 [(46, [0, 1, 2, 3, 4, 5, 6, 7, 8])] 6 (D + 4) 250 _ _ (And.intro (fun a14 => (z_litF a14 rfl).elim) (fun _ => (hT.1 [] 6 (D + 3) 194 _ _ (hT.1 [] 6 (D + 2) 186 _ _ (And.intro (fun a15 => (And.intro (z_b01L rfl) (hT.1 [] 6 (D + 3) 194 _ _ (And.intro (z_b01L rfl) (hT.1 [(46, [0, 1, 2, 3, 4, 5, 6, 7, 8])] 6 (D + 4) 250 _ _ (And.intro (fun a17 => (z_litF a17 rfl).elim) (fun _ => (o5 a2 a5 a9 a12 a15)))))))) (fun a16 => (And.intro (fun a18 => (hT.1 [] 6 (D + 2) 186 (14, [(0, zi n), (1, zi 1), (2, zi 60)], [], (zu m 74 12 0)) _ (And.intro (z_b01L rfl) (hT.1 [] 6 (D + 3) 194 _ _ (And.intro (z_b01L rfl) (hT.1 [(46, [0, 1, 2, 3, 4, 5, 6, 7, 8])] 6 (D + 4) 250 _ _ (And.intro (fun a20 => (z_litF a20 rfl).elim) (fun _ => (o6 a2 a5 a9 a12 a16 a18))))))))) (fun a19 => (hT.1 [] 6 (D + 2) 186 (10, [(0, zi n), (1, zi 1), (2, zi 60)], [], (zu m 74 12 0)) _ (And.intro (z_b01L rfl) (hT.1 [] 6 (D + 3) 194 _ _ (And.intro (z_b01L rfl) (hT.1 [(46, [0, 1, 2, 3, 4, 5, 6, 7, 8])] 6 (D + 4) 250 _ _ (And.intro (fun _ => (hT.1 [(46, [0, 1, 2, 3, 4, 5, 6, 7, 8])] 6 (D + 4) 250 (38, [(0, zr 74), (1, zi p), (2, zi q), (3, zi n), (4, zi (-1)), (5, zi 0)], [zi 100000000], (zu m 74 12 0)) _ (o7 a2 a5 a9 a12 a16 a19))) (fun a21 => (a21 (z_litT rfl)).elim)))))))))))))))))))))))))))))))))))))))))
theorem zb250_0 (hT : zRules T) {D : Nat} {κ : Option zA → zM → Prop} {m : zM} {p : Int} {q : Int} {n : Int}  (hB : zB m) (h_p : (-2147483648) ≤ p ∧ p ≤ 2147483647) (h_q : (-2147483648) ≤ q ∧ q ≤ 2147483647) (h_n : (-2147483648) ≤ n ∧ n ≤ 2147483647) 
    (k1 : p < 0 → zB (zu m 74 12 0) → κ (some (zi (-1))) (zu m 74 12 0))
    (k2 : ¬ p < 0 → ((m 74 4) - 1) < p → zB (zu m 74 12 0) → κ (some (zi (-1))) (zu m 74 12 0))
    (k3 : ¬ p < 0 → ¬ ((m 74 4) - 1) < p → q < 0 → zB (zu m 74 12 0) → κ (some (zi (-1))) (zu m 74 12 0))
    (k4 : ¬ p < 0 → ¬ ((m 74 4) - 1) < p → ¬ q < 0 → 3 < q → zB (zu m 74 12 0) → κ (some (zi (-1))) (zu m 74 12 0))
    (k5 : ¬ p < 0 → ¬ ((m 74 4) - 1) < p → ¬ q < 0 → ¬ 3 < q → n < 1 → zB (zu m 74 12 0) → κ (some (zi (-1))) (zu m 74 12 0))
    (k6 : ¬ p < 0 → ¬ ((m 74 4) - 1) < p → ¬ q < 0 → ¬ 3 < q → ¬ n < 1 → 60 < n → zB (zu m 74 12 0) → κ (some (zi (-1))) (zu m 74 12 0))
    (k7 : ¬ p < 0 → ¬ ((m 74 4) - 1) < p → ¬ q < 0 → ¬ 3 < q → ¬ n < 1 → ¬ 60 < n → zB (zu m 74 12 0) → T (D + 4) 250 (46, [(0, zr 74), (1, zi p), (2, zi q), (3, zi n), (4, zi (-1)), (5, zi 0), (6, zi 100000000), (7, zi 0), (8, zi 0)], [], (zu m 74 12 0)) κ) :
    T (D + 4) 250 (0, [(0, zr 74), (1, zi p), (2, zi q), (3, zi n)], [], m) κ := by
  have hb3 : 0 ≤ (m 74 4) ∧ (m 74 4) ≤ 6 := hB 74 4
  have he0 : wr p = p := wr_id (by omega) (by omega)
  have he1 : wr ((m 74 4) - 1) = ((m 74 4) - 1) := wr_id (by omega) (by omega)
  have he2 : wr q = q := wr_id (by omega) (by omega)
  have he3 : wr n = n := wr_id (by omega) (by omega)
  have key := @zb250_0r T hT D κ m p q n
  simp only [he0, he1, he2, he3, Int.toNat_natCast] at key
  exact key
    (fun x0 => k1 x0 (zB_u hB trivial))
    (fun x0 x1 => k2 x0 x1 (zB_u hB trivial))
    (fun x0 x1 x2 => k3 x0 x1 x2 (zB_u hB trivial))
    (fun x0 x1 x2 x3 => k4 x0 x1 x2 x3 (zB_u hB trivial))
    (fun x0 x1 x2 x3 x4 => k5 x0 x1 x2 x3 x4 (zB_u hB trivial))
    (fun x0 x1 x2 x3 x4 x5 => k6 x0 x1 x2 x3 x4 x5 (zB_u hB trivial))
    (fun x0 x1 x2 x3 x4 x5 => k7 x0 x1 x2 x3 x4 x5 (zB_u hB trivial))
theorem zb250_46r (hT : zRules T) {D : Nat} {κ : Option zA → zM → Prop} {m : zM} {p : Nat} {q : Nat} {n : Nat} {k : Nat} {a : Int} {b : Nat} {c : Int} {d : Nat} {lo : zL} (hlo : z_keep [0, 1, 2, 3, 4, 5, 6, 7, 8] lo = [(0, zr 74), (1, zi (p : Int)), (2, zi (q : Int)), (3, zi (n : Int)), (4, zi a), (5, zi (b : Int)), (6, zi c), (7, zi (d : Int)), (8, zi (k : Int))]) 
    (o1 : ¬ wr (k : Int) < wr (n : Int) → κ (some (zi (wr a))) (zu (zu (zu (zu (zu (zu (zu m 74 11 0) 81 0 (b : Int)) 74 11 1) 81 1 c) 74 11 2) 81 2 (d : Int)) 74 11 3))
    (o2 : wr (k : Int) < wr (n : Int) → T (D + 3) 215 (0, [(0, zr 74), (1, zi (p : Int)), (2, zi (q : Int)), (3, zi ((m 75 57) + (k : Int)))], [], m) (fun r m1 => T (D + 4) 250 (68, [(0, zr 74), (1, zi (p : Int)), (2, zi (q : Int)), (3, zi (n : Int)), (4, zi a), (5, zi (b : Int)), (6, zi c), (7, zi (d : Int)), (8, zi (k : Int))], r.toList ++ [], m1) κ)) :
    T (D + 4) 250 (46, lo, [], m) κ :=
  zkeep hT hlo (hT.1 [(46, [0, 1, 2, 3, 4, 5, 6, 7, 8])] 6 (D + 4) 250 _ κ (And.intro (fun a1 => (And.intro trivial (hT.1 [(46, [0, 1, 2, 3, 4, 5, 6, 7, 8])] 6 (D + 4) 250 (111, [(0, zr 74), (1, zi (p : Int)), (2, zi (q : Int)), (3, zi (n : Int)), (4, zi a), (5, zi (b : Int)), (6, zi c), (7, zi (d : Int)), (8, zi (k : Int))], [], (zu m 74 11 0)) _ (hT.1 [] 6 (D + 3) 189 _ _ (And.intro (And.intro (z_ixL rfl) trivial) (hT.1 [] 6 (D + 3) 189 (10, [(0, zr 74), (1, zi (b : Int))], [], (zu (zu m 74 11 0) 81 0 (b : Int))) _ (And.intro trivial (hT.1 [] 6 (D + 3) 189 (20, [(0, zr 74), (1, zi (b : Int))], [], (zu (zu (zu m 74 11 0) 81 0 (b : Int)) 74 11 1)) _ (hT.1 [(46, [0, 1, 2, 3, 4, 5, 6, 7, 8])] 6 (D + 4) 250 _ _ (hT.1 [] 6 (D + 3) 189 _ _ (And.intro (And.intro (z_ixL rfl) trivial) (hT.1 [] 6 (D + 3) 189 (10, [(0, zr 74), (1, zi c)], [], (zu (zu (zu (zu m 74 11 0) 81 0 (b : Int)) 74 11 1) 81 1 c)) _ (And.intro trivial (hT.1 [] 6 (D + 3) 189 (20, [(0, zr 74), (1, zi c)], [], (zu (zu (zu (zu (zu m 74 11 0) 81 0 (b : Int)) 74 11 1) 81 1 c) 74 11 2)) _ (hT.1 [(46, [0, 1, 2, 3, 4, 5, 6, 7, 8])] 6 (D + 4) 250 _ _ (hT.1 [] 6 (D + 3) 189 _ _ (And.intro (And.intro (z_ixL rfl) trivial) (hT.1 [] 6 (D + 3) 189 (10, [(0, zr 74), (1, zi (d : Int))], [], (zu (zu (zu (zu (zu (zu m 74 11 0) 81 0 (b : Int)) 74 11 1) 81 1 c) 74 11 2) 81 2 (d : Int))) _ (And.intro trivial (hT.1 [] 6 (D + 3) 189 (20, [(0, zr 74), (1, zi (d : Int))], [], (zu (zu (zu (zu (zu (zu (zu m 74 11 0) 81 0 (b : Int)) 74 11 1) 81 1 c) 74 11 2) 81 2 (d : Int)) 74 11 3)) _ (hT.1 [(46, [0, 1, 2, 3, 4, 5, 6, 7, 8])] 6 (D + 4) 250 _ _ (o1 a1)))))))))))))))))))))) (fun a2 => (hT.1 [(46, [0, 1, 2, 3, 4, 5, 6, 7, 8])] 6 (D + 4) 250 (55, [(0, zr 74), (1, zi (p : Int)), (2, zi (q : Int)), (3, zi (n : Int)), (4, zi a), (5, zi (b : Int)), (6, zi c), (7, zi (d : Int)), (8, zi (k : Int))], [zi (q : Int), zi (p : Int), zr 74], m) _ (And.intro (z_ixL rfl) (hT.1 [(46, [0, 1, 2, 3, 4, 5, 6, 7, 8])] 6 (D + 4) 250 (65, [(0, zr 74), (1, zi (p : Int)), (2, zi (q : Int)), (3, zi (n : Int)), (4, zi a), (5, zi (b : Int)), (6, zi c), (7, zi (d : Int)), (8, zi (k : Int))], [zi ((m 75 57) + (k : Int)), zi (q : Int), zi (p : Int), zr 74], m) _ (o2 (Classical.byContradiction a2))))))))
theorem zb250_46 (hT : zRules T) {D : Nat} {κ : Option zA → zM → Prop} {m : zM} {p : Nat} {q : Nat} {n : Nat} {k : Nat} {a : Int} {b : Nat} {c : Int} {d : Nat} {lo : zL} (hlo : z_keep [0, 1, 2, 3, 4, 5, 6, 7, 8] lo = [(0, zr 74), (1, zi (p : Int)), (2, zi (q : Int)), (3, zi (n : Int)), (4, zi a), (5, zi (b : Int)), (6, zi c), (7, zi (d : Int)), (8, zi (k : Int))])  (hB : zB m) (h_p : p ≤ 5) (h_q : q ≤ 3) (h_n : n ≤ 60) (h_k : k ≤ 60) (h_a : (-1) ≤ a ∧ a ≤ 99) (h_b : b ≤ 60) (h_c : 0 ≤ c ∧ c ≤ 100000000) (h_d : d ≤ 60) 
    (k1 : ¬ (k : Int) < (n : Int) → zB (zu (zu (zu (zu (zu (zu (zu m 74 11 0) 81 0 (b : Int)) 74 11 1) 81 1 c) 74 11 2) 81 2 (d : Int)) 74 11 3) → κ (some (zi a)) (zu (zu (zu (zu (zu (zu (zu m 74 11 0) 81 0 (b : Int)) 74 11 1) 81 1 c) 74 11 2) 81 2 (d : Int)) 74 11 3))
    (k2 : (k : Int) < (n : Int) → T (D + 3) 215 (0, [(0, zr 74), (1, zi (p : Int)), (2, zi (q : Int)), (3, zi ((m 75 57) + (k : Int)))], [], m) (fun r m1 => T (D + 4) 250 (68, [(0, zr 74), (1, zi (p : Int)), (2, zi (q : Int)), (3, zi (n : Int)), (4, zi a), (5, zi (b : Int)), (6, zi c), (7, zi (d : Int)), (8, zi (k : Int))], r.toList ++ [], m1) κ)) :
    T (D + 4) 250 (46, lo, [], m) κ := by
  have hb8 : 0 ≤ (m 75 57) ∧ (m 75 57) ≤ 400000 := hB 75 57
  have he0 : wr (k : Int) = (k : Int) := wr_id (by omega) (by omega)
  have he1 : wr (n : Int) = (n : Int) := wr_id (by omega) (by omega)
  have he2 : wr a = a := wr_id (by omega) (by omega)
  have key := @zb250_46r T hT D κ m p q n k a b c d lo hlo
  simp only [he0, he1, he2, Int.toNat_natCast] at key
  exact key
    (fun x0 => k1 x0 (zB_u (zB_u (zB_u (zB_u (zB_u (zB_u (zB_u hB (show 0 ≤ 0 ∧ 0 ≤ 32 from ⟨by omega, by omega⟩)) trivial) (show 0 ≤ 1 ∧ 1 ≤ 32 from ⟨by omega, by omega⟩)) trivial) (show 0 ≤ 2 ∧ 2 ≤ 32 from ⟨by omega, by omega⟩)) trivial) (show 0 ≤ 3 ∧ 3 ≤ 32 from ⟨by omega, by omega⟩)))
    k2
theorem zb250_68r (hT : zRules T) {D : Nat} {κ : Option zA → zM → Prop} {m : zM} {p : Nat} {q : Nat} {n : Nat} {k : Nat} {a : Int} {b : Nat} {c : Int} {d : Nat} {v : Int} {lo : zL} (hlo : z_keep [0, 1, 2, 3, 4, 5, 6, 7, 8] lo = [(0, zr 74), (1, zi (p : Int)), (2, zi (q : Int)), (3, zi (n : Int)), (4, zi a), (5, zi (b : Int)), (6, zi c), (7, zi (d : Int)), (8, zi (k : Int))]) 
    (o1 : ¬ wr a < wr v → ¬ wr v < wr c → T (D + 4) 250 (46, [(0, zr 74), (1, zi (p : Int)), (2, zi (q : Int)), (3, zi (n : Int)), (4, zi a), (5, zi (b : Int)), (6, zi c), (7, zi (d : Int)), (8, zi ((k : Int) + 1))], [], m) κ)
    (o2 : ¬ wr a < wr v → wr v < wr c → T (D + 4) 250 (46, [(0, zr 74), (1, zi (p : Int)), (2, zi (q : Int)), (3, zi (n : Int)), (4, zi a), (5, zi (b : Int)), (6, zi v), (7, zi (k : Int)), (8, zi ((k : Int) + 1))], [], m) κ)
    (o3 : wr a < wr v → ¬ wr v < wr c → T (D + 4) 250 (46, [(0, zr 74), (1, zi (p : Int)), (2, zi (q : Int)), (3, zi (n : Int)), (4, zi v), (5, zi (k : Int)), (6, zi c), (7, zi (d : Int)), (8, zi ((k : Int) + 1))], [], m) κ)
    (o4 : wr a < wr v → wr v < wr c → T (D + 4) 250 (46, [(0, zr 74), (1, zi (p : Int)), (2, zi (q : Int)), (3, zi (n : Int)), (4, zi v), (5, zi (k : Int)), (6, zi v), (7, zi (k : Int)), (8, zi ((k : Int) + 1))], [], m) κ) :
    T (D + 4) 250 (68, lo, [zi v], m) κ :=
  zkeep hT hlo (hT.1 [(46, [0, 1, 2, 3, 4, 5, 6, 7, 8])] 6 (D + 4) 250 _ κ (And.intro (fun a1 => (hT.1 [(46, [0, 1, 2, 3, 4, 5, 6, 7, 8])] 6 (D + 4) 250 (89, [(0, zr 74), (1, zi (p : Int)), (2, zi (q : Int)), (3, zi (n : Int)), (4, zi a), (5, zi (b : Int)), (6, zi c), (7, zi (d : Int)), (8, zi (k : Int)), (9, zi v)], [zi c, zi v], m) _ (And.intro (fun a3 => (o1 a1 a3)) (fun a4 => (hT.1 [(46, [0, 1, 2, 3, 4, 5, 6, 7, 8])] 6 (D + 4) 250 (103, [(0, zr 74), (1, zi (p : Int)), (2, zi (q : Int)), (3, zi (n : Int)), (4, zi a), (5, zi (b : Int)), (6, zi v), (7, zi (k : Int)), (8, zi ((k : Int) + 1)), (9, zi v)], [], m) _ (o2 a1 (Classical.byContradiction a4))))))) (fun a2 => (hT.1 [(46, [0, 1, 2, 3, 4, 5, 6, 7, 8])] 6 (D + 4) 250 (81, [(0, zr 74), (1, zi (p : Int)), (2, zi (q : Int)), (3, zi (n : Int)), (4, zi v), (5, zi (b : Int)), (6, zi c), (7, zi (d : Int)), (8, zi (k : Int)), (9, zi v)], [], m) _ (And.intro (fun a5 => (hT.1 [(46, [0, 1, 2, 3, 4, 5, 6, 7, 8])] 6 (D + 4) 250 (103, [(0, zr 74), (1, zi (p : Int)), (2, zi (q : Int)), (3, zi (n : Int)), (4, zi v), (5, zi (k : Int)), (6, zi c), (7, zi (d : Int)), (8, zi ((k : Int) + 1)), (9, zi v)], [], m) _ (o3 (Classical.byContradiction a2) a5))) (fun a6 => (hT.1 [(46, [0, 1, 2, 3, 4, 5, 6, 7, 8])] 6 (D + 4) 250 (94, [(0, zr 74), (1, zi (p : Int)), (2, zi (q : Int)), (3, zi (n : Int)), (4, zi v), (5, zi (k : Int)), (6, zi c), (7, zi (d : Int)), (8, zi (k : Int)), (9, zi v)], [zi v], m) _ (o4 (Classical.byContradiction a2) (Classical.byContradiction a6)))))))))
theorem zb250_68 (hT : zRules T) {D : Nat} {κ : Option zA → zM → Prop} {m : zM} {p : Nat} {q : Nat} {n : Nat} {k : Nat} {a : Int} {b : Nat} {c : Int} {d : Nat} {v : Int} {lo : zL} (hlo : z_keep [0, 1, 2, 3, 4, 5, 6, 7, 8] lo = [(0, zr 74), (1, zi (p : Int)), (2, zi (q : Int)), (3, zi (n : Int)), (4, zi a), (5, zi (b : Int)), (6, zi c), (7, zi (d : Int)), (8, zi (k : Int))])  (hB : zB m) (h_p : p ≤ 5) (h_q : q ≤ 3) (h_n : n ≤ 60) (h_k : k ≤ 60) (h_a : (-1) ≤ a ∧ a ≤ 99) (h_b : b ≤ 60) (h_c : 0 ≤ c ∧ c ≤ 100000000) (h_d : d ≤ 60) (h_v : 0 ≤ v ∧ v ≤ 99) 
    (k1 : ¬ a < v → ¬ v < c → T (D + 4) 250 (46, [(0, zr 74), (1, zi (p : Int)), (2, zi (q : Int)), (3, zi (n : Int)), (4, zi a), (5, zi (b : Int)), (6, zi c), (7, zi (d : Int)), (8, zi ((k : Int) + 1))], [], m) κ)
    (k2 : ¬ a < v → v < c → T (D + 4) 250 (46, [(0, zr 74), (1, zi (p : Int)), (2, zi (q : Int)), (3, zi (n : Int)), (4, zi a), (5, zi (b : Int)), (6, zi v), (7, zi (k : Int)), (8, zi ((k : Int) + 1))], [], m) κ)
    (k3 : a < v → ¬ v < c → T (D + 4) 250 (46, [(0, zr 74), (1, zi (p : Int)), (2, zi (q : Int)), (3, zi (n : Int)), (4, zi v), (5, zi (k : Int)), (6, zi c), (7, zi (d : Int)), (8, zi ((k : Int) + 1))], [], m) κ)
    (k4 : a < v → v < c → T (D + 4) 250 (46, [(0, zr 74), (1, zi (p : Int)), (2, zi (q : Int)), (3, zi (n : Int)), (4, zi v), (5, zi (k : Int)), (6, zi v), (7, zi (k : Int)), (8, zi ((k : Int) + 1))], [], m) κ) :
    T (D + 4) 250 (68, lo, [zi v], m) κ := by
  have he0 : wr a = a := wr_id (by omega) (by omega)
  have he1 : wr v = v := wr_id (by omega) (by omega)
  have he2 : wr c = c := wr_id (by omega) (by omega)
  have key := @zb250_68r T hT D κ m p q n k a b c d v lo hlo
  simp only [he0, he1, he2, Int.toNat_natCast] at key
  exact key
    k1
    k2
    k3
    k4
theorem zb136_0r (hT : zRules T) {D : Nat} {κ : Option zA → zM → Prop} {m : zM} {p : Int} {q : Int} {n : Int} 
    (o1 : wr p < 0 → κ (some (zi (-1))) m)
    (o2 : ¬ wr p < 0 → ¬ wr p < wr (m 17 0) → κ (some (zi (-1))) m)
    (o3 : ¬ wr p < 0 → wr p < wr (m 17 0) → wr q < 0 → κ (some (zi (-1))) m)
    (o4 : ¬ wr p < 0 → wr p < wr (m 17 0) → ¬ wr q < 0 → ¬ wr q < 4 → κ (some (zi (-1))) m)
    (o5 : ¬ wr p < 0 → wr p < wr (m 17 0) → ¬ wr q < 0 → wr q < 4 → wr n < 1 → κ (some (zi (-1))) m)
    (o6 : ¬ wr p < 0 → wr p < wr (m 17 0) → ¬ wr q < 0 → wr q < 4 → ¬ wr n < 1 → 60 < wr n → κ (some (zi (-1))) m)
    (o7 : ¬ wr p < 0 → wr p < wr (m 17 0) → ¬ wr q < 0 → wr q < 4 → ¬ wr n < 1 → ¬ 60 < wr n → T (D + 5) 180 (0, [(0, zr 1), (1, zi p), (2, zi q), (3, zi n)], [], m) (fun r m1 => T (D + 6) 136 (19, [(0, zr 1), (1, zi p), (2, zi q), (3, zi n)], r.toList ++ [], m1) κ)) :
    T (D + 6) 136 (0, [(0, zr 1), (1, zi p), (2, zi q), (3, zi n)], [], m) κ :=
  hT.1 [] 6 (D + 6) 136 _ κ (hT.1 [] 6 (D + 5) 179 _ _ (hT.1 [] 6 (D + 4) 25 _ _ (And.intro (fun a1 => (And.intro (z_b01L rfl) (hT.1 [] 6 (D + 5) 179 _ _ (And.intro (fun _ => (And.intro (z_b01L rfl) (hT.1 [] 6 (D + 6) 136 _ _ (And.intro (fun a4 => (z_litF a4 rfl).elim) (fun _ => (o1 a1)))))) (fun a3 => (a3 (z_litT rfl)).elim))))) (fun a2 => (And.intro (fun a5 => (hT.1 [] 6 (D + 4) 25 (16, [(0, zr 17), (1, zi p)], [], m) _ (And.intro (z_b01L rfl) (hT.1 [] 6 (D + 5) 179 _ _ (And.intro (fun _ => (And.intro (z_b01L rfl) (hT.1 [] 6 (D + 6) 136 _ _ (And.intro (fun a8 => (z_litF a8 rfl).elim) (fun _ => (o2 a2 a5)))))) (fun a7 => (a7 (z_litT rfl)).elim)))))) (fun a6 => (hT.1 [] 6 (D + 4) 25 (12, [(0, zr 17), (1, zi p)], [], m) _ (And.intro (z_b01L rfl) (hT.1 [] 6 (D + 5) 179 _ _ (And.intro (fun a9 => (z_litF a9 rfl).elim) (fun _ => (hT.1 [] 6 (D + 4) 163 _ _ (And.intro (fun a10 => (And.intro (z_b01L rfl) (hT.1 [] 6 (D + 5) 179 _ _ (And.intro (fun _ => (And.intro (z_b01L rfl) (hT.1 [] 6 (D + 6) 136 _ _ (And.intro (fun a13 => (z_litF a13 rfl).elim) (fun _ => (o3 a2 (Classical.byContradiction a6) a10)))))) (fun a12 => (a12 (z_litT rfl)).elim))))) (fun a11 => (And.intro (fun a14 => (hT.1 [] 6 (D + 4) 163 (14, [(0, zi q)], [zi 0], m) _ (And.intro (z_b01L rfl) (hT.1 [] 6 (D + 5) 179 _ _ (And.intro (fun _ => (And.intro (z_b01L rfl) (hT.1 [] 6 (D + 6) 136 _ _ (And.intro (fun a17 => (z_litF a17 rfl).elim) (fun _ => (o4 a2 (Classical.byContradiction a6) a11 a14)))))) (fun a16 => (a16 (z_litT rfl)).elim)))))) (fun a15 => (hT.1 [] 6 (D + 4) 163 (10, [(0, zi q)], [zi 1], m) _ (And.intro (z_b01L rfl) (hT.1 [] 6 (D + 5) 179 _ _ (And.intro (fun a18 => (z_litF a18 rfl).elim) (fun _ => (And.intro (fun a19 => (And.intro (z_b01L rfl) (hT.1 [] 6 (D + 6) 136 _ _ (And.intro (fun a21 => (z_litF a21 rfl).elim) (fun _ => (o5 a2 (Classical.byContradiction a6) a11 (Classical.byContradiction a15) a19)))))) (fun a20 => (hT.1 [] 6 (D + 5) 179 (26, [(0, zr 1), (1, zi p), (2, zi q), (3, zi n)], [zi 60, zi n], m) _ (And.intro (fun a22 => (And.intro (z_b01L rfl) (hT.1 [] 6 (D + 6) 136 _ _ (And.intro (fun a24 => (z_litF a24 rfl).elim) (fun _ => (o6 a2 (Classical.byContradiction a6) a11 (Classical.byContradiction a15) a20 a22)))))) (fun a23 => (And.intro (z_b01L rfl) (hT.1 [] 6 (D + 6) 136 _ _ (And.intro (fun _ => (o7 a2 (Classical.byContradiction a6) a11 (Classical.byContradiction a15) a20 a23)) (fun a25 => (a25 (z_litT rfl)).elim))))))))))))))))))))))))))))))
theorem zb136_0 (hT : zRules T) {D : Nat} {κ : Option zA → zM → Prop} {m : zM} {p : Int} {q : Int} {n : Int}  (hB : zB m) (h_p : (-2147483648) ≤ p ∧ p ≤ 2147483647) (h_q : (-2147483648) ≤ q ∧ q ≤ 2147483647) (h_n : (-2147483648) ≤ n ∧ n ≤ 2147483647) 
    (k1 : p < 0 → κ (some (zi (-1))) m)
    (k2 : ¬ p < 0 → ¬ p < (m 17 0) → κ (some (zi (-1))) m)
    (k3 : ¬ p < 0 → p < (m 17 0) → q < 0 → κ (some (zi (-1))) m)
    (k4 : ¬ p < 0 → p < (m 17 0) → ¬ q < 0 → ¬ q < 4 → κ (some (zi (-1))) m)
    (k5 : ¬ p < 0 → p < (m 17 0) → ¬ q < 0 → q < 4 → n < 1 → κ (some (zi (-1))) m)
    (k6 : ¬ p < 0 → p < (m 17 0) → ¬ q < 0 → q < 4 → ¬ n < 1 → 60 < n → κ (some (zi (-1))) m)
    (k7 : ¬ p < 0 → p < (m 17 0) → ¬ q < 0 → q < 4 → ¬ n < 1 → ¬ 60 < n → T (D + 5) 180 (0, [(0, zr 1), (1, zi p), (2, zi q), (3, zi n)], [], m) (fun r m1 => T (D + 6) 136 (19, [(0, zr 1), (1, zi p), (2, zi q), (3, zi n)], r.toList ++ [], m1) κ)) :
    T (D + 6) 136 (0, [(0, zr 1), (1, zi p), (2, zi q), (3, zi n)], [], m) κ := by
  have hb3 : 0 ≤ (m 17 0) ∧ (m 17 0) ≤ 6 := hB 17 0
  have he0 : wr p = p := wr_id (by omega) (by omega)
  have he1 : wr (m 17 0) = (m 17 0) := wr_id (by omega) (by omega)
  have he2 : wr q = q := wr_id (by omega) (by omega)
  have he3 : wr n = n := wr_id (by omega) (by omega)
  have key := @zb136_0r T hT D κ m p q n
  simp only [he0, he1, he2, he3, Int.toNat_natCast] at key
  exact key
    k1
    k2
    k3
    k4
    k5
    k6
    k7
theorem zb136_19r (hT : zRules T) {D : Nat} {κ : Option zA → zM → Prop} {m : zM} {lo : zL} (hlo : z_keep [0] lo = [(0, zr 1)]) 
    (o1 : T (D + 5) 78 (0, [(0, zr 52), (1, zi 0)], [], m) (fun r m1 => T (D + 6) 136 (27, [(0, zr 1)], r.toList ++ [], m1) κ)) :
    T (D + 6) 136 (19, lo, [], m) κ :=
  zkeep hT hlo (hT.1 [] 6 (D + 6) 136 _ κ (o1))
theorem zb136_19 (hT : zRules T) {D : Nat} {κ : Option zA → zM → Prop} {m : zM} {lo : zL} (hlo : z_keep [0] lo = [(0, zr 1)])  (hB : zB m) 
    (k1 : T (D + 5) 78 (0, [(0, zr 52), (1, zi 0)], [], m) (fun r m1 => T (D + 6) 136 (27, [(0, zr 1)], r.toList ++ [], m1) κ)) :
    T (D + 6) 136 (19, lo, [], m) κ := by
  exact zb136_19r hT hlo
    k1
theorem zb136_27r (hT : zRules T) {D : Nat} {κ : Option zA → zM → Prop} {m : zM} {lo : zL} (hlo : z_keep [0] lo = [(0, zr 1)]) 
    (o1 : T (D + 5) 79 (0, [(0, zr 52)], [], m) (fun r m1 => T (D + 6) 136 (34, [(0, zr 1)], r.toList ++ [], m1) κ)) :
    T (D + 6) 136 (27, lo, [], m) κ :=
  zkeep hT hlo (hT.1 [] 6 (D + 6) 136 _ κ (o1))
theorem zb136_27 (hT : zRules T) {D : Nat} {κ : Option zA → zM → Prop} {m : zM} {lo : zL} (hlo : z_keep [0] lo = [(0, zr 1)])  (hB : zB m) 
    (k1 : T (D + 5) 79 (0, [(0, zr 52)], [], m) (fun r m1 => T (D + 6) 136 (34, [(0, zr 1)], r.toList ++ [], m1) κ)) :
    T (D + 6) 136 (27, lo, [], m) κ := by
  exact zb136_27r hT hlo
    k1
theorem zb136_34r (hT : zRules T) {D : Nat} {κ : Option zA → zM → Prop} {m : zM} {f : Nat} {lo : zL} (hlo : z_keep [0] lo = [(0, zr 1)]) 
    (o1 : (0 ≤ wr (f : Int) ∧ wr (f : Int) < 109))
    (o2 : T (D + 5) 80 (0, [(0, zr 52)], [], (zu (zu (zu m 72 1 2) 73 0 (f : Int)) 73 1 (m 54 ((wr (f : Int)).toNat)))) (fun r m1 => T (D + 6) 136 (62, [(0, zr 1), (4, zi (f : Int))], r.toList ++ [], m1) κ)) :
    T (D + 6) 136 (34, lo, [zi (f : Int)], m) κ :=
  zkeep hT hlo (hT.1 [] 6 (D + 6) 136 _ κ (hT.1 [] 6 (D + 6) 136 (46, [(0, zr 1), (4, zi (f : Int))], [zr 52, zi (f : Int), zr 72], m) _ (And.intro (o1) (hT.1 [] 6 (D + 5) 46 _ _ (And.intro trivial (hT.1 [] 6 (D + 5) 46 (10, [(0, zr 72), (1, zi (f : Int)), (2, zi (m 54 ((wr (f : Int)).toNat)))], [zi 0, zr 73], (zu m 72 1 2)) _ (And.intro (And.intro (z_ixL rfl) trivial) (hT.1 [] 6 (D + 5) 46 (18, [(0, zr 72), (1, zi (f : Int)), (2, zi (m 54 ((wr (f : Int)).toNat)))], [zi (m 54 ((wr (f : Int)).toNat)), zi 1, zr 73], (zu (zu m 72 1 2) 73 0 (f : Int))) _ (And.intro (And.intro (z_ixL rfl) trivial) (hT.1 [] 6 (D + 6) 136 _ _ (o2)))))))))))
theorem zb136_34 (hT : zRules T) {D : Nat} {κ : Option zA → zM → Prop} {m : zM} {f : Nat} {lo : zL} (hlo : z_keep [0] lo = [(0, zr 1)])  (hB : zB m) (h_f : f ≤ 108) 
    (k1 : zB (zu (zu (zu m 72 1 2) 73 0 (f : Int)) 73 1 (m 54 f)) → T (D + 5) 80 (0, [(0, zr 52)], [], (zu (zu (zu m 72 1 2) 73 0 (f : Int)) 73 1 (m 54 f))) (fun r m1 => T (D + 6) 136 (62, [(0, zr 1), (4, zi (f : Int))], r.toList ++ [], m1) κ)) :
    T (D + 6) 136 (34, lo, [zi (f : Int)], m) κ := by
  have he0 : wr (f : Int) = (f : Int) := wr_id (by omega) (by omega)
  have he1 : (f : Int).toNat = f := by omega
  have key := @zb136_34r T hT D κ m f lo hlo
  simp only [he0, he1, Int.toNat_natCast] at key
  exact key
    (by refine ⟨?_, ?_⟩ <;> omega)
    (k1  (zB_u (zB_u (zB_u hB (show 0 ≤ 2 ∧ 2 ≤ 26 from ⟨by omega, by omega⟩)) trivial) trivial))
theorem zb136_62r (hT : zRules T) {D : Nat} {κ : Option zA → zM → Prop} {m : zM} {v : Int} {lo : zL} (hlo : z_keep [] lo = []) 
    (o1 : κ (some (zi (wr v))) m) :
    T (D + 6) 136 (62, lo, [zi v], m) κ :=
  zkeep hT hlo (hT.1 [] 6 (D + 6) 136 _ κ (o1))
theorem zb136_62 (hT : zRules T) {D : Nat} {κ : Option zA → zM → Prop} {m : zM} {v : Int} {lo : zL} (hlo : z_keep [] lo = [])  (h_v : 0 ≤ v ∧ v ≤ 109) 
    (k1 : κ (some (zi v)) m) :
    T (D + 6) 136 (62, lo, [zi v], m) κ := by
  have he0 : wr v = v := wr_id (by omega) (by omega)
  have key := @zb136_62r T hT D κ m v lo hlo
  simp only [he0, Int.toNat_natCast] at key
  exact key
    k1
theorem zb251_0r (hT : zRules T) {D : Nat} {κ : Option zA → zM → Prop} {m : zM} {p : Int} {q : Int} {n : Int} 
    (o1 : wr p < 0 → κ (some (zi (-1))) (zu m 74 12 0))
    (o2 : ¬ wr p < 0 → wr ((m 74 4) - 1) < wr p → κ (some (zi (-1))) (zu m 74 12 0))
    (o3 : ¬ wr p < 0 → ¬ wr ((m 74 4) - 1) < wr p → wr q < 0 → κ (some (zi (-1))) (zu m 74 12 0))
    (o4 : ¬ wr p < 0 → ¬ wr ((m 74 4) - 1) < wr p → ¬ wr q < 0 → 3 < wr q → κ (some (zi (-1))) (zu m 74 12 0))
    (o5 : ¬ wr p < 0 → ¬ wr ((m 74 4) - 1) < wr p → ¬ wr q < 0 → ¬ 3 < wr q → wr n < 1 → κ (some (zi (-1))) (zu m 74 12 0))
    (o6 : ¬ wr p < 0 → ¬ wr ((m 74 4) - 1) < wr p → ¬ wr q < 0 → ¬ 3 < wr q → ¬ wr n < 1 → 60 < wr n → κ (some (zi (-1))) (zu m 74 12 0))
    (o7 : ¬ wr p < 0 → ¬ wr ((m 74 4) - 1) < wr p → ¬ wr q < 0 → ¬ 3 < wr q → ¬ wr n < 1 → ¬ 60 < wr n → T (D + 4) 251 (32, [(0, zr 74), (1, zi p), (2, zi q), (3, zi n), (4, zi 0)], [], (zu m 74 12 0)) κ) :
    T (D + 4) 251 (0, [(0, zr 74), (1, zi p), (2, zi q), (3, zi n)], [], m) κ :=
  hT.1 [(32, [0, 1, 2, 3, 4]), (56, [0, 1, 2, 3, 4]), (102, [0, 4, 5, 6])] 6 (D + 4) 251 _ κ (And.intro trivial (hT.1 [] 6 (D + 3) 190 _ _ (hT.1 [] 6 (D + 3) 190 (8, [(0, zr 74), (1, zi p)], [zi ((m 74 4) - 1), zi 0, zi p], (zu m 74 12 0)) _ (hT.1 [] 6 (D + 2) 186 _ _ (And.intro (fun a1 => (And.intro (z_b01L rfl) (hT.1 [] 6 (D + 3) 190 _ _ (And.intro (z_b01L rfl) (hT.1 [(32, [0, 1, 2, 3, 4]), (56, [0, 1, 2, 3, 4]), (102, [0, 4, 5, 6])] 6 (D + 4) 251 _ _ (And.intro (fun _ => (o1 a1)) (fun a3 => (a3 (z_litT rfl)).elim))))))) (fun a2 => (And.intro (fun a4 => (hT.1 [] 6 (D + 2) 186 (14, [(0, zi p), (1, zi 0), (2, zi ((m 74 4) - 1))], [], (zu m 74 12 0)) _ (And.intro (z_b01L rfl) (hT.1 [] 6 (D + 3) 190 _ _ (And.intro (z_b01L rfl) (hT.1 [(32, [0, 1, 2, 3, 4]), (56, [0, 1, 2, 3, 4]), (102, [0, 4, 5, 6])] 6 (D + 4) 251 _ _ (And.intro (fun _ => (o2 a2 a4)) (fun a6 => (a6 (z_litT rfl)).elim)))))))) (fun a5 => (hT.1 [] 6 (D + 2) 186 (10, [(0, zi p), (1, zi 0), (2, zi ((m 74 4) - 1))], [], (zu m 74 12 0)) _ (And.intro (z_b01L rfl) (hT.1 [] 6 (D + 3) 190 _ _ (And.intro (z_b01L rfl) (hT.1 [(32, [0, 1, 2, 3, 4]), (56, [0, 1, 2, 3, 4]), (102, [0, 4, 5, 6])] 6 (D + 4) 251 _ _ (And.intro (fun a7 => (z_litF a7 rfl).elim) (fun _ => (hT.1 [] 6 (D + 3) 192 _ _ (hT.1 [] 6 (D + 2) 186 _ _ (And.intro (fun a8 => (And.intro (z_b01L rfl) (hT.1 [] 6 (D + 3) 192 _ _ (And.intro (z_b01L rfl) (hT.1 [(32, [0, 1, 2, 3, 4]), (56, [0, 1, 2, 3, 4]), (102, [0, 4, 5, 6])] 6 (D + 4) 251 _ _ (And.intro (fun _ => (o3 a2 a5 a8)) (fun a10 => (a10 (z_litT rfl)).elim))))))) (fun a9 => (And.intro (fun a11 => (hT.1 [] 6 (D + 2) 186 (14, [(0, zi q), (1, zi 0), (2, zi 3)], [], (zu m 74 12 0)) _ (And.intro (z_b01L rfl) (hT.1 [] 6 (D + 3) 192 _ _ (And.intro (z_b01L rfl) (hT.1 [(32, [0, 1, 2, 3, 4]), (56, [0, 1, 2, 3, 4]), (102, [0, 4, 5, 6])] 6 (D + 4) 251 _ _ (And.intro (fun _ => (o4 a2 a5 a9 a11)) (fun a13 => (a13 (z_litT rfl)).elim)))))))) (fun a12 => (hT.1 [] 6 (D + 2) 186 (10, [(0, zi q), (1, zi 0), (2, zi 3)], [], (zu m 74 12 0)) _ (And.intro (z_b01L rfl) (hT.1 [] 6 (D + 3) 192 _ _ (And.intro (z_b01L rfl) (hT.1 [(32, [0, 1, 2, 3, 4]), (56, [0, 1, 2, 3, 4]), (102, [0, 4, 5, 6])] 6 (D + 4) 251 _ _ (And.intro (fun a14 => (z_litF a14 rfl).elim) (fun _ => (hT.1 [] 6 (D + 3) 194 _ _ (hT.1 [] 6 (D + 2) 186 _ _ (And.intro (fun a15 => (And.intro (z_b01L rfl) (hT.1 [] 6 (D + 3) 194 _ _ (And.intro (z_b01L rfl) (hT.1 [(32, [0, 1, 2, 3, 4]), (56, [0, 1, 2, 3, 4]), (102, [0, 4, 5, 6])] 6 (D + 4) 251 _ _ (And.intro (fun a17 => (z_litF a17 rfl).elim) (fun _ => (o5 a2 a5 a9 a12 a15)))))))) (fun a16 => (And.intro (fun a18 => (hT.1 [] 6 (D + 2) 186 (14, [(0, zi n), (1, zi 1), (2, zi 60)], [], (zu m 74 12 0)) _ (And.intro (z_b01L rfl) (hT.1 [] 6 (D + 3) 194 _ _ (And.intro (z_b01L rfl) (hT.1 [(32, [0, 1, 2, 3, 4]), (56, [0, 1, 2, 3, 4]), (102, [0, 4, 5, 6])] 6 (D + 4) 251 _ _ (And.intro (fun a20 => (z_litF a20 rfl).elim) (fun _ => (o6 a2 a5 a9 a12 a16 a18))))))))) (fun a19 => (hT.1 [] 6 (D + 2) 186 (10, [(0, zi n), (1, zi 1), (2, zi 60)], [], (zu m 74 12 0)) _ (And.intro (z_b01L rfl) (hT.1 [] 6 (D + 3) 194 _ _ (And.intro (z_b01L rfl) (hT.1 [(32, [0, 1, 2, 3, 4]), (56, [0, 1, 2, 3, 4]), (102, [0, 4, 5, 6])] 6 (D + 4) 251 _ _ (And.intro (fun _ => (o7 a2 a5 a9 a12 a16 a19)) (fun a21 => (a21 (z_litT rfl)).elim)))))))))))))))))))))))))))))))))))))))))
theorem zb251_0 (hT : zRules T) {D : Nat} {κ : Option zA → zM → Prop} {m : zM} {p : Int} {q : Int} {n : Int}  (hB : zB m) (h_p : (-2147483648) ≤ p ∧ p ≤ 2147483647) (h_q : (-2147483648) ≤ q ∧ q ≤ 2147483647) (h_n : (-2147483648) ≤ n ∧ n ≤ 2147483647) 
    (k1 : p < 0 → zB (zu m 74 12 0) → κ (some (zi (-1))) (zu m 74 12 0))
    (k2 : ¬ p < 0 → ((m 74 4) - 1) < p → zB (zu m 74 12 0) → κ (some (zi (-1))) (zu m 74 12 0))
    (k3 : ¬ p < 0 → ¬ ((m 74 4) - 1) < p → q < 0 → zB (zu m 74 12 0) → κ (some (zi (-1))) (zu m 74 12 0))
    (k4 : ¬ p < 0 → ¬ ((m 74 4) - 1) < p → ¬ q < 0 → 3 < q → zB (zu m 74 12 0) → κ (some (zi (-1))) (zu m 74 12 0))
    (k5 : ¬ p < 0 → ¬ ((m 74 4) - 1) < p → ¬ q < 0 → ¬ 3 < q → n < 1 → zB (zu m 74 12 0) → κ (some (zi (-1))) (zu m 74 12 0))
    (k6 : ¬ p < 0 → ¬ ((m 74 4) - 1) < p → ¬ q < 0 → ¬ 3 < q → ¬ n < 1 → 60 < n → zB (zu m 74 12 0) → κ (some (zi (-1))) (zu m 74 12 0))
    (k7 : ¬ p < 0 → ¬ ((m 74 4) - 1) < p → ¬ q < 0 → ¬ 3 < q → ¬ n < 1 → ¬ 60 < n → zB (zu m 74 12 0) → T (D + 4) 251 (32, [(0, zr 74), (1, zi p), (2, zi q), (3, zi n), (4, zi 0)], [], (zu m 74 12 0)) κ) :
    T (D + 4) 251 (0, [(0, zr 74), (1, zi p), (2, zi q), (3, zi n)], [], m) κ := by
  have hb3 : 0 ≤ (m 74 4) ∧ (m 74 4) ≤ 6 := hB 74 4
  have he0 : wr p = p := wr_id (by omega) (by omega)
  have he1 : wr ((m 74 4) - 1) = ((m 74 4) - 1) := wr_id (by omega) (by omega)
  have he2 : wr q = q := wr_id (by omega) (by omega)
  have he3 : wr n = n := wr_id (by omega) (by omega)
  have key := @zb251_0r T hT D κ m p q n
  simp only [he0, he1, he2, he3, Int.toNat_natCast] at key
  exact key
    (fun x0 => k1 x0 (zB_u hB trivial))
    (fun x0 x1 => k2 x0 x1 (zB_u hB trivial))
    (fun x0 x1 x2 => k3 x0 x1 x2 (zB_u hB trivial))
    (fun x0 x1 x2 x3 => k4 x0 x1 x2 x3 (zB_u hB trivial))
    (fun x0 x1 x2 x3 x4 => k5 x0 x1 x2 x3 x4 (zB_u hB trivial))
    (fun x0 x1 x2 x3 x4 x5 => k6 x0 x1 x2 x3 x4 x5 (zB_u hB trivial))
    (fun x0 x1 x2 x3 x4 x5 => k7 x0 x1 x2 x3 x4 x5 (zB_u hB trivial))
theorem zb251_32r (hT : zRules T) {D : Nat} {κ : Option zA → zM → Prop} {m : zM} {p : Nat} {q : Nat} {n : Nat} {v : Nat} {lo : zL} (hlo : z_keep [0, 1, 2, 3, 4] lo = [(0, zr 74), (1, zi (p : Int)), (2, zi (q : Int)), (3, zi (n : Int)), (4, zi (v : Int))]) 
    (o1 : 99 < wr (v : Int) → T (D + 4) 251 (56, [(0, zr 74), (1, zi (p : Int)), (2, zi (q : Int)), (3, zi (n : Int)), (4, zi 0)], [], m) κ)
    (o2 : ¬ 99 < wr (v : Int) → (0 ≤ wr (v : Int) ∧ wr (v : Int) < 100))
    (o3 : ¬ 99 < wr (v : Int) → T (D + 4) 251 (32, [(0, zr 74), (1, zi (p : Int)), (2, zi (q : Int)), (3, zi (n : Int)), (4, zi ((v : Int) + 1))], [], (zu m 92 ((wr (v : Int)).toNat) 0)) κ) :
    T (D + 4) 251 (32, lo, [], m) κ :=
  zkeep hT hlo (hT.1 [(32, [0, 1, 2, 3, 4]), (56, [0, 1, 2, 3, 4]), (102, [0, 4, 5, 6])] 6 (D + 4) 251 _ κ (And.intro (fun a1 => (o1 a1)) (fun a2 => (hT.1 [(32, [0, 1, 2, 3, 4]), (56, [0, 1, 2, 3, 4]), (102, [0, 4, 5, 6])] 6 (D + 4) 251 (45, [(0, zr 74), (1, zi (p : Int)), (2, zi (q : Int)), (3, zi (n : Int)), (4, zi (v : Int))], [zi (v : Int), zr 92], m) _ (And.intro (And.intro (o2 a2) trivial) (o3 a2))))))
theorem zb251_32 (hT : zRules T) {D : Nat} {κ : Option zA → zM → Prop} {m : zM} {p : Nat} {q : Nat} {n : Nat} {v : Nat} {lo : zL} (hlo : z_keep [0, 1, 2, 3, 4] lo = [(0, zr 74), (1, zi (p : Int)), (2, zi (q : Int)), (3, zi (n : Int)), (4, zi (v : Int))])  (hB : zB m) (h_p : p ≤ 5) (h_q : q ≤ 3) (h_n : n ≤ 60) (h_v : v ≤ 100) 
    (k1 : 99 < (v : Int) → T (D + 4) 251 (56, [(0, zr 74), (1, zi (p : Int)), (2, zi (q : Int)), (3, zi (n : Int)), (4, zi 0)], [], m) κ)
    (k2 : ¬ 99 < (v : Int) → zB (zu m 92 v 0) → T (D + 4) 251 (32, [(0, zr 74), (1, zi (p : Int)), (2, zi (q : Int)), (3, zi (n : Int)), (4, zi ((v : Int) + 1))], [], (zu m 92 v 0)) κ) :
    T (D + 4) 251 (32, lo, [], m) κ := by
  have he0 : wr (v : Int) = (v : Int) := wr_id (by omega) (by omega)
  have he1 : (v : Int).toNat = v := by omega
  have key := @zb251_32r T hT D κ m p q n v lo hlo
  simp only [he0, he1, Int.toNat_natCast] at key
  exact key
    k1
    (fun x0 => by refine ⟨?_, ?_⟩ <;> omega)
    (fun x0 => k2 x0 (zB_u hB trivial))
theorem zb251_56r (hT : zRules T) {D : Nat} {κ : Option zA → zM → Prop} {m : zM} {p : Nat} {q : Nat} {n : Nat} {k : Nat} {lo : zL} (hlo : z_keep [0, 1, 2, 3, 4] lo = [(0, zr 74), (1, zi (p : Int)), (2, zi (q : Int)), (3, zi (n : Int)), (4, zi (k : Int))]) 
    (o1 : ¬ wr (k : Int) < wr (n : Int) → T (D + 4) 251 (102, [(0, zr 74), (4, zi 0), (5, zi 0), (6, zi 0)], [], m) κ)
    (o2 : wr (k : Int) < wr (n : Int) → T (D + 3) 215 (0, [(0, zr 74), (1, zi (p : Int)), (2, zi (q : Int)), (3, zi ((m 75 57) + (k : Int)))], [], m) (fun r m1 => T (D + 4) 251 (82, [(0, zr 74), (1, zi (p : Int)), (2, zi (q : Int)), (3, zi (n : Int)), (4, zi (k : Int))], r.toList ++ [zr 92], m1) κ)) :
    T (D + 4) 251 (56, lo, [], m) κ :=
  zkeep hT hlo (hT.1 [(32, [0, 1, 2, 3, 4]), (56, [0, 1, 2, 3, 4]), (102, [0, 4, 5, 6])] 6 (D + 4) 251 _ κ (And.intro (fun a1 => (hT.1 [(32, [0, 1, 2, 3, 4]), (56, [0, 1, 2, 3, 4]), (102, [0, 4, 5, 6])] 6 (D + 4) 251 (97, [(0, zr 74), (1, zi (p : Int)), (2, zi (q : Int)), (3, zi (n : Int)), (4, zi 0)], [zi 0], m) _ (o1 a1))) (fun a2 => (hT.1 [(32, [0, 1, 2, 3, 4]), (56, [0, 1, 2, 3, 4]), (102, [0, 4, 5, 6])] 6 (D + 4) 251 (67, [(0, zr 74), (1, zi (p : Int)), (2, zi (q : Int)), (3, zi (n : Int)), (4, zi (k : Int))], [zr 74, zr 92], m) _ (And.intro (z_ixL rfl) (hT.1 [(32, [0, 1, 2, 3, 4]), (56, [0, 1, 2, 3, 4]), (102, [0, 4, 5, 6])] 6 (D + 4) 251 (76, [(0, zr 74), (1, zi (p : Int)), (2, zi (q : Int)), (3, zi (n : Int)), (4, zi (k : Int))], [zi (m 75 57), zi (q : Int), zi (p : Int), zr 74, zr 92], m) _ (o2 (Classical.byContradiction a2))))))))
theorem zb251_56 (hT : zRules T) {D : Nat} {κ : Option zA → zM → Prop} {m : zM} {p : Nat} {q : Nat} {n : Nat} {k : Nat} {lo : zL} (hlo : z_keep [0, 1, 2, 3, 4] lo = [(0, zr 74), (1, zi (p : Int)), (2, zi (q : Int)), (3, zi (n : Int)), (4, zi (k : Int))])  (hB : zB m) (h_p : p ≤ 5) (h_q : q ≤ 3) (h_n : n ≤ 60) (h_k : k ≤ 60) 
    (k1 : ¬ (k : Int) < (n : Int) → T (D + 4) 251 (102, [(0, zr 74), (4, zi 0), (5, zi 0), (6, zi 0)], [], m) κ)
    (k2 : (k : Int) < (n : Int) → T (D + 3) 215 (0, [(0, zr 74), (1, zi (p : Int)), (2, zi (q : Int)), (3, zi ((m 75 57) + (k : Int)))], [], m) (fun r m1 => T (D + 4) 251 (82, [(0, zr 74), (1, zi (p : Int)), (2, zi (q : Int)), (3, zi (n : Int)), (4, zi (k : Int))], r.toList ++ [zr 92], m1) κ)) :
    T (D + 4) 251 (56, lo, [], m) κ := by
  have hb4 : 0 ≤ (m 75 57) ∧ (m 75 57) ≤ 400000 := hB 75 57
  have he0 : wr (k : Int) = (k : Int) := wr_id (by omega) (by omega)
  have he1 : wr (n : Int) = (n : Int) := wr_id (by omega) (by omega)
  have key := @zb251_56r T hT D κ m p q n k lo hlo
  simp only [he0, he1, Int.toNat_natCast] at key
  exact key
    k1
    k2
theorem zb251_82r (hT : zRules T) {D : Nat} {κ : Option zA → zM → Prop} {m : zM} {p : Nat} {q : Nat} {n : Nat} {k : Nat} {v : Nat} {lo : zL} (hlo : z_keep [0, 1, 2, 3, 4] lo = [(0, zr 74), (1, zi (p : Int)), (2, zi (q : Int)), (3, zi (n : Int)), (4, zi (k : Int))]) 
    (o1 : (0 ≤ wr (v : Int) ∧ wr (v : Int) < 100))
    (o2 : (0 ≤ wr (v : Int) ∧ wr (v : Int) < 100))
    (o3 : T (D + 4) 251 (56, [(0, zr 74), (1, zi (p : Int)), (2, zi (q : Int)), (3, zi (n : Int)), (4, zi ((k : Int) + 1))], [], (zu m 92 ((wr (v : Int)).toNat) ((m 92 ((wr (v : Int)).toNat)) + 1))) κ) :
    T (D + 4) 251 (82, lo, [zi (v : Int), zr 92], m) κ :=
  zkeep hT hlo (hT.1 [(32, [0, 1, 2, 3, 4]), (56, [0, 1, 2, 3, 4]), (102, [0, 4, 5, 6])] 6 (D + 4) 251 _ κ (And.intro (o1) (And.intro (And.intro (o2) trivial) (hT.1 [(32, [0, 1, 2, 3, 4]), (56, [0, 1, 2, 3, 4]), (102, [0, 4, 5, 6])] 6 (D + 4) 251 (90, [(0, zr 74), (1, zi (p : Int)), (2, zi (q : Int)), (3, zi (n : Int)), (4, zi ((k : Int) + 1))], [], (zu m 92 ((wr (v : Int)).toNat) ((m 92 ((wr (v : Int)).toNat)) + 1))) _ (o3)))))
theorem zb251_82 (hT : zRules T) {D : Nat} {κ : Option zA → zM → Prop} {m : zM} {p : Nat} {q : Nat} {n : Nat} {k : Nat} {v : Nat} {lo : zL} (hlo : z_keep [0, 1, 2, 3, 4] lo = [(0, zr 74), (1, zi (p : Int)), (2, zi (q : Int)), (3, zi (n : Int)), (4, zi (k : Int))])  (hB : zB m) (h_p : p ≤ 5) (h_q : q ≤ 3) (h_n : n ≤ 60) (h_k : k ≤ 60) (h_v : v ≤ 99) 
    (k1 : zB (zu m 92 v ((m 92 v) + 1)) → T (D + 4) 251 (56, [(0, zr 74), (1, zi (p : Int)), (2, zi (q : Int)), (3, zi (n : Int)), (4, zi ((k : Int) + 1))], [], (zu m 92 v ((m 92 v) + 1))) κ) :
    T (D + 4) 251 (82, lo, [zi (v : Int), zr 92], m) κ := by
  have he0 : wr (v : Int) = (v : Int) := wr_id (by omega) (by omega)
  have he1 : (v : Int).toNat = v := by omega
  have key := @zb251_82r T hT D κ m p q n k v lo hlo
  simp only [he0, he1, Int.toNat_natCast] at key
  exact key
    (by refine ⟨?_, ?_⟩ <;> omega)
    (by refine ⟨?_, ?_⟩ <;> omega)
    (k1  (zB_u hB trivial))
theorem zb251_102r (hT : zRules T) {D : Nat} {κ : Option zA → zM → Prop} {m : zM} {c : Nat} {b : Nat} {v : Nat} {lo : zL} (hlo : z_keep [0, 4, 5, 6] lo = [(0, zr 74), (4, zi (c : Int)), (5, zi (b : Int)), (6, zi (v : Int))]) 
    (o1 : 99 < wr (v : Int) → (0 ≤ wr (b : Int) ∧ wr (b : Int) < 100))
    (o2 : 99 < wr (v : Int) → κ (some (zi (wr (c : Int)))) (zu (zu (zu (zu (zu m 74 11 0) 81 0 (b : Int)) 74 11 1) 81 1 (m 92 ((wr (b : Int)).toNat))) 74 11 2))
    (o3 : ¬ 99 < wr (v : Int) → (0 ≤ wr (v : Int) ∧ wr (v : Int) < 100))
    (o4 : ¬ 99 < wr (v : Int) → ¬ 0 < wr (m 92 ((wr (v : Int)).toNat)) → (0 ≤ wr (v : Int) ∧ wr (v : Int) < 100))
    (o5 : ¬ 99 < wr (v : Int) → ¬ 0 < wr (m 92 ((wr (v : Int)).toNat)) → (0 ≤ wr (b : Int) ∧ wr (b : Int) < 100))
    (o6 : ¬ 99 < wr (v : Int) → ¬ 0 < wr (m 92 ((wr (v : Int)).toNat)) → ¬ wr (m 92 ((wr (b : Int)).toNat)) < wr (m 92 ((wr (v : Int)).toNat)) → T (D + 4) 251 (102, [(0, zr 74), (4, zi ((c : Int) + 0)), (5, zi (b : Int)), (6, zi ((v : Int) + 1))], [], m) κ)
    (o7 : ¬ 99 < wr (v : Int) → ¬ 0 < wr (m 92 ((wr (v : Int)).toNat)) → wr (m 92 ((wr (b : Int)).toNat)) < wr (m 92 ((wr (v : Int)).toNat)) → T (D + 4) 251 (102, [(0, zr 74), (4, zi ((c : Int) + 0)), (5, zi (v : Int)), (6, zi ((v : Int) + 1))], [], m) κ)
    (o8 : ¬ 99 < wr (v : Int) → 0 < wr (m 92 ((wr (v : Int)).toNat)) → (0 ≤ wr (v : Int) ∧ wr (v : Int) < 100))
    (o9 : ¬ 99 < wr (v : Int) → 0 < wr (m 92 ((wr (v : Int)).toNat)) → (0 ≤ wr (b : Int) ∧ wr (b : Int) < 100))
    (o10 : ¬ 99 < wr (v : Int) → 0 < wr (m 92 ((wr (v : Int)).toNat)) → ¬ wr (m 92 ((wr (b : Int)).toNat)) < wr (m 92 ((wr (v : Int)).toNat)) → T (D + 4) 251 (102, [(0, zr 74), (4, zi ((c : Int) + 1)), (5, zi (b : Int)), (6, zi ((v : Int) + 1))], [], m) κ)
    (o11 : ¬ 99 < wr (v : Int) → 0 < wr (m 92 ((wr (v : Int)).toNat)) → wr (m 92 ((wr (b : Int)).toNat)) < wr (m 92 ((wr (v : Int)).toNat)) → T (D + 4) 251 (102, [(0, zr 74), (4, zi ((c : Int) + 1)), (5, zi (v : Int)), (6, zi ((v : Int) + 1))], [], m) κ) :
    T (D + 4) 251 (102, lo, [], m) κ :=
  zkeep hT hlo (hT.1 [(32, [0, 1, 2, 3, 4]), (56, [0, 1, 2, 3, 4]), (102, [0, 4, 5, 6])] 6 (D + 4) 251 _ κ (And.intro (fun a1 => (And.intro trivial (hT.1 [(32, [0, 1, 2, 3, 4]), (56, [0, 1, 2, 3, 4]), (102, [0, 4, 5, 6])] 6 (D + 4) 251 (161, [(0, zr 74), (4, zi (c : Int)), (5, zi (b : Int)), (6, zi (v : Int))], [], (zu m 74 11 0)) _ (hT.1 [] 6 (D + 3) 189 _ _ (And.intro (And.intro (z_ixL rfl) trivial) (hT.1 [] 6 (D + 3) 189 (10, [(0, zr 74), (1, zi (b : Int))], [], (zu (zu m 74 11 0) 81 0 (b : Int))) _ (And.intro trivial (hT.1 [] 6 (D + 3) 189 (20, [(0, zr 74), (1, zi (b : Int))], [], (zu (zu (zu m 74 11 0) 81 0 (b : Int)) 74 11 1)) _ (hT.1 [(32, [0, 1, 2, 3, 4]), (56, [0, 1, 2, 3, 4]), (102, [0, 4, 5, 6])] 6 (D + 4) 251 _ _ (And.intro (o1 a1) (hT.1 [] 6 (D + 3) 189 _ _ (And.intro (And.intro (z_ixL rfl) trivial) (hT.1 [] 6 (D + 3) 189 (10, [(0, zr 74), (1, zi (m 92 ((wr (b : Int)).toNat)))], [], (zu (zu (zu (zu m 74 11 0) 81 0 (b : Int)) 74 11 1) 81 1 (m 92 ((wr (b : Int)).toNat)))) _ (And.intro trivial (hT.1 [] 6 (D + 3) 189 (20, [(0, zr 74), (1, zi (m 92 ((wr (b : Int)).toNat)))], [], (zu (zu (zu (zu (zu m 74 11 0) 81 0 (b : Int)) 74 11 1) 81 1 (m 92 ((wr (b : Int)).toNat))) 74 11 2)) _ (hT.1 [(32, [0, 1, 2, 3, 4]), (56, [0, 1, 2, 3, 4]), (102, [0, 4, 5, 6])] 6 (D + 4) 251 _ _ (o2 a1))))))))))))))))) (fun a2 => (hT.1 [(32, [0, 1, 2, 3, 4]), (56, [0, 1, 2, 3, 4]), (102, [0, 4, 5, 6])] 6 (D + 4) 251 (115, [(0, zr 74), (4, zi (c : Int)), (5, zi (b : Int)), (6, zi (v : Int))], [zr 92, zi (c : Int)], m) _ (And.intro (o3 a2) (And.intro (fun a3 => (hT.1 [(32, [0, 1, 2, 3, 4]), (56, [0, 1, 2, 3, 4]), (102, [0, 4, 5, 6])] 6 (D + 4) 251 (129, [(0, zr 74), (4, zi ((c : Int) + 0)), (5, zi (b : Int)), (6, zi (v : Int))], [], m) _ (And.intro (o4 a2 a3) (hT.1 [(32, [0, 1, 2, 3, 4]), (56, [0, 1, 2, 3, 4]), (102, [0, 4, 5, 6])] 6 (D + 4) 251 (140, [(0, zr 74), (4, zi ((c : Int) + 0)), (5, zi (b : Int)), (6, zi (v : Int))], [zr 92, zi (m 92 ((wr (v : Int)).toNat))], m) _ (And.intro (o5 a2 a3) (And.intro (fun a5 => (o6 a2 a3 a5)) (fun a6 => (hT.1 [(32, [0, 1, 2, 3, 4]), (56, [0, 1, 2, 3, 4]), (102, [0, 4, 5, 6])] 6 (D + 4) 251 (153, [(0, zr 74), (4, zi ((c : Int) + 0)), (5, zi (v : Int)), (6, zi ((v : Int) + 1))], [], m) _ (o7 a2 a3 (Classical.byContradiction a6)))))))))) (fun a4 => (hT.1 [(32, [0, 1, 2, 3, 4]), (56, [0, 1, 2, 3, 4]), (102, [0, 4, 5, 6])] 6 (D + 4) 251 (127, [(0, zr 74), (4, zi (c : Int)), (5, zi (b : Int)), (6, zi (v : Int))], [zi ((c : Int) + 1)], m) _ (And.intro (o8 a2 (Classical.byContradiction a4)) (hT.1 [(32, [0, 1, 2, 3, 4]), (56, [0, 1, 2, 3, 4]), (102, [0, 4, 5, 6])] 6 (D + 4) 251 (137, [(0, zr 74), (4, zi ((c : Int) + 1)), (5, zi (b : Int)), (6, zi (v : Int))], [zr 74, zi (m 92 ((wr (v : Int)).toNat))], m) _ (And.intro (o9 a2 (Classical.byContradiction a4)) (And.intro (fun a7 => (o10 a2 (Classical.byContradiction a4) a7)) (fun a8 => (hT.1 [(32, [0, 1, 2, 3, 4]), (56, [0, 1, 2, 3, 4]), (102, [0, 4, 5, 6])] 6 (D + 4) 251 (150, [(0, zr 74), (4, zi ((c : Int) + 1)), (5, zi (v : Int)), (6, zi (v : Int))], [], m) _ (o11 a2 (Classical.byContradiction a4) (Classical.byContradiction a8))))))))))))))))
theorem zb251_102 (hT : zRules T) {D : Nat} {κ : Option zA → zM → Prop} {m : zM} {c : Nat} {b : Nat} {v : Nat} {lo : zL} (hlo : z_keep [0, 4, 5, 6] lo = [(0, zr 74), (4, zi (c : Int)), (5, zi (b : Int)), (6, zi (v : Int))])  (hB : zB m) (h_c : c ≤ 100) (h_b : b ≤ 99) (h_v : v ≤ 100) 
    (k1 : 99 < (v : Int) → zB (zu (zu (zu (zu (zu m 74 11 0) 81 0 (b : Int)) 74 11 1) 81 1 (m 92 b)) 74 11 2) → κ (some (zi (c : Int))) (zu (zu (zu (zu (zu m 74 11 0) 81 0 (b : Int)) 74 11 1) 81 1 (m 92 b)) 74 11 2))
    (k2 : ¬ 99 < (v : Int) → ¬ 0 < wr (m 92 v) → ¬ wr (m 92 b) < wr (m 92 v) → T (D + 4) 251 (102, [(0, zr 74), (4, zi ((c : Int) + 0)), (5, zi (b : Int)), (6, zi ((v : Int) + 1))], [], m) κ)
    (k3 : ¬ 99 < (v : Int) → ¬ 0 < wr (m 92 v) → wr (m 92 b) < wr (m 92 v) → T (D + 4) 251 (102, [(0, zr 74), (4, zi ((c : Int) + 0)), (5, zi (v : Int)), (6, zi ((v : Int) + 1))], [], m) κ)
    (k4 : ¬ 99 < (v : Int) → 0 < wr (m 92 v) → ¬ wr (m 92 b) < wr (m 92 v) → T (D + 4) 251 (102, [(0, zr 74), (4, zi ((c : Int) + 1)), (5, zi (b : Int)), (6, zi ((v : Int) + 1))], [], m) κ)
    (k5 : ¬ 99 < (v : Int) → 0 < wr (m 92 v) → wr (m 92 b) < wr (m 92 v) → T (D + 4) 251 (102, [(0, zr 74), (4, zi ((c : Int) + 1)), (5, zi (v : Int)), (6, zi ((v : Int) + 1))], [], m) κ) :
    T (D + 4) 251 (102, lo, [], m) κ := by
  have hb3 : (-2147483648) ≤ wr (m 92 v) ∧ wr (m 92 v) ≤ 2147483647 := wrB (m 92 v)
  have hb4 : (-2147483648) ≤ wr (m 92 b) ∧ wr (m 92 b) ≤ 2147483647 := wrB (m 92 b)
  have he0 : wr (v : Int) = (v : Int) := wr_id (by omega) (by omega)
  have he1 : wr (b : Int) = (b : Int) := wr_id (by omega) (by omega)
  have he2 : (b : Int).toNat = b := by omega
  have he3 : wr (c : Int) = (c : Int) := wr_id (by omega) (by omega)
  have he4 : (v : Int).toNat = v := by omega
  have key := @zb251_102r T hT D κ m c b v lo hlo
  simp only [he0, he1, he2, he3, he4, Int.toNat_natCast] at key
  exact key
    (fun x0 => by refine ⟨?_, ?_⟩ <;> omega)
    (fun x0 => k1 x0 (zB_u (zB_u (zB_u (zB_u (zB_u hB (show 0 ≤ 0 ∧ 0 ≤ 32 from ⟨by omega, by omega⟩)) trivial) (show 0 ≤ 1 ∧ 1 ≤ 32 from ⟨by omega, by omega⟩)) trivial) (show 0 ≤ 2 ∧ 2 ≤ 32 from ⟨by omega, by omega⟩)))
    (fun x0 => by refine ⟨?_, ?_⟩ <;> omega)
    (fun x0 x1 => by refine ⟨?_, ?_⟩ <;> omega)
    (fun x0 x1 => by refine ⟨?_, ?_⟩ <;> omega)
    k2
    k3
    (fun x0 x1 => by refine ⟨?_, ?_⟩ <;> omega)
    (fun x0 x1 => by refine ⟨?_, ?_⟩ <;> omega)
    k4
    k5
theorem zb137_0r (hT : zRules T) {D : Nat} {κ : Option zA → zM → Prop} {m : zM} {c : Int} {p : Int} {n : Int} 
    (o1 : wr c < 0 → κ (some (zi (-1))) m)
    (o2 : ¬ wr c < 0 → ¬ wr c < wr (m 17 1) → κ (some (zi (-1))) m)
    (o3 : ¬ wr c < 0 → wr c < wr (m 17 1) → wr p < 0 → κ (some (zi (-1))) m)
    (o4 : ¬ wr c < 0 → wr c < wr (m 17 1) → ¬ wr p < 0 → ¬ wr p < wr (m 17 0) → κ (some (zi (-1))) m)
    (o5 : ¬ wr c < 0 → wr c < wr (m 17 1) → ¬ wr p < 0 → wr p < wr (m 17 0) → wr n < 0 → κ (some (zi (-1))) m)
    (o6 : ¬ wr c < 0 → wr c < wr (m 17 1) → ¬ wr p < 0 → wr p < wr (m 17 0) → ¬ wr n < 0 → ¬ 60 < wr n → (0 ≤ wr p ∧ wr p < 6))
    (o7 : ¬ wr c < 0 → wr c < wr (m 17 1) → ¬ wr p < 0 → wr p < wr (m 17 0) → ¬ wr n < 0 → ¬ 60 < wr n → T (D + 5) 180 (0, [(0, zr 1), (1, zi p), (2, zi (m 19 ((wr p).toNat))), (3, zi n)], [], m) (fun r m1 => T (D + 6) 137 (49, [(0, zr 1), (1, zi c), (2, zi p), (3, zi n)], r.toList ++ [], m1) κ))
    (o8 : ¬ wr c < 0 → wr c < wr (m 17 1) → ¬ wr p < 0 → wr p < wr (m 17 0) → ¬ wr n < 0 → 60 < wr n → κ (some (zi (-1))) m) :
    T (D + 6) 137 (0, [(0, zr 1), (1, zi c), (2, zi p), (3, zi n)], [], m) κ :=
  hT.1 [] 6 (D + 6) 137 _ κ (hT.1 [] 6 (D + 5) 26 _ _ (And.intro (fun a1 => (And.intro (z_b01L rfl) (hT.1 [] 6 (D + 6) 137 _ _ (And.intro (fun _ => (o1 a1)) (fun a3 => (a3 (z_litT rfl)).elim))))) (fun a2 => (And.intro (fun a4 => (hT.1 [] 6 (D + 5) 26 (16, [(0, zr 17), (1, zi c)], [], m) _ (And.intro (z_b01L rfl) (hT.1 [] 6 (D + 6) 137 _ _ (And.intro (fun _ => (o2 a2 a4)) (fun a6 => (a6 (z_litT rfl)).elim)))))) (fun a5 => (hT.1 [] 6 (D + 5) 26 (12, [(0, zr 17), (1, zi c)], [], m) _ (And.intro (z_b01L rfl) (hT.1 [] 6 (D + 6) 137 _ _ (And.intro (fun a7 => (z_litF a7 rfl).elim) (fun _ => (hT.1 [] 6 (D + 5) 25 _ _ (And.intro (fun a8 => (And.intro (z_b01L rfl) (hT.1 [] 6 (D + 6) 137 _ _ (And.intro (fun _ => (o3 a2 (Classical.byContradiction a5) a8)) (fun a10 => (a10 (z_litT rfl)).elim))))) (fun a9 => (And.intro (fun a11 => (hT.1 [] 6 (D + 5) 25 (16, [(0, zr 17), (1, zi p)], [], m) _ (And.intro (z_b01L rfl) (hT.1 [] 6 (D + 6) 137 _ _ (And.intro (fun _ => (o4 a2 (Classical.byContradiction a5) a9 a11)) (fun a13 => (a13 (z_litT rfl)).elim)))))) (fun a12 => (hT.1 [] 6 (D + 5) 25 (12, [(0, zr 17), (1, zi p)], [], m) _ (And.intro (z_b01L rfl) (hT.1 [] 6 (D + 6) 137 _ _ (And.intro (fun a14 => (z_litF a14 rfl).elim) (fun _ => (And.intro (fun a15 => (o5 a2 (Classical.byContradiction a5) a9 (Classical.byContradiction a12) a15)) (fun a16 => (And.intro (fun a17 => (hT.1 [] 6 (D + 6) 137 (34, [(0, zr 1), (1, zi c), (2, zi p), (3, zi n)], [], m) _ (hT.1 [] 6 (D + 6) 137 (44, [(0, zr 1), (1, zi c), (2, zi p), (3, zi n)], [zi p, zr 19, zi p, zr 1], m) _ (And.intro (o6 a2 (Classical.byContradiction a5) a9 (Classical.byContradiction a12) a16 a17) (o7 a2 (Classical.byContradiction a5) a9 (Classical.byContradiction a12) a16 a17))))) (fun a18 => (hT.1 [] 6 (D + 6) 137 (32, [(0, zr 1), (1, zi c), (2, zi p), (3, zi n)], [], m) _ (o8 a2 (Classical.byContradiction a5) a9 (Classical.byContradiction a12) a16 (Classical.byContradiction a18)))))))))))))))))))))))))))
theorem zb137_0 (hT : zRules T) {D : Nat} {κ : Option zA → zM → Prop} {m : zM} {c : Int} {p : Int} {n : Int}  (hB : zB m) (h_c : (-2147483648) ≤ c ∧ c ≤ 2147483647) (h_p : (-2147483648) ≤ p ∧ p ≤ 2147483647) (h_n : (-2147483648) ≤ n ∧ n ≤ 2147483647) 
    (k1 : c < 0 → κ (some (zi (-1))) m)
    (k2 : ¬ c < 0 → ¬ c < (m 17 1) → κ (some (zi (-1))) m)
    (k3 : ¬ c < 0 → c < (m 17 1) → p < 0 → κ (some (zi (-1))) m)
    (k4 : ¬ c < 0 → c < (m 17 1) → ¬ p < 0 → ¬ p < (m 17 0) → κ (some (zi (-1))) m)
    (k5 : ¬ c < 0 → c < (m 17 1) → ¬ p < 0 → p < (m 17 0) → n < 0 → κ (some (zi (-1))) m)
    (k6 : ¬ c < 0 → c < (m 17 1) → ¬ p < 0 → p < (m 17 0) → ¬ n < 0 → ¬ 60 < n → T (D + 5) 180 (0, [(0, zr 1), (1, zi p), (2, zi (m 19 (p.toNat))), (3, zi n)], [], m) (fun r m1 => T (D + 6) 137 (49, [(0, zr 1), (1, zi c), (2, zi p), (3, zi n)], r.toList ++ [], m1) κ))
    (k7 : ¬ c < 0 → c < (m 17 1) → ¬ p < 0 → p < (m 17 0) → ¬ n < 0 → 60 < n → κ (some (zi (-1))) m) :
    T (D + 6) 137 (0, [(0, zr 1), (1, zi c), (2, zi p), (3, zi n)], [], m) κ := by
  have hb3 : 0 ≤ (m 17 1) ∧ (m 17 1) ≤ 8 := hB 17 1
  have hb4 : 0 ≤ (m 17 0) ∧ (m 17 0) ≤ 6 := hB 17 0
  have hb5 : (-1) ≤ (m 19 (p.toNat)) ∧ (m 19 (p.toNat)) ≤ 3 := hB 19 (p.toNat)
  have he0 : wr c = c := wr_id (by omega) (by omega)
  have he1 : wr (m 17 1) = (m 17 1) := wr_id (by omega) (by omega)
  have he2 : wr p = p := wr_id (by omega) (by omega)
  have he3 : wr (m 17 0) = (m 17 0) := wr_id (by omega) (by omega)
  have he4 : wr n = n := wr_id (by omega) (by omega)
  have key := @zb137_0r T hT D κ m c p n
  simp only [he0, he1, he2, he3, he4, Int.toNat_natCast] at key
  exact key
    k1
    k2
    k3
    k4
    k5
    (fun x0 x1 x2 x3 x4 x5 => by refine ⟨?_, ?_⟩ <;> omega)
    k6
    k7
theorem zb137_49r (hT : zRules T) {D : Nat} {κ : Option zA → zM → Prop} {m : zM} {c : Nat} {lo : zL} (hlo : z_keep [0, 1] lo = [(0, zr 1), (1, zi (c : Int))]) 
    (o1 : (0 ≤ wr (c : Int) ∧ wr (c : Int) < 8))
    (o2 : (0 ≤ wr (c : Int) ∧ wr (c : Int) < 8))
    (o3 : T (D + 5) 83 (0, [(0, zr 52), (1, zi (wr ((m 21 ((wr (c : Int)).toNat)) + (m 22 ((wr (c : Int)).toNat))))), (2, zi (wr (m 24 0)))], [], m) (fun r m1 => T (D + 6) 137 (79, [(0, zr 1), (1, zi (c : Int)), (4, zi (wr ((m 21 ((wr (c : Int)).toNat)) + (m 22 ((wr (c : Int)).toNat)))))], r.toList ++ [zr 72], m1) κ)) :
    T (D + 6) 137 (49, lo, [], m) κ :=
  zkeep hT hlo (hT.1 [] 6 (D + 6) 137 _ κ (hT.1 [] 6 (D + 5) 28 _ _ (And.intro (o1) (hT.1 [] 6 (D + 5) 28 (10, [(0, zr 17), (1, zi (c : Int))], [zr 22, zi (m 21 ((wr (c : Int)).toNat))], m) _ (And.intro (o2) (hT.1 [] 6 (D + 6) 137 _ _ (hT.1 [] 6 (D + 6) 137 (69, [(0, zr 1), (1, zi (c : Int)), (4, zi (wr ((m 21 ((wr (c : Int)).toNat)) + (m 22 ((wr (c : Int)).toNat)))))], [zi (wr ((m 21 ((wr (c : Int)).toNat)) + (m 22 ((wr (c : Int)).toNat)))), zr 52, zr 72], m) _ (hT.1 [] 6 (D + 5) 27 _ _ (And.intro (z_ixL rfl) (hT.1 [] 6 (D + 6) 137 _ _ (o3)))))))))))
theorem zb137_49 (hT : zRules T) {D : Nat} {κ : Option zA → zM → Prop} {m : zM} {c : Nat} {lo : zL} (hlo : z_keep [0, 1] lo = [(0, zr 1), (1, zi (c : Int))])  (hB : zB m) (h_c : c ≤ 7) 
    (k1 : T (D + 5) 83 (0, [(0, zr 52), (1, zi ((m 21 c) + (m 22 c))), (2, zi (m 24 0))], [], m) (fun r m1 => T (D + 6) 137 (79, [(0, zr 1), (1, zi (c : Int)), (4, zi ((m 21 c) + (m 22 c)))], r.toList ++ [zr 72], m1) κ)) :
    T (D + 6) 137 (49, lo, [], m) κ := by
  have hb1 : (-1) ≤ (m 21 c) ∧ (m 21 c) ≤ 99 := hB 21 c
  have hb2 : (-1) ≤ (m 22 c) ∧ (m 22 c) ≤ 9 := hB 22 c
  have hb3 : 0 ≤ (m 24 0) ∧ (m 24 0) ≤ 9 := hB 24 0
  have he0 : wr (c : Int) = (c : Int) := wr_id (by omega) (by omega)
  have he1 : (c : Int).toNat = c := by omega
  have he2 : wr ((m 21 c) + (m 22 c)) = ((m 21 c) + (m 22 c)) := wr_id (by omega) (by omega)
  have he3 : wr (m 24 0) = (m 24 0) := wr_id (by omega) (by omega)
  have key := @zb137_49r T hT D κ m c lo hlo
  simp only [he0, he1, he2, he3, Int.toNat_natCast] at key
  exact key
    (by refine ⟨?_, ?_⟩ <;> omega)
    (by refine ⟨?_, ?_⟩ <;> omega)
    k1
theorem zb137_79r (hT : zRules T) {D : Nat} {κ : Option zA → zM → Prop} {m : zM} {l : Int} {v : Int} {lo : zL} (hlo : z_keep [0, 4] lo = [(0, zr 1), (4, zi l)]) 
    (o1 : T (D + 5) 82 (0, [(0, zr 52), (1, zi l), (2, zi (wr (m 24 0)))], [], (zu (zu m 72 1 1) 73 0 v)) (fun r m1 => T (D + 6) 137 (98, [(0, zr 1), (4, zi l)], r.toList ++ [], m1) κ)) :
    T (D + 6) 137 (79, lo, [zi v, zr 72], m) κ :=
  zkeep hT hlo (hT.1 [] 6 (D + 6) 137 _ κ (hT.1 [] 6 (D + 5) 45 _ _ (And.intro trivial (hT.1 [] 6 (D + 5) 45 (10, [(0, zr 72), (1, zi v)], [zi 0, zr 73], (zu m 72 1 1)) _ (And.intro (And.intro (z_ixL rfl) trivial) (hT.1 [] 6 (D + 6) 137 _ _ (hT.1 [] 6 (D + 5) 27 _ _ (And.intro (z_ixL rfl) (hT.1 [] 6 (D + 6) 137 _ _ (o1))))))))))
theorem zb137_79 (hT : zRules T) {D : Nat} {κ : Option zA → zM → Prop} {m : zM} {l : Int} {v : Int} {lo : zL} (hlo : z_keep [0, 4] lo = [(0, zr 1), (4, zi l)])  (hB : zB m) (h_l : (-2) ≤ l ∧ l ≤ 108) (h_v : (-1) ≤ v ∧ v ≤ 60) 
    (k1 : zB (zu (zu m 72 1 1) 73 0 v) → T (D + 5) 82 (0, [(0, zr 52), (1, zi l), (2, zi (m 24 0))], [], (zu (zu m 72 1 1) 73 0 v)) (fun r m1 => T (D + 6) 137 (98, [(0, zr 1), (4, zi l)], r.toList ++ [], m1) κ)) :
    T (D + 6) 137 (79, lo, [zi v, zr 72], m) κ := by
  have hb2 : 0 ≤ (m 24 0) ∧ (m 24 0) ≤ 9 := hB 24 0
  have he0 : wr (m 24 0) = (m 24 0) := wr_id (by omega) (by omega)
  have key := @zb137_79r T hT D κ m l v lo hlo
  simp only [he0, Int.toNat_natCast] at key
  exact key
    (k1  (zB_u (zB_u hB (show 0 ≤ 1 ∧ 1 ≤ 26 from ⟨by omega, by omega⟩)) trivial))
theorem zb137_98r (hT : zRules T) {D : Nat} {κ : Option zA → zM → Prop} {m : zM} {v : Int} {lo : zL} (hlo : z_keep [] lo = []) 
    (o1 : κ (some (zi (wr v))) m) :
    T (D + 6) 137 (98, lo, [zi v], m) κ :=
  zkeep hT hlo (hT.1 [] 6 (D + 6) 137 _ κ (o1))
theorem zb137_98 (hT : zRules T) {D : Nat} {κ : Option zA → zM → Prop} {m : zM} {v : Int} {lo : zL} (hlo : z_keep [] lo = [])  (h_v : 0 ≤ v ∧ v ≤ 60) 
    (k1 : κ (some (zi v)) m) :
    T (D + 6) 137 (98, lo, [zi v], m) κ := by
  have he0 : wr v = v := wr_id (by omega) (by omega)
  have key := @zb137_98r T hT D κ m v lo hlo
  simp only [he0, Int.toNat_natCast] at key
  exact key
    k1
theorem zb253_0r (hT : zRules T) {D : Nat} {κ : Option zA → zM → Prop} {m : zM} {c : Int} {p : Int} {n : Int} 
    (o1 : wr c < 0 → κ (some (zi (-1))) (zu m 74 12 0))
    (o2 : ¬ wr c < 0 → wr ((m 74 6) - 1) < wr c → κ (some (zi (-1))) (zu m 74 12 0))
    (o3 : ¬ wr c < 0 → ¬ wr ((m 74 6) - 1) < wr c → wr p < 0 → κ (some (zi (-1))) (zu m 74 12 0))
    (o4 : ¬ wr c < 0 → ¬ wr ((m 74 6) - 1) < wr c → ¬ wr p < 0 → wr ((m 74 4) - 1) < wr p → κ (some (zi (-1))) (zu m 74 12 0))
    (o5 : ¬ wr c < 0 → ¬ wr ((m 74 6) - 1) < wr c → ¬ wr p < 0 → ¬ wr ((m 74 4) - 1) < wr p → wr n < 0 → κ (some (zi (-1))) (zu m 74 12 0))
    (o6 : ¬ wr c < 0 → ¬ wr ((m 74 6) - 1) < wr c → ¬ wr p < 0 → ¬ wr ((m 74 4) - 1) < wr p → ¬ wr n < 0 → 60 < wr n → κ (some (zi (-1))) (zu m 74 12 0))
    (o7 : ¬ wr c < 0 → ¬ wr ((m 74 6) - 1) < wr c → ¬ wr p < 0 → ¬ wr ((m 74 4) - 1) < wr p → ¬ wr n < 0 → ¬ 60 < wr n → (0 ≤ wr (12 + c) ∧ wr (12 + c) < 59))
    (o8 : ¬ wr c < 0 → ¬ wr ((m 74 6) - 1) < wr c → ¬ wr p < 0 → ¬ wr ((m 74 4) - 1) < wr p → ¬ wr n < 0 → ¬ 60 < wr n → (0 ≤ wr (20 + c) ∧ wr (20 + c) < 59))
    (o9 : ¬ wr c < 0 → ¬ wr ((m 74 6) - 1) < wr c → ¬ wr p < 0 → ¬ wr ((m 74 4) - 1) < wr p → ¬ wr n < 0 → ¬ 60 < wr n → T (D + 4) 253 (63, [(0, zr 74), (2, zi p), (3, zi n), (4, zi ((m 75 ((wr (12 + c)).toNat)) + (m 75 ((wr (20 + c)).toNat)))), (5, zi 0), (6, zi (-1)), (7, zi 0)], [], (zu m 74 12 0)) κ) :
    T (D + 4) 253 (0, [(0, zr 74), (1, zi c), (2, zi p), (3, zi n)], [], m) κ :=
  hT.1 [(63, [0, 2, 3, 4, 5, 6, 7])] 6 (D + 4) 253 _ κ (And.intro trivial (hT.1 [] 6 (D + 3) 191 _ _ (hT.1 [] 6 (D + 3) 191 (8, [(0, zr 74), (1, zi c)], [zi ((m 74 6) - 1), zi 0, zi c], (zu m 74 12 0)) _ (hT.1 [] 6 (D + 2) 186 _ _ (And.intro (fun a1 => (And.intro (z_b01L rfl) (hT.1 [] 6 (D + 3) 191 _ _ (And.intro (z_b01L rfl) (hT.1 [(63, [0, 2, 3, 4, 5, 6, 7])] 6 (D + 4) 253 _ _ (And.intro (fun _ => (o1 a1)) (fun a3 => (a3 (z_litT rfl)).elim))))))) (fun a2 => (And.intro (fun a4 => (hT.1 [] 6 (D + 2) 186 (14, [(0, zi c), (1, zi 0), (2, zi ((m 74 6) - 1))], [], (zu m 74 12 0)) _ (And.intro (z_b01L rfl) (hT.1 [] 6 (D + 3) 191 _ _ (And.intro (z_b01L rfl) (hT.1 [(63, [0, 2, 3, 4, 5, 6, 7])] 6 (D + 4) 253 _ _ (And.intro (fun _ => (o2 a2 a4)) (fun a6 => (a6 (z_litT rfl)).elim)))))))) (fun a5 => (hT.1 [] 6 (D + 2) 186 (10, [(0, zi c), (1, zi 0), (2, zi ((m 74 6) - 1))], [], (zu m 74 12 0)) _ (And.intro (z_b01L rfl) (hT.1 [] 6 (D + 3) 191 _ _ (And.intro (z_b01L rfl) (hT.1 [(63, [0, 2, 3, 4, 5, 6, 7])] 6 (D + 4) 253 _ _ (And.intro (fun a7 => (z_litF a7 rfl).elim) (fun _ => (hT.1 [] 6 (D + 3) 190 _ _ (hT.1 [] 6 (D + 3) 190 (8, [(0, zr 74), (1, zi p)], [zi ((m 74 4) - 1), zi 0, zi p], (zu m 74 12 0)) _ (hT.1 [] 6 (D + 2) 186 _ _ (And.intro (fun a8 => (And.intro (z_b01L rfl) (hT.1 [] 6 (D + 3) 190 _ _ (And.intro (z_b01L rfl) (hT.1 [(63, [0, 2, 3, 4, 5, 6, 7])] 6 (D + 4) 253 _ _ (And.intro (fun _ => (o3 a2 a5 a8)) (fun a10 => (a10 (z_litT rfl)).elim))))))) (fun a9 => (And.intro (fun a11 => (hT.1 [] 6 (D + 2) 186 (14, [(0, zi p), (1, zi 0), (2, zi ((m 74 4) - 1))], [], (zu m 74 12 0)) _ (And.intro (z_b01L rfl) (hT.1 [] 6 (D + 3) 190 _ _ (And.intro (z_b01L rfl) (hT.1 [(63, [0, 2, 3, 4, 5, 6, 7])] 6 (D + 4) 253 _ _ (And.intro (fun _ => (o4 a2 a5 a9 a11)) (fun a13 => (a13 (z_litT rfl)).elim)))))))) (fun a12 => (hT.1 [] 6 (D + 2) 186 (10, [(0, zi p), (1, zi 0), (2, zi ((m 74 4) - 1))], [], (zu m 74 12 0)) _ (And.intro (z_b01L rfl) (hT.1 [] 6 (D + 3) 190 _ _ (And.intro (z_b01L rfl) (hT.1 [(63, [0, 2, 3, 4, 5, 6, 7])] 6 (D + 4) 253 _ _ (And.intro (fun a14 => (z_litF a14 rfl).elim) (fun _ => (hT.1 [] 6 (D + 3) 186 _ _ (And.intro (fun a15 => (And.intro (z_b01L rfl) (hT.1 [(63, [0, 2, 3, 4, 5, 6, 7])] 6 (D + 4) 253 _ _ (And.intro (fun a17 => (z_litF a17 rfl).elim) (fun _ => (o5 a2 a5 a9 a12 a15)))))) (fun a16 => (And.intro (fun a18 => (hT.1 [] 6 (D + 3) 186 (14, [(0, zi n), (1, zi 0), (2, zi 60)], [], (zu m 74 12 0)) _ (And.intro (z_b01L rfl) (hT.1 [(63, [0, 2, 3, 4, 5, 6, 7])] 6 (D + 4) 253 _ _ (And.intro (fun a20 => (z_litF a20 rfl).elim) (fun _ => (o6 a2 a5 a9 a12 a16 a18))))))) (fun a19 => (hT.1 [] 6 (D + 3) 186 (10, [(0, zi n), (1, zi 0), (2, zi 60)], [], (zu m 74 12 0)) _ (And.intro (z_b01L rfl) (hT.1 [(63, [0, 2, 3, 4, 5, 6, 7])] 6 (D + 4) 253 _ _ (And.intro (fun _ => (hT.1 [(63, [0, 2, 3, 4, 5, 6, 7])] 6 (D + 4) 253 (41, [(0, zr 74), (1, zi c), (2, zi p), (3, zi n)], [zi (12 + c), zr 75], (zu m 74 12 0)) _ (And.intro (o7 a2 a5 a9 a12 a16 a19) (hT.1 [(63, [0, 2, 3, 4, 5, 6, 7])] 6 (D + 4) 253 (50, [(0, zr 74), (1, zi c), (2, zi p), (3, zi n)], [zi (20 + c), zr 75, zi (m 75 ((wr (12 + c)).toNat))], (zu m 74 12 0)) _ (And.intro (o8 a2 a5 a9 a12 a16 a19) (hT.1 [(63, [0, 2, 3, 4, 5, 6, 7])] 6 (D + 4) 253 (58, [(0, zr 74), (1, zi c), (2, zi p), (3, zi n), (4, zi ((m 75 ((wr (12 + c)).toNat)) + (m 75 ((wr (20 + c)).toNat)))), (5, zi 0)], [zi (-1)], (zu m 74 12 0)) _ (o9 a2 a5 a9 a12 a16 a19))))))) (fun a21 => (a21 (z_litT rfl)).elim)))))))))))))))))))))))))))))))))))))))
theorem zb253_0 (hT : zRules T) {D : Nat} {κ : Option zA → zM → Prop} {m : zM} {c : Int} {p : Int} {n : Int}  (hB : zB m) (h_c : (-2147483648) ≤ c ∧ c ≤ 2147483647) (h_p : (-2147483648) ≤ p ∧ p ≤ 2147483647) (h_n : (-2147483648) ≤ n ∧ n ≤ 2147483647) 
    (k1 : c < 0 → zB (zu m 74 12 0) → κ (some (zi (-1))) (zu m 74 12 0))
    (k2 : ¬ c < 0 → ((m 74 6) - 1) < c → zB (zu m 74 12 0) → κ (some (zi (-1))) (zu m 74 12 0))
    (k3 : ¬ c < 0 → ¬ ((m 74 6) - 1) < c → p < 0 → zB (zu m 74 12 0) → κ (some (zi (-1))) (zu m 74 12 0))
    (k4 : ¬ c < 0 → ¬ ((m 74 6) - 1) < c → ¬ p < 0 → ((m 74 4) - 1) < p → zB (zu m 74 12 0) → κ (some (zi (-1))) (zu m 74 12 0))
    (k5 : ¬ c < 0 → ¬ ((m 74 6) - 1) < c → ¬ p < 0 → ¬ ((m 74 4) - 1) < p → n < 0 → zB (zu m 74 12 0) → κ (some (zi (-1))) (zu m 74 12 0))
    (k6 : ¬ c < 0 → ¬ ((m 74 6) - 1) < c → ¬ p < 0 → ¬ ((m 74 4) - 1) < p → ¬ n < 0 → 60 < n → zB (zu m 74 12 0) → κ (some (zi (-1))) (zu m 74 12 0))
    (k7 : ¬ c < 0 → ¬ ((m 74 6) - 1) < c → ¬ p < 0 → ¬ ((m 74 4) - 1) < p → ¬ n < 0 → ¬ 60 < n → (0 ≤ wr (12 + c) ∧ wr (12 + c) < 59))
    (k8 : ¬ c < 0 → ¬ ((m 74 6) - 1) < c → ¬ p < 0 → ¬ ((m 74 4) - 1) < p → ¬ n < 0 → ¬ 60 < n → (0 ≤ wr (20 + c) ∧ wr (20 + c) < 59))
    (k9 : ¬ c < 0 → ¬ ((m 74 6) - 1) < c → ¬ p < 0 → ¬ ((m 74 4) - 1) < p → ¬ n < 0 → ¬ 60 < n → zB (zu m 74 12 0) → T (D + 4) 253 (63, [(0, zr 74), (2, zi p), (3, zi n), (4, zi ((m 75 ((wr (12 + c)).toNat)) + (m 75 ((wr (20 + c)).toNat)))), (5, zi 0), (6, zi (-1)), (7, zi 0)], [], (zu m 74 12 0)) κ) :
    T (D + 4) 253 (0, [(0, zr 74), (1, zi c), (2, zi p), (3, zi n)], [], m) κ := by
  have hb3 : 0 ≤ (m 74 6) ∧ (m 74 6) ≤ 8 := hB 74 6
  have hb4 : 0 ≤ (m 74 4) ∧ (m 74 4) ≤ 6 := hB 74 4
  have hb5 : (-2147483648) ≤ wr (12 + c) ∧ wr (12 + c) ≤ 2147483647 := wrB (12 + c)
  have hb6 : (-2147483648) ≤ wr (20 + c) ∧ wr (20 + c) ≤ 2147483647 := wrB (20 + c)
  have he0 : wr c = c := wr_id (by omega) (by omega)
  have he1 : wr ((m 74 6) - 1) = ((m 74 6) - 1) := wr_id (by omega) (by omega)
  have he2 : wr p = p := wr_id (by omega) (by omega)
  have he3 : wr ((m 74 4) - 1) = ((m 74 4) - 1) := wr_id (by omega) (by omega)
  have he4 : wr n = n := wr_id (by omega) (by omega)
  have key := @zb253_0r T hT D κ m c p n
  simp only [he0, he1, he2, he3, he4, Int.toNat_natCast] at key
  exact key
    (fun x0 => k1 x0 (zB_u hB trivial))
    (fun x0 x1 => k2 x0 x1 (zB_u hB trivial))
    (fun x0 x1 x2 => k3 x0 x1 x2 (zB_u hB trivial))
    (fun x0 x1 x2 x3 => k4 x0 x1 x2 x3 (zB_u hB trivial))
    (fun x0 x1 x2 x3 x4 => k5 x0 x1 x2 x3 x4 (zB_u hB trivial))
    (fun x0 x1 x2 x3 x4 x5 => k6 x0 x1 x2 x3 x4 x5 (zB_u hB trivial))
    k7
    k8
    (fun x0 x1 x2 x3 x4 x5 => k9 x0 x1 x2 x3 x4 x5 (zB_u hB trivial))
theorem zb253_0nr (hT : zRules T) {D : Nat} {κ : Option zA → zM → Prop} {m : zM} {c : Nat} {p : Nat} {n : Nat} 
    (o1 : wr (c : Int) < 0 → False)
    (o2 : ¬ wr (c : Int) < 0 → wr ((m 74 6) - 1) < wr (c : Int) → κ (some (zi (-1))) (zu m 74 12 0))
    (o3 : ¬ wr (c : Int) < 0 → ¬ wr ((m 74 6) - 1) < wr (c : Int) → wr (p : Int) < 0 → False)
    (o4 : ¬ wr (c : Int) < 0 → ¬ wr ((m 74 6) - 1) < wr (c : Int) → ¬ wr (p : Int) < 0 → wr ((m 74 4) - 1) < wr (p : Int) → κ (some (zi (-1))) (zu m 74 12 0))
    (o5 : ¬ wr (c : Int) < 0 → ¬ wr ((m 74 6) - 1) < wr (c : Int) → ¬ wr (p : Int) < 0 → ¬ wr ((m 74 4) - 1) < wr (p : Int) → wr (n : Int) < 0 → False)
    (o6 : ¬ wr (c : Int) < 0 → ¬ wr ((m 74 6) - 1) < wr (c : Int) → ¬ wr (p : Int) < 0 → ¬ wr ((m 74 4) - 1) < wr (p : Int) → ¬ wr (n : Int) < 0 → 60 < wr (n : Int) → False)
    (o7 : ¬ wr (c : Int) < 0 → ¬ wr ((m 74 6) - 1) < wr (c : Int) → ¬ wr (p : Int) < 0 → ¬ wr ((m 74 4) - 1) < wr (p : Int) → ¬ wr (n : Int) < 0 → ¬ 60 < wr (n : Int) → (0 ≤ wr (12 + (c : Int)) ∧ wr (12 + (c : Int)) < 59))
    (o8 : ¬ wr (c : Int) < 0 → ¬ wr ((m 74 6) - 1) < wr (c : Int) → ¬ wr (p : Int) < 0 → ¬ wr ((m 74 4) - 1) < wr (p : Int) → ¬ wr (n : Int) < 0 → ¬ 60 < wr (n : Int) → (0 ≤ wr (20 + (c : Int)) ∧ wr (20 + (c : Int)) < 59))
    (o9 : ¬ wr (c : Int) < 0 → ¬ wr ((m 74 6) - 1) < wr (c : Int) → ¬ wr (p : Int) < 0 → ¬ wr ((m 74 4) - 1) < wr (p : Int) → ¬ wr (n : Int) < 0 → ¬ 60 < wr (n : Int) → T (D + 4) 253 (63, [(0, zr 74), (2, zi (p : Int)), (3, zi (n : Int)), (4, zi ((m 75 ((wr (12 + (c : Int))).toNat)) + (m 75 ((wr (20 + (c : Int))).toNat)))), (5, zi 0), (6, zi (-1)), (7, zi 0)], [], (zu m 74 12 0)) κ) :
    T (D + 4) 253 (0, [(0, zr 74), (1, zi (c : Int)), (2, zi (p : Int)), (3, zi (n : Int))], [], m) κ :=
  hT.1 [(63, [0, 2, 3, 4, 5, 6, 7])] 6 (D + 4) 253 _ κ (And.intro trivial (hT.1 [] 6 (D + 3) 191 _ _ (hT.1 [] 6 (D + 3) 191 (8, [(0, zr 74), (1, zi (c : Int))], [zi ((m 74 6) - 1), zi 0, zi (c : Int)], (zu m 74 12 0)) _ (hT.1 [] 6 (D + 2) 186 _ _ (And.intro (fun a1 => (o1 a1).elim) (fun a2 => (And.intro (fun a3 => (hT.1 [] 6 (D + 2) 186 (14, [(0, zi (c : Int)), (1, zi 0), (2, zi ((m 74 6) - 1))], [], (zu m 74 12 0)) _ (And.intro (z_b01L rfl) (hT.1 [] 6 (D + 3) 191 _ _ (And.intro (z_b01L rfl) (hT.1 [(63, [0, 2, 3, 4, 5, 6, 7])] 6 (D + 4) 253 _ _ (And.intro (fun _ => (o2 a2 a3)) (fun a5 => (a5 (z_litT rfl)).elim)))))))) (fun a4 => (hT.1 [] 6 (D + 2) 186 (10, [(0, zi (c : Int)), (1, zi 0), (2, zi ((m 74 6) - 1))], [], (zu m 74 12 0)) _ (And.intro (z_b01L rfl) (hT.1 [] 6 (D + 3) 191 _ _ (And.intro (z_b01L rfl) (hT.1 [(63, [0, 2, 3, 4, 5, 6, 7])] 6 (D + 4) 253 _ _ (And.intro (fun a6 => (z_litF a6 rfl).elim) (fun _ => (hT.1 [] 6 (D + 3) 190 _ _ (hT.1 [] 6 (D + 3) 190 (8, [(0, zr 74), (1, zi (p : Int))], [zi ((m 74 4) - 1), zi 0, zi (p : Int)], (zu m 74 12 0)) _ (hT.1 [] 6 (D + 2) 186 _ _ (And.intro (fun a7 => (o3 a2 a4 a7).elim) (fun a8 => (And.intro (fun a9 => (hT.1 [] 6 (D + 2) 186 (14, [(0, zi (p : Int)), (1, zi 0), (2, zi ((m 74 4) - 1))], [], (zu m 74 12 0)) _ (And.intro (z_b01L rfl) (hT.1 [] 6 (D + 3) 190 _ _ (And.intro (z_b01L rfl) (hT.1 [(63, [0, 2, 3, 4, 5, 6, 7])] 6 (D + 4) 253 _ _ (And.intro (fun _ => (o4 a2 a4 a8 a9)) (fun a11 => (a11 (z_litT rfl)).elim)))))))) (fun a10 => (hT.1 [] 6 (D + 2) 186 (10, [(0, zi (p : Int)), (1, zi 0), (2, zi ((m 74 4) - 1))], [], (zu m 74 12 0)) _ (And.intro (z_b01L rfl) (hT.1 [] 6 (D + 3) 190 _ _ (And.intro (z_b01L rfl) (hT.1 [(63, [0, 2, 3, 4, 5, 6, 7])] 6 (D + 4) 253 _ _ (And.intro (fun a12 => (z_litF a12 rfl).elim) (fun _ => (hT.1 [] 6 (D + 3) 186 _ _ (And.intro (fun a13 => (o5 a2 a4 a8 a10 a13).elim) (fun a14 => (And.intro (fun a15 => (o6 a2 a4 a8 a10 a14 a15).elim) (fun a16 => (hT.1 [] 6 (D + 3) 186 (10, [(0, zi (n : Int)), (1, zi 0), (2, zi 60)], [], (zu m 74 12 0)) _ (And.intro (z_b01L rfl) (hT.1 [(63, [0, 2, 3, 4, 5, 6, 7])] 6 (D + 4) 253 _ _ (And.intro (fun _ => (hT.1 [(63, [0, 2, 3, 4, 5, 6, 7])] 6 (D + 4) 253 (41, [(0, zr 74), (1, zi (c : Int)), (2, zi (p : Int)), (3, zi (n : Int))], [zi (12 + (c : Int)), zr 75], (zu m 74 12 0)) _ (And.intro (o7 a2 a4 a8 a10 a14 a16) (hT.1 [(63, [0, 2, 3, 4, 5, 6, 7])] 6 (D + 4) 253 (50, [(0, zr 74), (1, zi (c : Int)), (2, zi (p : Int)), (3, zi (n : Int))], [zi (20 + (c : Int)), zr 75, zi (m 75 ((wr (12 + (c : Int))).toNat))], (zu m 74 12 0)) _ (And.intro (o8 a2 a4 a8 a10 a14 a16) (hT.1 [(63, [0, 2, 3, 4, 5, 6, 7])] 6 (D + 4) 253 (58, [(0, zr 74), (1, zi (c : Int)), (2, zi (p : Int)), (3, zi (n : Int)), (4, zi ((m 75 ((wr (12 + (c : Int))).toNat)) + (m 75 ((wr (20 + (c : Int))).toNat)))), (5, zi 0)], [zi (-1)], (zu m 74 12 0)) _ (o9 a2 a4 a8 a10 a14 a16))))))) (fun a17 => (a17 (z_litT rfl)).elim)))))))))))))))))))))))))))))))))))))))
theorem zb253_0n (hT : zRules T) {D : Nat} {κ : Option zA → zM → Prop} {m : zM} {c : Nat} {p : Nat} {n : Nat}  (hB : zB m) (h_c : c ≤ 7) (h_p : p ≤ 5) (h_n : n ≤ 60) 
    (k1 : ((m 74 6) - 1) < (c : Int) → zB (zu m 74 12 0) → κ (some (zi (-1))) (zu m 74 12 0))
    (k2 : ¬ ((m 74 6) - 1) < (c : Int) → ((m 74 4) - 1) < (p : Int) → zB (zu m 74 12 0) → κ (some (zi (-1))) (zu m 74 12 0))
    (k3 : ¬ ((m 74 6) - 1) < (c : Int) → ¬ ((m 74 4) - 1) < (p : Int) → zB (zu m 74 12 0) → T (D + 4) 253 (63, [(0, zr 74), (2, zi (p : Int)), (3, zi (n : Int)), (4, zi ((m 75 (c + 12)) + (m 75 (c + 20)))), (5, zi 0), (6, zi (-1)), (7, zi 0)], [], (zu m 74 12 0)) κ) :
    T (D + 4) 253 (0, [(0, zr 74), (1, zi (c : Int)), (2, zi (p : Int)), (3, zi (n : Int))], [], m) κ := by
  have hb3 : 0 ≤ (m 74 6) ∧ (m 74 6) ≤ 8 := hB 74 6
  have hb4 : 0 ≤ (m 74 4) ∧ (m 74 4) ≤ 6 := hB 74 4
  have hb5 : (-1) ≤ (m 75 (c + 12)) ∧ (m 75 (c + 12)) ≤ 99 := zSg hB 75 12 20 (-1) 99 rfl (c + 12) (by omega) (by omega)
  have hb6 : (-1) ≤ (m 75 (c + 20)) ∧ (m 75 (c + 20)) ≤ 9 := zSg hB 75 20 28 (-1) 9 rfl (c + 20) (by omega) (by omega)
  have he0 : wr (c : Int) = (c : Int) := wr_id (by omega) (by omega)
  have he1 : wr ((m 74 6) - 1) = ((m 74 6) - 1) := wr_id (by omega) (by omega)
  have he2 : wr (p : Int) = (p : Int) := wr_id (by omega) (by omega)
  have he3 : wr ((m 74 4) - 1) = ((m 74 4) - 1) := wr_id (by omega) (by omega)
  have he4 : wr (n : Int) = (n : Int) := wr_id (by omega) (by omega)
  have he5 : wr (12 + (c : Int)) = (12 + (c : Int)) := wr_id (by omega) (by omega)
  have he6 : (12 + (c : Int)).toNat = c + 12 := by omega
  have he7 : wr (20 + (c : Int)) = (20 + (c : Int)) := wr_id (by omega) (by omega)
  have he8 : (20 + (c : Int)).toNat = c + 20 := by omega
  have key := @zb253_0nr T hT D κ m c p n
  simp only [he0, he1, he2, he3, he4, he5, he6, he7, he8, Int.toNat_natCast] at key
  exact key
    (fun x0 => by omega)
    (fun x0 x1 => k1 x1 (zB_u hB trivial))
    (fun x0 x1 x2 => by omega)
    (fun x0 x1 x2 x3 => k2 x1 x3 (zB_u hB trivial))
    (fun x0 x1 x2 x3 x4 => by omega)
    (fun x0 x1 x2 x3 x4 x5 => by omega)
    (fun x0 x1 x2 x3 x4 x5 => by refine ⟨?_, ?_⟩ <;> omega)
    (fun x0 x1 x2 x3 x4 x5 => by refine ⟨?_, ?_⟩ <;> omega)
    (fun x0 x1 x2 x3 x4 x5 => k3 x1 x3 (zB_u hB trivial))
theorem zb253_63r (hT : zRules T) {D : Nat} {κ : Option zA → zM → Prop} {m : zM} {p : Nat} {n : Nat} {l : Int} {s : Nat} {f : Int} {k : Nat} {lo : zL} (hlo : z_keep [0, 2, 3, 4, 5, 6, 7] lo = [(0, zr 74), (2, zi (p : Int)), (3, zi (n : Int)), (4, zi l), (5, zi (s : Int)), (6, zi f), (7, zi (k : Int))]) 
    (o1 : ¬ wr (k : Int) < wr (n : Int) → κ (some (zi (wr (s : Int)))) (zu (zu (zu m 74 11 0) 81 0 f) 74 11 1))
    (o2 : wr (k : Int) < wr (n : Int) → T (D + 3) 216 (0, [(0, zr 74), (1, zi (p : Int)), (2, zi (k : Int))], [], m) (fun r m1 => T (D + 4) 253 (76, [(0, zr 74), (2, zi (p : Int)), (3, zi (n : Int)), (4, zi l), (5, zi (s : Int)), (6, zi f), (7, zi (k : Int))], r.toList ++ [], m1) κ)) :
    T (D + 4) 253 (63, lo, [], m) κ :=
  zkeep hT hlo (hT.1 [(63, [0, 2, 3, 4, 5, 6, 7])] 6 (D + 4) 253 _ κ (And.intro (fun a1 => (And.intro trivial (hT.1 [(63, [0, 2, 3, 4, 5, 6, 7])] 6 (D + 4) 253 (129, [(0, zr 74), (2, zi (p : Int)), (3, zi (n : Int)), (4, zi l), (5, zi (s : Int)), (6, zi f), (7, zi (k : Int))], [], (zu m 74 11 0)) _ (hT.1 [] 6 (D + 3) 189 _ _ (And.intro (And.intro (z_ixL rfl) trivial) (hT.1 [] 6 (D + 3) 189 (10, [(0, zr 74), (1, zi f)], [], (zu (zu m 74 11 0) 81 0 f)) _ (And.intro trivial (hT.1 [] 6 (D + 3) 189 (20, [(0, zr 74), (1, zi f)], [], (zu (zu (zu m 74 11 0) 81 0 f) 74 11 1)) _ (hT.1 [(63, [0, 2, 3, 4, 5, 6, 7])] 6 (D + 4) 253 _ _ (o1 a1)))))))))) (fun a2 => (hT.1 [(63, [0, 2, 3, 4, 5, 6, 7])] 6 (D + 4) 253 (73, [(0, zr 74), (2, zi (p : Int)), (3, zi (n : Int)), (4, zi l), (5, zi (s : Int)), (6, zi f), (7, zi (k : Int))], [zi (k : Int), zi (p : Int), zr 74], m) _ (o2 (Classical.byContradiction a2))))))
theorem zb253_63 (hT : zRules T) {D : Nat} {κ : Option zA → zM → Prop} {m : zM} {p : Nat} {n : Nat} {l : Int} {s : Nat} {f : Int} {k : Nat} {lo : zL} (hlo : z_keep [0, 2, 3, 4, 5, 6, 7] lo = [(0, zr 74), (2, zi (p : Int)), (3, zi (n : Int)), (4, zi l), (5, zi (s : Int)), (6, zi f), (7, zi (k : Int))])  (hB : zB m) (h_p : p ≤ 5) (h_n : n ≤ 60) (h_l : (-2) ≤ l ∧ l ≤ 108) (h_s : s ≤ 60) (h_f : (-1) ≤ f ∧ f ≤ 60) (h_k : k ≤ 60) 
    (k1 : ¬ (k : Int) < (n : Int) → zB (zu (zu (zu m 74 11 0) 81 0 f) 74 11 1) → κ (some (zi (s : Int))) (zu (zu (zu m 74 11 0) 81 0 f) 74 11 1))
    (k2 : (k : Int) < (n : Int) → T (D + 3) 216 (0, [(0, zr 74), (1, zi (p : Int)), (2, zi (k : Int))], [], m) (fun r m1 => T (D + 4) 253 (76, [(0, zr 74), (2, zi (p : Int)), (3, zi (n : Int)), (4, zi l), (5, zi (s : Int)), (6, zi f), (7, zi (k : Int))], r.toList ++ [], m1) κ)) :
    T (D + 4) 253 (63, lo, [], m) κ := by
  have he0 : wr (k : Int) = (k : Int) := wr_id (by omega) (by omega)
  have he1 : wr (n : Int) = (n : Int) := wr_id (by omega) (by omega)
  have he2 : wr (s : Int) = (s : Int) := wr_id (by omega) (by omega)
  have key := @zb253_63r T hT D κ m p n l s f k lo hlo
  simp only [he0, he1, he2, Int.toNat_natCast] at key
  exact key
    (fun x0 => k1 x0 (zB_u (zB_u (zB_u hB (show 0 ≤ 0 ∧ 0 ≤ 32 from ⟨by omega, by omega⟩)) trivial) (show 0 ≤ 1 ∧ 1 ≤ 32 from ⟨by omega, by omega⟩)))
    k2
theorem zb253_76r (hT : zRules T) {D : Nat} {κ : Option zA → zM → Prop} {m : zM} {p : Nat} {n : Nat} {l : Int} {s : Nat} {f : Int} {k : Nat} {v : Int} {lo : zL} (hlo : z_keep [0, 2, 3, 4, 5, 6, 7] lo = [(0, zr 74), (2, zi (p : Int)), (3, zi (n : Int)), (4, zi l), (5, zi (s : Int)), (6, zi f), (7, zi (k : Int))]) 
    (o1 : wr l < wr v → ¬ wr f = (-1) → T (D + 4) 253 (63, [(0, zr 74), (2, zi (p : Int)), (3, zi (n : Int)), (4, zi l), (5, zi ((s : Int) + 0)), (6, zi f), (7, zi ((k : Int) + 1))], [], m) κ)
    (o2 : wr l < wr v → wr f = (-1) → T (D + 4) 253 (63, [(0, zr 74), (2, zi (p : Int)), (3, zi (n : Int)), (4, zi l), (5, zi ((s : Int) + 0)), (6, zi (k : Int)), (7, zi ((k : Int) + 1))], [], m) κ)
    (o3 : ¬ wr l < wr v → wr (v + (m 79 0)) < wr l → ¬ wr f = (-1) → T (D + 4) 253 (63, [(0, zr 74), (2, zi (p : Int)), (3, zi (n : Int)), (4, zi l), (5, zi ((s : Int) + 0)), (6, zi f), (7, zi ((k : Int) + 1))], [], m) κ)
    (o4 : ¬ wr l < wr v → wr (v + (m 79 0)) < wr l → wr f = (-1) → T (D + 4) 253 (63, [(0, zr 74), (2, zi (p : Int)), (3, zi (n : Int)), (4, zi l), (5, zi ((s : Int) + 0)), (6, zi (k : Int)), (7, zi ((k : Int) + 1))], [], m) κ)
    (o5 : ¬ wr l < wr v → ¬ wr (v + (m 79 0)) < wr l → T (D + 4) 253 (63, [(0, zr 74), (2, zi (p : Int)), (3, zi (n : Int)), (4, zi l), (5, zi ((s : Int) + 1)), (6, zi f), (7, zi ((k : Int) + 1))], [], m) κ) :
    T (D + 4) 253 (76, lo, [zi v], m) κ :=
  zkeep hT hlo (hT.1 [(63, [0, 2, 3, 4, 5, 6, 7])] 6 (D + 4) 253 _ κ (hT.1 [] 6 (D + 3) 252 _ _ (hT.1 [] 6 (D + 3) 252 (8, [(0, zr 74), (1, zi l), (2, zi v)], [zi 0, zr 79, zi v, zi v, zi l], m) _ (And.intro (z_ixL rfl) (hT.1 [] 6 (D + 2) 186 _ _ (And.intro (fun a1 => (And.intro (z_b01L rfl) (hT.1 [] 6 (D + 3) 252 _ _ (And.intro (z_b01L rfl) (hT.1 [(63, [0, 2, 3, 4, 5, 6, 7])] 6 (D + 4) 253 _ _ (And.intro (fun _ => (hT.1 [(63, [0, 2, 3, 4, 5, 6, 7])] 6 (D + 4) 253 (101, [(0, zr 74), (2, zi (p : Int)), (3, zi (n : Int)), (4, zi l), (5, zi (s : Int)), (6, zi f), (7, zi (k : Int)), (8, zi v), (9, zi 0)], [zi ((s : Int) + 0)], m) _ (And.intro (fun a4 => (z_litF a4 rfl).elim) (fun _ => (And.intro (fun a5 => (hT.1 [(63, [0, 2, 3, 4, 5, 6, 7])] 6 (D + 4) 253 (118, [(0, zr 74), (2, zi (p : Int)), (3, zi (n : Int)), (4, zi l), (5, zi ((s : Int) + 0)), (6, zi f), (7, zi (k : Int)), (8, zi v), (9, zi 0)], [], m) _ (o1 a1 a5))) (fun a6 => (hT.1 [(63, [0, 2, 3, 4, 5, 6, 7])] 6 (D + 4) 253 (114, [(0, zr 74), (2, zi (p : Int)), (3, zi (n : Int)), (4, zi l), (5, zi ((s : Int) + 0)), (6, zi f), (7, zi (k : Int)), (8, zi v), (9, zi 0)], [], m) _ (o2 a1 (Classical.byContradiction a6))))))))) (fun a3 => (a3 (z_litT rfl)).elim))))))) (fun a2 => (And.intro (fun a7 => (hT.1 [] 6 (D + 2) 186 (14, [(0, zi l), (1, zi v), (2, zi (v + (m 79 0)))], [], m) _ (And.intro (z_b01L rfl) (hT.1 [] 6 (D + 3) 252 _ _ (And.intro (z_b01L rfl) (hT.1 [(63, [0, 2, 3, 4, 5, 6, 7])] 6 (D + 4) 253 _ _ (And.intro (fun _ => (hT.1 [(63, [0, 2, 3, 4, 5, 6, 7])] 6 (D + 4) 253 (101, [(0, zr 74), (2, zi (p : Int)), (3, zi (n : Int)), (4, zi l), (5, zi (s : Int)), (6, zi f), (7, zi (k : Int)), (8, zi v), (9, zi 0)], [zi ((s : Int) + 0)], m) _ (And.intro (fun a10 => (z_litF a10 rfl).elim) (fun _ => (And.intro (fun a11 => (hT.1 [(63, [0, 2, 3, 4, 5, 6, 7])] 6 (D + 4) 253 (118, [(0, zr 74), (2, zi (p : Int)), (3, zi (n : Int)), (4, zi l), (5, zi ((s : Int) + 0)), (6, zi f), (7, zi (k : Int)), (8, zi v), (9, zi 0)], [], m) _ (o3 a2 a7 a11))) (fun a12 => (hT.1 [(63, [0, 2, 3, 4, 5, 6, 7])] 6 (D + 4) 253 (114, [(0, zr 74), (2, zi (p : Int)), (3, zi (n : Int)), (4, zi l), (5, zi ((s : Int) + 0)), (6, zi f), (7, zi (k : Int)), (8, zi v), (9, zi 0)], [], m) _ (o4 a2 a7 (Classical.byContradiction a12))))))))) (fun a9 => (a9 (z_litT rfl)).elim)))))))) (fun a8 => (hT.1 [] 6 (D + 2) 186 (10, [(0, zi l), (1, zi v), (2, zi (v + (m 79 0)))], [], m) _ (And.intro (z_b01L rfl) (hT.1 [] 6 (D + 3) 252 _ _ (And.intro (z_b01L rfl) (hT.1 [(63, [0, 2, 3, 4, 5, 6, 7])] 6 (D + 4) 253 _ _ (And.intro (fun a13 => (z_litF a13 rfl).elim) (fun _ => (hT.1 [(63, [0, 2, 3, 4, 5, 6, 7])] 6 (D + 4) 253 (100, [(0, zr 74), (2, zi (p : Int)), (3, zi (n : Int)), (4, zi l), (5, zi (s : Int)), (6, zi f), (7, zi (k : Int)), (8, zi v), (9, zi 1)], [zi 1, zi (s : Int)], m) _ (And.intro (fun _ => (o5 a2 a8)) (fun a14 => (a14 (z_litT rfl)).elim)))))))))))))))))))
theorem zb253_76 (hT : zRules T) {D : Nat} {κ : Option zA → zM → Prop} {m : zM} {p : Nat} {n : Nat} {l : Int} {s : Nat} {f : Int} {k : Nat} {v : Int} {lo : zL} (hlo : z_keep [0, 2, 3, 4, 5, 6, 7] lo = [(0, zr 74), (2, zi (p : Int)), (3, zi (n : Int)), (4, zi l), (5, zi (s : Int)), (6, zi f), (7, zi (k : Int))])  (hB : zB m) (h_p : p ≤ 5) (h_n : n ≤ 60) (h_l : (-2) ≤ l ∧ l ≤ 108) (h_s : s ≤ 60) (h_f : (-1) ≤ f ∧ f ≤ 60) (h_k : k ≤ 60) (h_v : 0 ≤ v ∧ v ≤ 99) 
    (k1 : l < v → ¬ f = (-1) → T (D + 4) 253 (63, [(0, zr 74), (2, zi (p : Int)), (3, zi (n : Int)), (4, zi l), (5, zi ((s : Int) + 0)), (6, zi f), (7, zi ((k : Int) + 1))], [], m) κ)
    (k2 : l < v → f = (-1) → T (D + 4) 253 (63, [(0, zr 74), (2, zi (p : Int)), (3, zi (n : Int)), (4, zi l), (5, zi ((s : Int) + 0)), (6, zi (k : Int)), (7, zi ((k : Int) + 1))], [], m) κ)
    (k3 : ¬ l < v → (v + (m 79 0)) < l → ¬ f = (-1) → T (D + 4) 253 (63, [(0, zr 74), (2, zi (p : Int)), (3, zi (n : Int)), (4, zi l), (5, zi ((s : Int) + 0)), (6, zi f), (7, zi ((k : Int) + 1))], [], m) κ)
    (k4 : ¬ l < v → (v + (m 79 0)) < l → f = (-1) → T (D + 4) 253 (63, [(0, zr 74), (2, zi (p : Int)), (3, zi (n : Int)), (4, zi l), (5, zi ((s : Int) + 0)), (6, zi (k : Int)), (7, zi ((k : Int) + 1))], [], m) κ)
    (k5 : ¬ l < v → ¬ (v + (m 79 0)) < l → T (D + 4) 253 (63, [(0, zr 74), (2, zi (p : Int)), (3, zi (n : Int)), (4, zi l), (5, zi ((s : Int) + 1)), (6, zi f), (7, zi ((k : Int) + 1))], [], m) κ) :
    T (D + 4) 253 (76, lo, [zi v], m) κ := by
  have hb7 : 0 ≤ (m 79 0) ∧ (m 79 0) ≤ 9 := hB 79 0
  have he0 : wr l = l := wr_id (by omega) (by omega)
  have he1 : wr v = v := wr_id (by omega) (by omega)
  have he2 : wr f = f := wr_id (by omega) (by omega)
  have he3 : wr (v + (m 79 0)) = (v + (m 79 0)) := wr_id (by omega) (by omega)
  have key := @zb253_76r T hT D κ m p n l s f k v lo hlo
  simp only [he0, he1, he2, he3, Int.toNat_natCast] at key
  exact key
    k1
    k2
    k3
    k4
    k5
theorem zb138_0r (hT : zRules T) {D : Nat} {κ : Option zA → zM → Prop} {m : zM} {p : Int} {n : Int} 
    (o1 : wr p < 0 → κ (some (zi (-1))) m)
    (o2 : ¬ wr p < 0 → ¬ wr p < wr (m 17 0) → κ (some (zi (-1))) m)
    (o3 : ¬ wr p < 0 → wr p < wr (m 17 0) → wr n < 1 → κ (some (zi (-1))) m)
    (o4 : ¬ wr p < 0 → wr p < wr (m 17 0) → ¬ wr n < 1 → ¬ 60 < wr n → (0 ≤ wr p ∧ wr p < 6))
    (o5 : ¬ wr p < 0 → wr p < wr (m 17 0) → ¬ wr n < 1 → ¬ 60 < wr n → T (D + 5) 180 (0, [(0, zr 1), (1, zi p), (2, zi (m 19 ((wr p).toNat))), (3, zi n)], [], m) (fun r m1 => T (D + 6) 138 (39, [(0, zr 1), (1, zi p), (2, zi n)], r.toList ++ [], m1) κ))
    (o6 : ¬ wr p < 0 → wr p < wr (m 17 0) → ¬ wr n < 1 → 60 < wr n → κ (some (zi (-1))) m) :
    T (D + 6) 138 (0, [(0, zr 1), (1, zi p), (2, zi n)], [], m) κ :=
  hT.1 [] 6 (D + 6) 138 _ κ (hT.1 [] 6 (D + 5) 25 _ _ (And.intro (fun a1 => (And.intro (z_b01L rfl) (hT.1 [] 6 (D + 6) 138 _ _ (And.intro (fun _ => (o1 a1)) (fun a3 => (a3 (z_litT rfl)).elim))))) (fun a2 => (And.intro (fun a4 => (hT.1 [] 6 (D + 5) 25 (16, [(0, zr 17), (1, zi p)], [], m) _ (And.intro (z_b01L rfl) (hT.1 [] 6 (D + 6) 138 _ _ (And.intro (fun _ => (o2 a2 a4)) (fun a6 => (a6 (z_litT rfl)).elim)))))) (fun a5 => (hT.1 [] 6 (D + 5) 25 (12, [(0, zr 17), (1, zi p)], [], m) _ (And.intro (z_b01L rfl) (hT.1 [] 6 (D + 6) 138 _ _ (And.intro (fun a7 => (z_litF a7 rfl).elim) (fun _ => (And.intro (fun a8 => (o3 a2 (Classical.byContradiction a5) a8)) (fun a9 => (hT.1 [] 6 (D + 6) 138 (19, [(0, zr 1), (1, zi p), (2, zi n)], [zi 60, zi n], m) _ (And.intro (fun a10 => (hT.1 [] 6 (D + 6) 138 (33, [(0, zr 1), (1, zi p), (2, zi n)], [zr 19, zi p, zr 1], m) _ (And.intro (o4 a2 (Classical.byContradiction a5) a9 a10) (o5 a2 (Classical.byContradiction a5) a9 a10)))) (fun a11 => (o6 a2 (Classical.byContradiction a5) a9 (Classical.byContradiction a11)))))))))))))))))
theorem zb138_0 (hT : zRules T) {D : Nat} {κ : Option zA → zM → Prop} {m : zM} {p : Int} {n : Int}  (hB : zB m) (h_p : (-2147483648) ≤ p ∧ p ≤ 2147483647) (h_n : (-2147483648) ≤ n ∧ n ≤ 2147483647) 
    (k1 : p < 0 → κ (some (zi (-1))) m)
    (k2 : ¬ p < 0 → ¬ p < (m 17 0) → κ (some (zi (-1))) m)
    (k3 : ¬ p < 0 → p < (m 17 0) → n < 1 → κ (some (zi (-1))) m)
    (k4 : ¬ p < 0 → p < (m 17 0) → ¬ n < 1 → ¬ 60 < n → T (D + 5) 180 (0, [(0, zr 1), (1, zi p), (2, zi (m 19 (p.toNat))), (3, zi n)], [], m) (fun r m1 => T (D + 6) 138 (39, [(0, zr 1), (1, zi p), (2, zi n)], r.toList ++ [], m1) κ))
    (k5 : ¬ p < 0 → p < (m 17 0) → ¬ n < 1 → 60 < n → κ (some (zi (-1))) m) :
    T (D + 6) 138 (0, [(0, zr 1), (1, zi p), (2, zi n)], [], m) κ := by
  have hb2 : 0 ≤ (m 17 0) ∧ (m 17 0) ≤ 6 := hB 17 0
  have hb3 : (-1) ≤ (m 19 (p.toNat)) ∧ (m 19 (p.toNat)) ≤ 3 := hB 19 (p.toNat)
  have he0 : wr p = p := wr_id (by omega) (by omega)
  have he1 : wr (m 17 0) = (m 17 0) := wr_id (by omega) (by omega)
  have he2 : wr n = n := wr_id (by omega) (by omega)
  have key := @zb138_0r T hT D κ m p n
  simp only [he0, he1, he2, Int.toNat_natCast] at key
  exact key
    k1
    k2
    k3
    (fun x0 x1 x2 x3 => by refine ⟨?_, ?_⟩ <;> omega)
    k4
    k5
theorem zb138_39r (hT : zRules T) {D : Nat} {κ : Option zA → zM → Prop} {m : zM} {lo : zL} (hlo : z_keep [0] lo = [(0, zr 1)]) 
    (o1 : T (D + 5) 78 (0, [(0, zr 52), (1, zi (wr (m 24 0)))], [], m) (fun r m1 => T (D + 6) 138 (53, [(0, zr 1)], r.toList ++ [], m1) κ)) :
    T (D + 6) 138 (39, lo, [], m) κ :=
  zkeep hT hlo (hT.1 [] 6 (D + 6) 138 _ κ (hT.1 [] 6 (D + 5) 27 _ _ (And.intro (z_ixL rfl) (hT.1 [] 6 (D + 6) 138 _ _ (o1)))))
theorem zb138_39 (hT : zRules T) {D : Nat} {κ : Option zA → zM → Prop} {m : zM} {lo : zL} (hlo : z_keep [0] lo = [(0, zr 1)])  (hB : zB m) 
    (k1 : T (D + 5) 78 (0, [(0, zr 52), (1, zi (m 24 0))], [], m) (fun r m1 => T (D + 6) 138 (53, [(0, zr 1)], r.toList ++ [], m1) κ)) :
    T (D + 6) 138 (39, lo, [], m) κ := by
  have hb0 : 0 ≤ (m 24 0) ∧ (m 24 0) ≤ 9 := hB 24 0
  have he0 : wr (m 24 0) = (m 24 0) := wr_id (by omega) (by omega)
  have key := @zb138_39r T hT D κ m  lo hlo
  simp only [he0, Int.toNat_natCast] at key
  exact key
    k1
theorem zb138_53r (hT : zRules T) {D : Nat} {κ : Option zA → zM → Prop} {m : zM} {lo : zL} (hlo : z_keep [0] lo = [(0, zr 1)]) 
    (o1 : T (D + 5) 79 (0, [(0, zr 52)], [], m) (fun r m1 => T (D + 6) 138 (60, [(0, zr 1)], r.toList ++ [], m1) κ)) :
    T (D + 6) 138 (53, lo, [], m) κ :=
  zkeep hT hlo (hT.1 [] 6 (D + 6) 138 _ κ (o1))
theorem zb138_53 (hT : zRules T) {D : Nat} {κ : Option zA → zM → Prop} {m : zM} {lo : zL} (hlo : z_keep [0] lo = [(0, zr 1)])  (hB : zB m) 
    (k1 : T (D + 5) 79 (0, [(0, zr 52)], [], m) (fun r m1 => T (D + 6) 138 (60, [(0, zr 1)], r.toList ++ [], m1) κ)) :
    T (D + 6) 138 (53, lo, [], m) κ := by
  exact zb138_53r hT hlo
    k1
theorem zb138_60r (hT : zRules T) {D : Nat} {κ : Option zA → zM → Prop} {m : zM} {f : Nat} {lo : zL} (hlo : z_keep [0] lo = [(0, zr 1)]) 
    (o1 : (0 ≤ wr (f : Int) ∧ wr (f : Int) < 109))
    (o2 : κ (some (zi (wr (f : Int)))) (zu (zu m 72 1 1) 73 0 (m 54 ((wr (f : Int)).toNat)))) :
    T (D + 6) 138 (60, lo, [zi (f : Int)], m) κ :=
  zkeep hT hlo (hT.1 [] 6 (D + 6) 138 _ κ (hT.1 [] 6 (D + 6) 138 (72, [(0, zr 1), (3, zi (f : Int))], [zr 54, zr 72], m) _ (And.intro (o1) (hT.1 [] 6 (D + 5) 45 _ _ (And.intro trivial (hT.1 [] 6 (D + 5) 45 (10, [(0, zr 72), (1, zi (m 54 ((wr (f : Int)).toNat)))], [zi 0, zr 73], (zu m 72 1 1)) _ (And.intro (And.intro (z_ixL rfl) trivial) (hT.1 [] 6 (D + 6) 138 _ _ (o2)))))))))
theorem zb138_60 (hT : zRules T) {D : Nat} {κ : Option zA → zM → Prop} {m : zM} {f : Nat} {lo : zL} (hlo : z_keep [0] lo = [(0, zr 1)])  (hB : zB m) (h_f : f ≤ 108) 
    (k1 : zB (zu (zu m 72 1 1) 73 0 (m 54 f)) → κ (some (zi (f : Int))) (zu (zu m 72 1 1) 73 0 (m 54 f))) :
    T (D + 6) 138 (60, lo, [zi (f : Int)], m) κ := by
  have he0 : wr (f : Int) = (f : Int) := wr_id (by omega) (by omega)
  have he1 : (f : Int).toNat = f := by omega
  have key := @zb138_60r T hT D κ m f lo hlo
  simp only [he0, he1, Int.toNat_natCast] at key
  exact key
    (by refine ⟨?_, ?_⟩ <;> omega)
    (k1  (zB_u (zB_u hB (show 0 ≤ 1 ∧ 1 ≤ 26 from ⟨by omega, by omega⟩)) trivial))
theorem zb254_0r (hT : zRules T) {D : Nat} {κ : Option zA → zM → Prop} {m : zM} {p : Int} {n : Int} 
    (o1 : wr p < 0 → κ (some (zi (-1))) (zu m 74 12 0))
    (o2 : ¬ wr p < 0 → wr ((m 74 4) - 1) < wr p → κ (some (zi (-1))) (zu m 74 12 0))
    (o3 : ¬ wr p < 0 → ¬ wr ((m 74 4) - 1) < wr p → wr n < 1 → κ (some (zi (-1))) (zu m 74 12 0))
    (o4 : ¬ wr p < 0 → ¬ wr ((m 74 4) - 1) < wr p → ¬ wr n < 1 → 60 < wr n → κ (some (zi (-1))) (zu m 74 12 0))
    (o5 : ¬ wr p < 0 → ¬ wr ((m 74 4) - 1) < wr p → ¬ wr n < 1 → ¬ 60 < wr n → T (D + 4) 254 (30, [(0, zr 74), (1, zi p), (2, zi n), (3, zi 0), (4, zi (-1)), (5, zi 0)], [], (zu m 74 12 0)) κ) :
    T (D + 4) 254 (0, [(0, zr 74), (1, zi p), (2, zi n)], [], m) κ :=
  hT.1 [(30, [0, 1, 2, 3, 4, 5]), (43, [0, 1, 2, 3, 4, 5, 6, 7])] 6 (D + 4) 254 _ κ (And.intro trivial (hT.1 [] 6 (D + 3) 190 _ _ (hT.1 [] 6 (D + 3) 190 (8, [(0, zr 74), (1, zi p)], [zi ((m 74 4) - 1), zi 0, zi p], (zu m 74 12 0)) _ (hT.1 [] 6 (D + 2) 186 _ _ (And.intro (fun a1 => (And.intro (z_b01L rfl) (hT.1 [] 6 (D + 3) 190 _ _ (And.intro (z_b01L rfl) (hT.1 [(30, [0, 1, 2, 3, 4, 5]), (43, [0, 1, 2, 3, 4, 5, 6, 7])] 6 (D + 4) 254 _ _ (And.intro (fun _ => (o1 a1)) (fun a3 => (a3 (z_litT rfl)).elim))))))) (fun a2 => (And.intro (fun a4 => (hT.1 [] 6 (D + 2) 186 (14, [(0, zi p), (1, zi 0), (2, zi ((m 74 4) - 1))], [], (zu m 74 12 0)) _ (And.intro (z_b01L rfl) (hT.1 [] 6 (D + 3) 190 _ _ (And.intro (z_b01L rfl) (hT.1 [(30, [0, 1, 2, 3, 4, 5]), (43, [0, 1, 2, 3, 4, 5, 6, 7])] 6 (D + 4) 254 _ _ (And.intro (fun _ => (o2 a2 a4)) (fun a6 => (a6 (z_litT rfl)).elim)))))))) (fun a5 => (hT.1 [] 6 (D + 2) 186 (10, [(0, zi p), (1, zi 0), (2, zi ((m 74 4) - 1))], [], (zu m 74 12 0)) _ (And.intro (z_b01L rfl) (hT.1 [] 6 (D + 3) 190 _ _ (And.intro (z_b01L rfl) (hT.1 [(30, [0, 1, 2, 3, 4, 5]), (43, [0, 1, 2, 3, 4, 5, 6, 7])] 6 (D + 4) 254 _ _ (And.intro (fun a7 => (z_litF a7 rfl).elim) (fun _ => (hT.1 [] 6 (D + 3) 194 _ _ (hT.1 [] 6 (D + 2) 186 _ _ (And.intro (fun a8 => (And.intro (z_b01L rfl) (hT.1 [] 6 (D + 3) 194 _ _ (And.intro (z_b01L rfl) (hT.1 [(30, [0, 1, 2, 3, 4, 5]), (43, [0, 1, 2, 3, 4, 5, 6, 7])] 6 (D + 4) 254 _ _ (And.intro (fun a10 => (z_litF a10 rfl).elim) (fun _ => (o3 a2 a5 a8)))))))) (fun a9 => (And.intro (fun a11 => (hT.1 [] 6 (D + 2) 186 (14, [(0, zi n), (1, zi 1), (2, zi 60)], [], (zu m 74 12 0)) _ (And.intro (z_b01L rfl) (hT.1 [] 6 (D + 3) 194 _ _ (And.intro (z_b01L rfl) (hT.1 [(30, [0, 1, 2, 3, 4, 5]), (43, [0, 1, 2, 3, 4, 5, 6, 7])] 6 (D + 4) 254 _ _ (And.intro (fun a13 => (z_litF a13 rfl).elim) (fun _ => (o4 a2 a5 a9 a11))))))))) (fun a12 => (hT.1 [] 6 (D + 2) 186 (10, [(0, zi n), (1, zi 1), (2, zi 60)], [], (zu m 74 12 0)) _ (And.intro (z_b01L rfl) (hT.1 [] 6 (D + 3) 194 _ _ (And.intro (z_b01L rfl) (hT.1 [(30, [0, 1, 2, 3, 4, 5]), (43, [0, 1, 2, 3, 4, 5, 6, 7])] 6 (D + 4) 254 _ _ (And.intro (fun _ => (hT.1 [(30, [0, 1, 2, 3, 4, 5]), (43, [0, 1, 2, 3, 4, 5, 6, 7])] 6 (D + 4) 254 (28, [(0, zr 74), (1, zi p), (2, zi n), (3, zi 0), (4, zi (-1))], [zi 0], (zu m 74 12 0)) _ (o5 a2 a5 a9 a12))) (fun a14 => (a14 (z_litT rfl)).elim))))))))))))))))))))))))))))
theorem zb254_0 (hT : zRules T) {D : Nat} {κ : Option zA → zM → Prop} {m : zM} {p : Int} {n : Int}  (hB : zB m) (h_p : (-2147483648) ≤ p ∧ p ≤ 2147483647) (h_n : (-2147483648) ≤ n ∧ n ≤ 2147483647) 
    (k1 : p < 0 → zB (zu m 74 12 0) → κ (some (zi (-1))) (zu m 74 12 0))
    (k2 : ¬ p < 0 → ((m 74 4) - 1) < p → zB (zu m 74 12 0) → κ (some (zi (-1))) (zu m 74 12 0))
    (k3 : ¬ p < 0 → ¬ ((m 74 4) - 1) < p → n < 1 → zB (zu m 74 12 0) → κ (some (zi (-1))) (zu m 74 12 0))
    (k4 : ¬ p < 0 → ¬ ((m 74 4) - 1) < p → ¬ n < 1 → 60 < n → zB (zu m 74 12 0) → κ (some (zi (-1))) (zu m 74 12 0))
    (k5 : ¬ p < 0 → ¬ ((m 74 4) - 1) < p → ¬ n < 1 → ¬ 60 < n → zB (zu m 74 12 0) → T (D + 4) 254 (30, [(0, zr 74), (1, zi p), (2, zi n), (3, zi 0), (4, zi (-1)), (5, zi 0)], [], (zu m 74 12 0)) κ) :
    T (D + 4) 254 (0, [(0, zr 74), (1, zi p), (2, zi n)], [], m) κ := by
  have hb2 : 0 ≤ (m 74 4) ∧ (m 74 4) ≤ 6 := hB 74 4
  have he0 : wr p = p := wr_id (by omega) (by omega)
  have he1 : wr ((m 74 4) - 1) = ((m 74 4) - 1) := wr_id (by omega) (by omega)
  have he2 : wr n = n := wr_id (by omega) (by omega)
  have key := @zb254_0r T hT D κ m p n
  simp only [he0, he1, he2, Int.toNat_natCast] at key
  exact key
    (fun x0 => k1 x0 (zB_u hB trivial))
    (fun x0 x1 => k2 x0 x1 (zB_u hB trivial))
    (fun x0 x1 x2 => k3 x0 x1 x2 (zB_u hB trivial))
    (fun x0 x1 x2 x3 => k4 x0 x1 x2 x3 (zB_u hB trivial))
    (fun x0 x1 x2 x3 => k5 x0 x1 x2 x3 (zB_u hB trivial))
theorem zb254_30r (hT : zRules T) {D : Nat} {κ : Option zA → zM → Prop} {m : zM} {p : Nat} {n : Nat} {b : Nat} {m_ : Int} {l : Nat} {lo : zL} (hlo : z_keep [0, 1, 2, 3, 4, 5] lo = [(0, zr 74), (1, zi (p : Int)), (2, zi (n : Int)), (3, zi (b : Int)), (4, zi m_), (5, zi (l : Int))]) 
    (o1 : 108 < wr (l : Int) → κ (some (zi (wr (b : Int)))) (zu (zu (zu m 74 11 0) 81 0 m_) 74 11 1))
    (o2 : ¬ 108 < wr (l : Int) → T (D + 4) 254 (43, [(0, zr 74), (1, zi (p : Int)), (2, zi (n : Int)), (3, zi (b : Int)), (4, zi m_), (5, zi (l : Int)), (6, zi 0), (7, zi 0)], [], m) κ) :
    T (D + 4) 254 (30, lo, [], m) κ :=
  zkeep hT hlo (hT.1 [(30, [0, 1, 2, 3, 4, 5]), (43, [0, 1, 2, 3, 4, 5, 6, 7])] 6 (D + 4) 254 _ κ (And.intro (fun a1 => (And.intro trivial (hT.1 [(30, [0, 1, 2, 3, 4, 5]), (43, [0, 1, 2, 3, 4, 5, 6, 7])] 6 (D + 4) 254 (109, [(0, zr 74), (1, zi (p : Int)), (2, zi (n : Int)), (3, zi (b : Int)), (4, zi m_), (5, zi (l : Int))], [], (zu m 74 11 0)) _ (hT.1 [] 6 (D + 3) 189 _ _ (And.intro (And.intro (z_ixL rfl) trivial) (hT.1 [] 6 (D + 3) 189 (10, [(0, zr 74), (1, zi m_)], [], (zu (zu m 74 11 0) 81 0 m_)) _ (And.intro trivial (hT.1 [] 6 (D + 3) 189 (20, [(0, zr 74), (1, zi m_)], [], (zu (zu (zu m 74 11 0) 81 0 m_) 74 11 1)) _ (hT.1 [(30, [0, 1, 2, 3, 4, 5]), (43, [0, 1, 2, 3, 4, 5, 6, 7])] 6 (D + 4) 254 _ _ (o1 a1)))))))))) (fun a2 => (hT.1 [(30, [0, 1, 2, 3, 4, 5]), (43, [0, 1, 2, 3, 4, 5, 6, 7])] 6 (D + 4) 254 (41, [(0, zr 74), (1, zi (p : Int)), (2, zi (n : Int)), (3, zi (b : Int)), (4, zi m_), (5, zi (l : Int)), (6, zi 0)], [zi 0], m) _ (o2 a2)))))
theorem zb254_30 (hT : zRules T) {D : Nat} {κ : Option zA → zM → Prop} {m : zM} {p : Nat} {n : Nat} {b : Nat} {m_ : Int} {l : Nat} {lo : zL} (hlo : z_keep [0, 1, 2, 3, 4, 5] lo = [(0, zr 74), (1, zi (p : Int)), (2, zi (n : Int)), (3, zi (b : Int)), (4, zi m_), (5, zi (l : Int))])  (hB : zB m) (h_p : p ≤ 5) (h_n : n ≤ 60) (h_b : b ≤ 108) (h_m_ : (-1) ≤ m_ ∧ m_ ≤ 60) (h_l : l ≤ 109) 
    (k1 : 108 < (l : Int) → zB (zu (zu (zu m 74 11 0) 81 0 m_) 74 11 1) → κ (some (zi (b : Int))) (zu (zu (zu m 74 11 0) 81 0 m_) 74 11 1))
    (k2 : ¬ 108 < (l : Int) → T (D + 4) 254 (43, [(0, zr 74), (1, zi (p : Int)), (2, zi (n : Int)), (3, zi (b : Int)), (4, zi m_), (5, zi (l : Int)), (6, zi 0), (7, zi 0)], [], m) κ) :
    T (D + 4) 254 (30, lo, [], m) κ := by
  have he0 : wr (l : Int) = (l : Int) := wr_id (by omega) (by omega)
  have he1 : wr (b : Int) = (b : Int) := wr_id (by omega) (by omega)
  have key := @zb254_30r T hT D κ m p n b m_ l lo hlo
  simp only [he0, he1, Int.toNat_natCast] at key
  exact key
    (fun x0 => k1 x0 (zB_u (zB_u (zB_u hB (show 0 ≤ 0 ∧ 0 ≤ 32 from ⟨by omega, by omega⟩)) trivial) (show 0 ≤ 1 ∧ 1 ≤ 32 from ⟨by omega, by omega⟩)))
    k2
theorem zb254_43r (hT : zRules T) {D : Nat} {κ : Option zA → zM → Prop} {m : zM} {p : Nat} {n : Nat} {b : Nat} {m_ : Int} {l : Nat} {s : Nat} {k : Nat} {lo : zL} (hlo : z_keep [0, 1, 2, 3, 4, 5, 6, 7] lo = [(0, zr 74), (1, zi (p : Int)), (2, zi (n : Int)), (3, zi (b : Int)), (4, zi m_), (5, zi (l : Int)), (6, zi (s : Int)), (7, zi (k : Int))]) 
    (o1 : ¬ wr (k : Int) < wr (n : Int) → wr m_ < wr (s : Int) → T (D + 4) 254 (30, [(0, zr 74), (1, zi (p : Int)), (2, zi (n : Int)), (3, zi (l : Int)), (4, zi (s : Int)), (5, zi ((l : Int) + 1))], [], m) κ)
    (o2 : ¬ wr (k : Int) < wr (n : Int) → ¬ wr m_ < wr (s : Int) → T (D + 4) 254 (30, [(0, zr 74), (1, zi (p : Int)), (2, zi (n : Int)), (3, zi (b : Int)), (4, zi m_), (5, zi ((l : Int) + 1))], [], m) κ)
    (o3 : wr (k : Int) < wr (n : Int) → T (D + 3) 216 (0, [(0, zr 74), (1, zi (p : Int)), (2, zi (k : Int))], [], m) (fun r m1 => T (D + 4) 254 (61, [(0, zr 74), (1, zi (p : Int)), (2, zi (n : Int)), (3, zi (b : Int)), (4, zi m_), (5, zi (l : Int)), (6, zi (s : Int)), (7, zi (k : Int))], r.toList ++ [zi (l : Int), zr 74, zi (s : Int)], m1) κ)) :
    T (D + 4) 254 (43, lo, [], m) κ :=
  zkeep hT hlo (hT.1 [(30, [0, 1, 2, 3, 4, 5]), (43, [0, 1, 2, 3, 4, 5, 6, 7])] 6 (D + 4) 254 _ κ (And.intro (fun a1 => (And.intro (fun a3 => (hT.1 [(30, [0, 1, 2, 3, 4, 5]), (43, [0, 1, 2, 3, 4, 5, 6, 7])] 6 (D + 4) 254 (91, [(0, zr 74), (1, zi (p : Int)), (2, zi (n : Int)), (3, zi (b : Int)), (4, zi m_), (5, zi (l : Int)), (6, zi (s : Int)), (7, zi (k : Int))], [], m) _ (o1 a1 a3))) (fun a4 => (hT.1 [(30, [0, 1, 2, 3, 4, 5]), (43, [0, 1, 2, 3, 4, 5, 6, 7])] 6 (D + 4) 254 (88, [(0, zr 74), (1, zi (p : Int)), (2, zi (n : Int)), (3, zi (b : Int)), (4, zi m_), (5, zi (l : Int)), (6, zi (s : Int)), (7, zi (k : Int))], [], m) _ (o2 a1 a4))))) (fun a2 => (hT.1 [(30, [0, 1, 2, 3, 4, 5]), (43, [0, 1, 2, 3, 4, 5, 6, 7])] 6 (D + 4) 254 (54, [(0, zr 74), (1, zi (p : Int)), (2, zi (n : Int)), (3, zi (b : Int)), (4, zi m_), (5, zi (l : Int)), (6, zi (s : Int)), (7, zi (k : Int))], [zi (l : Int), zr 74, zi (s : Int)], m) _ (o3 (Classical.byContradiction a2))))))
theorem zb254_43 (hT : zRules T) {D : Nat} {κ : Option zA → zM → Prop} {m : zM} {p : Nat} {n : Nat} {b : Nat} {m_ : Int} {l : Nat} {s : Nat} {k : Nat} {lo : zL} (hlo : z_keep [0, 1, 2, 3, 4, 5, 6, 7] lo = [(0, zr 74), (1, zi (p : Int)), (2, zi (n : Int)), (3, zi (b : Int)), (4, zi m_), (5, zi (l : Int)), (6, zi (s : Int)), (7, zi (k : Int))])  (hB : zB m) (h_p : p ≤ 5) (h_n : n ≤ 60) (h_b : b ≤ 108) (h_m_ : (-1) ≤ m_ ∧ m_ ≤ 60) (h_l : l ≤ 108) (h_s : s ≤ 60) (h_k : k ≤ 60) 
    (k1 : ¬ (k : Int) < (n : Int) → m_ < (s : Int) → T (D + 4) 254 (30, [(0, zr 74), (1, zi (p : Int)), (2, zi (n : Int)), (3, zi (l : Int)), (4, zi (s : Int)), (5, zi ((l : Int) + 1))], [], m) κ)
    (k2 : ¬ (k : Int) < (n : Int) → ¬ m_ < (s : Int) → T (D + 4) 254 (30, [(0, zr 74), (1, zi (p : Int)), (2, zi (n : Int)), (3, zi (b : Int)), (4, zi m_), (5, zi ((l : Int) + 1))], [], m) κ)
    (k3 : (k : Int) < (n : Int) → T (D + 3) 216 (0, [(0, zr 74), (1, zi (p : Int)), (2, zi (k : Int))], [], m) (fun r m1 => T (D + 4) 254 (61, [(0, zr 74), (1, zi (p : Int)), (2, zi (n : Int)), (3, zi (b : Int)), (4, zi m_), (5, zi (l : Int)), (6, zi (s : Int)), (7, zi (k : Int))], r.toList ++ [zi (l : Int), zr 74, zi (s : Int)], m1) κ)) :
    T (D + 4) 254 (43, lo, [], m) κ := by
  have he0 : wr (k : Int) = (k : Int) := wr_id (by omega) (by omega)
  have he1 : wr (n : Int) = (n : Int) := wr_id (by omega) (by omega)
  have he2 : wr m_ = m_ := wr_id (by omega) (by omega)
  have he3 : wr (s : Int) = (s : Int) := wr_id (by omega) (by omega)
  have key := @zb254_43r T hT D κ m p n b m_ l s k lo hlo
  simp only [he0, he1, he2, he3, Int.toNat_natCast] at key
  exact key
    k1
    k2
    k3
theorem zb254_61r (hT : zRules T) {D : Nat} {κ : Option zA → zM → Prop} {m : zM} {p : Nat} {n : Nat} {b : Nat} {m_ : Int} {l : Nat} {s : Nat} {k : Nat} {v : Int} {lo : zL} (hlo : z_keep [0, 1, 2, 3, 4, 5, 7] lo = [(0, zr 74), (1, zi (p : Int)), (2, zi (n : Int)), (3, zi (b : Int)), (4, zi m_), (5, zi (l : Int)), (7, zi (k : Int))]) 
    (o1 : wr (l : Int) < wr v → T (D + 4) 254 (43, [(0, zr 74), (1, zi (p : Int)), (2, zi (n : Int)), (3, zi (b : Int)), (4, zi m_), (5, zi (l : Int)), (6, zi ((s : Int) + 0)), (7, zi ((k : Int) + 1))], [], m) κ)
    (o2 : ¬ wr (l : Int) < wr v → wr (v + (m 79 0)) < wr (l : Int) → T (D + 4) 254 (43, [(0, zr 74), (1, zi (p : Int)), (2, zi (n : Int)), (3, zi (b : Int)), (4, zi m_), (5, zi (l : Int)), (6, zi ((s : Int) + 0)), (7, zi ((k : Int) + 1))], [], m) κ)
    (o3 : ¬ wr (l : Int) < wr v → ¬ wr (v + (m 79 0)) < wr (l : Int) → T (D + 4) 254 (43, [(0, zr 74), (1, zi (p : Int)), (2, zi (n : Int)), (3, zi (b : Int)), (4, zi m_), (5, zi (l : Int)), (6, zi ((s : Int) + 1)), (7, zi ((k : Int) + 1))], [], m) κ) :
    T (D + 4) 254 (61, lo, [zi v, zi (l : Int), zr 74, zi (s : Int)], m) κ :=
  zkeep hT hlo (hT.1 [(30, [0, 1, 2, 3, 4, 5]), (43, [0, 1, 2, 3, 4, 5, 6, 7])] 6 (D + 4) 254 _ κ (hT.1 [] 6 (D + 3) 252 _ _ (hT.1 [] 6 (D + 3) 252 (8, [(0, zr 74), (1, zi (l : Int)), (2, zi v)], [zi 0, zr 79, zi v, zi v, zi (l : Int)], m) _ (And.intro (z_ixL rfl) (hT.1 [] 6 (D + 2) 186 _ _ (And.intro (fun a1 => (And.intro (z_b01L rfl) (hT.1 [] 6 (D + 3) 252 _ _ (And.intro (z_b01L rfl) (hT.1 [(30, [0, 1, 2, 3, 4, 5]), (43, [0, 1, 2, 3, 4, 5, 6, 7])] 6 (D + 4) 254 _ _ (And.intro (fun _ => (o1 a1)) (fun a3 => (a3 (z_litT rfl)).elim))))))) (fun a2 => (And.intro (fun a4 => (hT.1 [] 6 (D + 2) 186 (14, [(0, zi (l : Int)), (1, zi v), (2, zi (v + (m 79 0)))], [], m) _ (And.intro (z_b01L rfl) (hT.1 [] 6 (D + 3) 252 _ _ (And.intro (z_b01L rfl) (hT.1 [(30, [0, 1, 2, 3, 4, 5]), (43, [0, 1, 2, 3, 4, 5, 6, 7])] 6 (D + 4) 254 _ _ (And.intro (fun _ => (o2 a2 a4)) (fun a6 => (a6 (z_litT rfl)).elim)))))))) (fun a5 => (hT.1 [] 6 (D + 2) 186 (10, [(0, zi (l : Int)), (1, zi v), (2, zi (v + (m 79 0)))], [], m) _ (And.intro (z_b01L rfl) (hT.1 [] 6 (D + 3) 252 _ _ (And.intro (z_b01L rfl) (hT.1 [(30, [0, 1, 2, 3, 4, 5]), (43, [0, 1, 2, 3, 4, 5, 6, 7])] 6 (D + 4) 254 _ _ (And.intro (fun a7 => (z_litF a7 rfl).elim) (fun _ => (hT.1 [(30, [0, 1, 2, 3, 4, 5]), (43, [0, 1, 2, 3, 4, 5, 6, 7])] 6 (D + 4) 254 (78, [(0, zr 74), (1, zi (p : Int)), (2, zi (n : Int)), (3, zi (b : Int)), (4, zi m_), (5, zi (l : Int)), (6, zi ((s : Int) + 1)), (7, zi ((k : Int) + 1))], [], m) _ (o3 a2 a5))))))))))))))))))
theorem zb254_61 (hT : zRules T) {D : Nat} {κ : Option zA → zM → Prop} {m : zM} {p : Nat} {n : Nat} {b : Nat} {m_ : Int} {l : Nat} {s : Nat} {k : Nat} {v : Int} {lo : zL} (hlo : z_keep [0, 1, 2, 3, 4, 5, 7] lo = [(0, zr 74), (1, zi (p : Int)), (2, zi (n : Int)), (3, zi (b : Int)), (4, zi m_), (5, zi (l : Int)), (7, zi (k : Int))])  (hB : zB m) (h_p : p ≤ 5) (h_n : n ≤ 60) (h_b : b ≤ 108) (h_m_ : (-1) ≤ m_ ∧ m_ ≤ 60) (h_l : l ≤ 108) (h_s : s ≤ 60) (h_k : k ≤ 60) (h_v : 0 ≤ v ∧ v ≤ 99) 
    (k1 : (l : Int) < v → T (D + 4) 254 (43, [(0, zr 74), (1, zi (p : Int)), (2, zi (n : Int)), (3, zi (b : Int)), (4, zi m_), (5, zi (l : Int)), (6, zi ((s : Int) + 0)), (7, zi ((k : Int) + 1))], [], m) κ)
    (k2 : ¬ (l : Int) < v → (v + (m 79 0)) < (l : Int) → T (D + 4) 254 (43, [(0, zr 74), (1, zi (p : Int)), (2, zi (n : Int)), (3, zi (b : Int)), (4, zi m_), (5, zi (l : Int)), (6, zi ((s : Int) + 0)), (7, zi ((k : Int) + 1))], [], m) κ)
    (k3 : ¬ (l : Int) < v → ¬ (v + (m 79 0)) < (l : Int) → T (D + 4) 254 (43, [(0, zr 74), (1, zi (p : Int)), (2, zi (n : Int)), (3, zi (b : Int)), (4, zi m_), (5, zi (l : Int)), (6, zi ((s : Int) + 1)), (7, zi ((k : Int) + 1))], [], m) κ) :
    T (D + 4) 254 (61, lo, [zi v, zi (l : Int), zr 74, zi (s : Int)], m) κ := by
  have hb8 : 0 ≤ (m 79 0) ∧ (m 79 0) ≤ 9 := hB 79 0
  have he0 : wr (l : Int) = (l : Int) := wr_id (by omega) (by omega)
  have he1 : wr v = v := wr_id (by omega) (by omega)
  have he2 : wr (v + (m 79 0)) = (v + (m 79 0)) := wr_id (by omega) (by omega)
  have key := @zb254_61r T hT D κ m p n b m_ l s k v lo hlo
  simp only [he0, he1, he2, Int.toNat_natCast] at key
  exact key
    k1
    k2
    k3
theorem zb139_0r (hT : zRules T) {D : Nat} {κ : Option zA → zM → Prop} {m : zM} {n : Int} 
    (o1 : wr n < 0 → κ (some (zi (-1))) m)
    (o2 : ¬ wr n < 0 → ¬ 99 < wr n → T (D + 5) 139 (16, [(0, zr 1), (1, zi n), (2, zi 0), (3, zi 0)], [], m) κ)
    (o3 : ¬ wr n < 0 → 99 < wr n → κ (some (zi (-1))) m) :
    T (D + 5) 139 (0, [(0, zr 1), (1, zi n)], [], m) κ :=
  hT.1 [(16, [0, 1, 2, 3])] 6 (D + 5) 139 _ κ (And.intro (fun a1 => (o1 a1)) (fun a2 => (And.intro (fun a3 => (hT.1 [(16, [0, 1, 2, 3])] 6 (D + 5) 139 (13, [(0, zr 1), (1, zi n)], [zi 0], m) _ (o2 a2 a3))) (fun a4 => (hT.1 [(16, [0, 1, 2, 3])] 6 (D + 5) 139 (11, [(0, zr 1), (1, zi n)], [zi (-1)], m) _ (o3 a2 (Classical.byContradiction a4)))))))
theorem zb139_0 (hT : zRules T) {D : Nat} {κ : Option zA → zM → Prop} {m : zM} {n : Int}  (hB : zB m) (h_n : (-2147483648) ≤ n ∧ n ≤ 2147483647) 
    (k1 : n < 0 → κ (some (zi (-1))) m)
    (k2 : ¬ n < 0 → ¬ 99 < n → T (D + 5) 139 (16, [(0, zr 1), (1, zi n), (2, zi 0), (3, zi 0)], [], m) κ)
    (k3 : ¬ n < 0 → 99 < n → κ (some (zi (-1))) m) :
    T (D + 5) 139 (0, [(0, zr 1), (1, zi n)], [], m) κ := by
  have he0 : wr n = n := wr_id (by omega) (by omega)
  have key := @zb139_0r T hT D κ m n
  simp only [he0, Int.toNat_natCast] at key
  exact key
    k1
    k2
    k3
theorem zb139_16r (hT : zRules T) {D : Nat} {κ : Option zA → zM → Prop} {m : zM} {n : Nat} {b : Int} {p : Nat} {lo : zL} (hlo : z_keep [0, 1, 2, 3] lo = [(0, zr 1), (1, zi (n : Int)), (2, zi b), (3, zi (p : Int))]) 
    (o1 : ¬ wr (p : Int) < wr (m 17 0) → κ (some (zi (wr b))) m)
    (o2 : wr (p : Int) < wr (m 17 0) → (0 ≤ wr (p : Int) ∧ wr (p : Int) < 6))
    (o3 : wr (p : Int) < wr (m 17 0) → T (D + 4) 169 (0, [(0, zr 1), (1, zi (p : Int)), (2, zi (m 19 ((wr (p : Int)).toNat))), (3, zi ((m 17 11) + (n : Int)))], [], m) (fun r m1 => T (D + 5) 139 (50, [(0, zr 1), (1, zi (n : Int)), (2, zi b), (3, zi (p : Int))], r.toList ++ [], m1) κ)) :
    T (D + 5) 139 (16, lo, [], m) κ :=
  zkeep hT hlo (hT.1 [(16, [0, 1, 2, 3])] 6 (D + 5) 139 _ κ (And.intro (fun a1 => (hT.1 [(16, [0, 1, 2, 3])] 6 (D + 5) 139 (71, [(0, zr 1), (1, zi (n : Int)), (2, zi b), (3, zi (p : Int))], [zi b], m) _ (o1 a1))) (fun a2 => (hT.1 [(16, [0, 1, 2, 3])] 6 (D + 5) 139 (28, [(0, zr 1), (1, zi (n : Int)), (2, zi b), (3, zi (p : Int))], [zr 1], m) _ (And.intro (o2 (Classical.byContradiction a2)) (hT.1 [(16, [0, 1, 2, 3])] 6 (D + 5) 139 (38, [(0, zr 1), (1, zi (n : Int)), (2, zi b), (3, zi (p : Int))], [zi (m 19 ((wr (p : Int)).toNat)), zi (p : Int), zr 1], m) _ (o3 (Classical.byContradiction a2))))))))
theorem zb139_16 (hT : zRules T) {D : Nat} {κ : Option zA → zM → Prop} {m : zM} {n : Nat} {b : Int} {p : Nat} {lo : zL} (hlo : z_keep [0, 1, 2, 3] lo = [(0, zr 1), (1, zi (n : Int)), (2, zi b), (3, zi (p : Int))])  (hB : zB m) (h_n : n ≤ 99) (h_b : 0 ≤ b ∧ b ≤ 63) (h_p : p ≤ 6) 
    (k1 : ¬ (p : Int) < (m 17 0) → κ (some (zi b)) m)
    (k2 : (p : Int) < (m 17 0) → T (D + 4) 169 (0, [(0, zr 1), (1, zi (p : Int)), (2, zi (m 19 p)), (3, zi ((m 17 11) + (n : Int)))], [], m) (fun r m1 => T (D + 5) 139 (50, [(0, zr 1), (1, zi (n : Int)), (2, zi b), (3, zi (p : Int))], r.toList ++ [], m1) κ)) :
    T (D + 5) 139 (16, lo, [], m) κ := by
  have hb3 : 0 ≤ (m 17 0) ∧ (m 17 0) ≤ 6 := hB 17 0
  have hb4 : (-1) ≤ (m 19 p) ∧ (m 19 p) ≤ 3 := hB 19 p
  have hb5 : 0 ≤ (m 17 11) ∧ (m 17 11) ≤ 400000 := hB 17 11
  have he0 : wr (p : Int) = (p : Int) := wr_id (by omega) (by omega)
  have he1 : wr (m 17 0) = (m 17 0) := wr_id (by omega) (by omega)
  have he2 : (p : Int).toNat = p := by omega
  have he3 : wr b = b := wr_id (by omega) (by omega)
  have key := @zb139_16r T hT D κ m n b p lo hlo
  simp only [he0, he1, he2, he3, Int.toNat_natCast] at key
  exact key
    k1
    (fun x0 => by refine ⟨?_, ?_⟩ <;> omega)
    k2
theorem zb139_50r (hT : zRules T) {D : Nat} {κ : Option zA → zM → Prop} {m : zM} {n : Nat} {b : Int} {p : Nat} {v : Int} {lo : zL} (hlo : z_keep [0, 1, 2, 3] lo = [(0, zr 1), (1, zi (n : Int)), (2, zi b), (3, zi (p : Int))]) 
    (o1 : T (D + 4) 171 (0, [(0, zr 1), (1, zi (p : Int))], [], m) (fun r m1 => T (D + 5) 139 (55, [(0, zr 1), (1, zi (n : Int)), (2, zi b), (3, zi (p : Int))], r.toList ++ [zi v], m1) κ)) :
    T (D + 5) 139 (50, lo, [zi v], m) κ :=
  zkeep hT hlo (hT.1 [(16, [0, 1, 2, 3])] 6 (D + 5) 139 _ κ (o1))
theorem zb139_50 (hT : zRules T) {D : Nat} {κ : Option zA → zM → Prop} {m : zM} {n : Nat} {b : Int} {p : Nat} {v : Int} {lo : zL} (hlo : z_keep [0, 1, 2, 3] lo = [(0, zr 1), (1, zi (n : Int)), (2, zi b), (3, zi (p : Int))])  (hB : zB m) (h_n : n ≤ 99) (h_b : 0 ≤ b ∧ b ≤ 63) (h_p : p ≤ 5) (h_v : 0 ≤ v ∧ v ≤ 99) 
    (k1 : T (D + 4) 171 (0, [(0, zr 1), (1, zi (p : Int))], [], m) (fun r m1 => T (D + 5) 139 (55, [(0, zr 1), (1, zi (n : Int)), (2, zi b), (3, zi (p : Int))], r.toList ++ [zi v], m1) κ)) :
    T (D + 5) 139 (50, lo, [zi v], m) κ := by
  exact zb139_50r hT hlo
    k1
theorem zb139_55r (hT : zRules T) {D : Nat} {κ : Option zA → zM → Prop} {m : zM} {n : Nat} {b : Int} {p : Nat} {v : Int} {w : Int} {lo : zL} (hlo : z_keep [0, 1, 2, 3] lo = [(0, zr 1), (1, zi (n : Int)), (2, zi b), (3, zi (p : Int))]) 
    (o1 : ¬ wr v = wr w → T (D + 5) 139 (16, [(0, zr 1), (1, zi (n : Int)), (2, zi b), (3, zi ((p : Int) + 1))], [], m) κ)
    (o2 : wr v = wr w → T (D + 5) 139 (16, [(0, zr 1), (1, zi (n : Int)), (2, zi (z_or b (z_shl 1 (p : Int)))), (3, zi ((p : Int) + 1))], [], m) κ) :
    T (D + 5) 139 (55, lo, [zi w, zi v], m) κ :=
  zkeep hT hlo (hT.1 [(16, [0, 1, 2, 3])] 6 (D + 5) 139 _ κ (And.intro (fun a1 => (o1 a1)) (fun a2 => (hT.1 [(16, [0, 1, 2, 3])] 6 (D + 5) 139 (63, [(0, zr 1), (1, zi (n : Int)), (2, zi b), (3, zi (p : Int))], [zi (z_or b (z_shl 1 (p : Int)))], m) _ (o2 (Classical.byContradiction a2))))))
theorem zb139_55 (hT : zRules T) {D : Nat} {κ : Option zA → zM → Prop} {m : zM} {n : Nat} {b : Int} {p : Nat} {v : Int} {w : Int} {lo : zL} (hlo : z_keep [0, 1, 2, 3] lo = [(0, zr 1), (1, zi (n : Int)), (2, zi b), (3, zi (p : Int))])  (hB : zB m) (h_n : n ≤ 99) (h_b : 0 ≤ b ∧ b ≤ 63) (h_p : p ≤ 5) (h_v : 0 ≤ v ∧ v ≤ 99) (h_w : 0 ≤ w ∧ w ≤ 99) 
    (k1 : ¬ v = w → T (D + 5) 139 (16, [(0, zr 1), (1, zi (n : Int)), (2, zi b), (3, zi ((p : Int) + 1))], [], m) κ)
    (k2 : v = w → T (D + 5) 139 (16, [(0, zr 1), (1, zi (n : Int)), (2, zi (z_or b (z_shl 1 (p : Int)))), (3, zi ((p : Int) + 1))], [], m) κ) :
    T (D + 5) 139 (55, lo, [zi w, zi v], m) κ := by
  have hb5 : (-2147483648) ≤ (z_shl 1 (p : Int)) ∧ (z_shl 1 (p : Int)) ≤ 2147483647 := z_shlB 1 (p : Int)
  have hb6 : (-2147483648) ≤ (z_or b (z_shl 1 (p : Int))) ∧ (z_or b (z_shl 1 (p : Int))) ≤ 2147483647 := z_orB b (z_shl 1 (p : Int))
  have he0 : wr v = v := wr_id (by omega) (by omega)
  have he1 : wr w = w := wr_id (by omega) (by omega)
  have key := @zb139_55r T hT D κ m n b p v w lo hlo
  simp only [he0, he1, Int.toNat_natCast] at key
  exact key
    k1
    k2
theorem zb255_0r (hT : zRules T) {D : Nat} {κ : Option zA → zM → Prop} {m : zM} {n : Int} 
    (o1 : wr n < 0 → κ (some (zi (-1))) (zu m 74 12 0))
    (o2 : ¬ wr n < 0 → 99 < wr n → κ (some (zi (-1))) (zu m 74 12 0))
    (o3 : ¬ wr n < 0 → ¬ 99 < wr n → T (D + 3) 255 (21, [(0, zr 74), (1, zi n), (2, zi 0), (3, zi 0)], [], (zu m 74 12 0)) κ) :
    T (D + 3) 255 (0, [(0, zr 74), (1, zi n)], [], m) κ :=
  hT.1 [(21, [0, 1, 2, 3])] 6 (D + 3) 255 _ κ (And.intro trivial (hT.1 [(21, [0, 1, 2, 3])] 6 (D + 3) 255 (9, [(0, zr 74), (1, zi n)], [zi 99, zi 0, zi n], (zu m 74 12 0)) _ (hT.1 [] 6 (D + 2) 186 _ _ (And.intro (fun a1 => (And.intro (z_b01L rfl) (hT.1 [(21, [0, 1, 2, 3])] 6 (D + 3) 255 _ _ (And.intro (fun a3 => (z_litF a3 rfl).elim) (fun _ => (o1 a1)))))) (fun a2 => (And.intro (fun a4 => (hT.1 [] 6 (D + 2) 186 (14, [(0, zi n), (1, zi 0), (2, zi 99)], [], (zu m 74 12 0)) _ (And.intro (z_b01L rfl) (hT.1 [(21, [0, 1, 2, 3])] 6 (D + 3) 255 _ _ (And.intro (fun a6 => (z_litF a6 rfl).elim) (fun _ => (o2 a2 a4))))))) (fun a5 => (hT.1 [] 6 (D + 2) 186 (10, [(0, zi n), (1, zi 0), (2, zi 99)], [], (zu m 74 12 0)) _ (And.intro (z_b01L rfl) (hT.1 [(21, [0, 1, 2, 3])] 6 (D + 3) 255 _ _ (And.intro (fun _ => (o3 a2 a5)) (fun a7 => (a7 (z_litT rfl)).elim))))))))))))
theorem zb255_0 (hT : zRules T) {D : Nat} {κ : Option zA → zM → Prop} {m : zM} {n : Int}  (hB : zB m) (h_n : (-2147483648) ≤ n ∧ n ≤ 2147483647) 
    (k1 : n < 0 → zB (zu m 74 12 0) → κ (some (zi (-1))) (zu m 74 12 0))
    (k2 : ¬ n < 0 → 99 < n → zB (zu m 74 12 0) → κ (some (zi (-1))) (zu m 74 12 0))
    (k3 : ¬ n < 0 → ¬ 99 < n → zB (zu m 74 12 0) → T (D + 3) 255 (21, [(0, zr 74), (1, zi n), (2, zi 0), (3, zi 0)], [], (zu m 74 12 0)) κ) :
    T (D + 3) 255 (0, [(0, zr 74), (1, zi n)], [], m) κ := by
  have he0 : wr n = n := wr_id (by omega) (by omega)
  have key := @zb255_0r T hT D κ m n
  simp only [he0, Int.toNat_natCast] at key
  exact key
    (fun x0 => k1 x0 (zB_u hB trivial))
    (fun x0 x1 => k2 x0 x1 (zB_u hB trivial))
    (fun x0 x1 => k3 x0 x1 (zB_u hB trivial))
theorem zb255_21r (hT : zRules T) {D : Nat} {κ : Option zA → zM → Prop} {m : zM} {n : Nat} {b : Int} {p : Nat} {lo : zL} (hlo : z_keep [0, 1, 2, 3] lo = [(0, zr 74), (1, zi (n : Int)), (2, zi b), (3, zi (p : Int))]) 
    (o1 : ¬ wr (p : Int) < wr (m 74 4) → κ (some (zi (wr b))) m)
    (o2 : wr (p : Int) < wr (m 74 4) → T (D + 2) 216 (0, [(0, zr 74), (1, zi (p : Int)), (2, zi (n : Int))], [], m) (fun r m1 => T (D + 3) 255 (36, [(0, zr 74), (1, zi (n : Int)), (2, zi b), (3, zi (p : Int))], r.toList ++ [zi b], m1) κ)) :
    T (D + 3) 255 (21, lo, [], m) κ :=
  zkeep hT hlo (hT.1 [(21, [0, 1, 2, 3])] 6 (D + 3) 255 _ κ (And.intro (fun a1 => (o1 a1)) (fun a2 => (hT.1 [(21, [0, 1, 2, 3])] 6 (D + 3) 255 (31, [(0, zr 74), (1, zi (n : Int)), (2, zi b), (3, zi (p : Int))], [zr 74, zi b], m) _ (o2 (Classical.byContradiction a2))))))
theorem zb255_21 (hT : zRules T) {D : Nat} {κ : Option zA → zM → Prop} {m : zM} {n : Nat} {b : Int} {p : Nat} {lo : zL} (hlo : z_keep [0, 1, 2, 3] lo = [(0, zr 74), (1, zi (n : Int)), (2, zi b), (3, zi (p : Int))])  (hB : zB m) (h_n : n ≤ 99) (h_b : 0 ≤ b ∧ b ≤ 63) (h_p : p ≤ 6) 
    (k1 : ¬ (p : Int) < (m 74 4) → κ (some (zi b)) m)
    (k2 : (p : Int) < (m 74 4) → T (D + 2) 216 (0, [(0, zr 74), (1, zi (p : Int)), (2, zi (n : Int))], [], m) (fun r m1 => T (D + 3) 255 (36, [(0, zr 74), (1, zi (n : Int)), (2, zi b), (3, zi (p : Int))], r.toList ++ [zi b], m1) κ)) :
    T (D + 3) 255 (21, lo, [], m) κ := by
  have hb3 : 0 ≤ (m 74 4) ∧ (m 74 4) ≤ 6 := hB 74 4
  have he0 : wr (p : Int) = (p : Int) := wr_id (by omega) (by omega)
  have he1 : wr (m 74 4) = (m 74 4) := wr_id (by omega) (by omega)
  have he2 : wr b = b := wr_id (by omega) (by omega)
  have key := @zb255_21r T hT D κ m n b p lo hlo
  simp only [he0, he1, he2, Int.toNat_natCast] at key
  exact key
    k1
    k2
theorem zb255_36r (hT : zRules T) {D : Nat} {κ : Option zA → zM → Prop} {m : zM} {n : Nat} {b : Int} {p : Nat} {v : Int} {lo : zL} (hlo : z_keep [0, 1, 3] lo = [(0, zr 74), (1, zi (n : Int)), (3, zi (p : Int))]) 
    (o1 : T (D + 2) 216 (0, [(0, zr 74), (1, zi (p : Int)), (2, zi 0)], [], m) (fun r m1 => T (D + 3) 255 (42, [(0, zr 74), (1, zi (n : Int)), (3, zi (p : Int))], r.toList ++ [zi v, zi b], m1) κ)) :
    T (D + 3) 255 (36, lo, [zi v, zi b], m) κ :=
  zkeep hT hlo (hT.1 [(21, [0, 1, 2, 3])] 6 (D + 3) 255 _ κ (o1))
theorem zb255_36 (hT : zRules T) {D : Nat} {κ : Option zA → zM → Prop} {m : zM} {n : Nat} {b : Int} {p : Nat} {v : Int} {lo : zL} (hlo : z_keep [0, 1, 3] lo = [(0, zr 74), (1, zi (n : Int)), (3, zi (p : Int))])  (hB : zB m) (h_n : n ≤ 99) (h_b : 0 ≤ b ∧ b ≤ 63) (h_p : p ≤ 5) (h_v : 0 ≤ v ∧ v ≤ 99) 
    (k1 : T (D + 2) 216 (0, [(0, zr 74), (1, zi (p : Int)), (2, zi 0)], [], m) (fun r m1 => T (D + 3) 255 (42, [(0, zr 74), (1, zi (n : Int)), (3, zi (p : Int))], r.toList ++ [zi v, zi b], m1) κ)) :
    T (D + 3) 255 (36, lo, [zi v, zi b], m) κ := by
  exact zb255_36r hT hlo
    k1
theorem zb255_42r (hT : zRules T) {D : Nat} {κ : Option zA → zM → Prop} {m : zM} {n : Nat} {b : Int} {p : Nat} {v : Int} {w : Int} {lo : zL} (hlo : z_keep [0, 1, 3] lo = [(0, zr 74), (1, zi (n : Int)), (3, zi (p : Int))]) 
    (o1 : ¬ wr v = wr w → T (D + 3) 255 (21, [(0, zr 74), (1, zi (n : Int)), (2, zi (z_or b 0)), (3, zi ((p : Int) + 1))], [], m) κ)
    (o2 : wr v = wr w → T (D + 3) 255 (21, [(0, zr 74), (1, zi (n : Int)), (2, zi (z_or b (z_shl 1 (p : Int)))), (3, zi ((p : Int) + 1))], [], m) κ) :
    T (D + 3) 255 (42, lo, [zi w, zi v, zi b], m) κ :=
  zkeep hT hlo (hT.1 [(21, [0, 1, 2, 3])] 6 (D + 3) 255 _ κ (And.intro (fun a1 => (o1 a1)) (fun a2 => (hT.1 [(21, [0, 1, 2, 3])] 6 (D + 3) 255 (53, [(0, zr 74), (1, zi (n : Int)), (3, zi (p : Int))], [zi (z_or b (z_shl 1 (p : Int)))], m) _ (o2 (Classical.byContradiction a2))))))
theorem zb255_42 (hT : zRules T) {D : Nat} {κ : Option zA → zM → Prop} {m : zM} {n : Nat} {b : Int} {p : Nat} {v : Int} {w : Int} {lo : zL} (hlo : z_keep [0, 1, 3] lo = [(0, zr 74), (1, zi (n : Int)), (3, zi (p : Int))])  (hB : zB m) (h_n : n ≤ 99) (h_b : 0 ≤ b ∧ b ≤ 63) (h_p : p ≤ 5) (h_v : 0 ≤ v ∧ v ≤ 99) (h_w : 0 ≤ w ∧ w ≤ 99) 
    (k1 : ¬ v = w → T (D + 3) 255 (21, [(0, zr 74), (1, zi (n : Int)), (2, zi (z_or b 0)), (3, zi ((p : Int) + 1))], [], m) κ)
    (k2 : v = w → T (D + 3) 255 (21, [(0, zr 74), (1, zi (n : Int)), (2, zi (z_or b (z_shl 1 (p : Int)))), (3, zi ((p : Int) + 1))], [], m) κ) :
    T (D + 3) 255 (42, lo, [zi w, zi v, zi b], m) κ := by
  have hb5 : (-2147483648) ≤ (z_shl 1 (p : Int)) ∧ (z_shl 1 (p : Int)) ≤ 2147483647 := z_shlB 1 (p : Int)
  have hb6 : (-2147483648) ≤ (z_or b (z_shl 1 (p : Int))) ∧ (z_or b (z_shl 1 (p : Int))) ≤ 2147483647 := z_orB b (z_shl 1 (p : Int))
  have hb7 : (-2147483648) ≤ (z_or b 0) ∧ (z_or b 0) ≤ 2147483647 := z_orB b 0
  have he0 : wr v = v := wr_id (by omega) (by omega)
  have he1 : wr w = w := wr_id (by omega) (by omega)
  have key := @zb255_42r T hT D κ m n b p v w lo hlo
  simp only [he0, he1, Int.toNat_natCast] at key
  exact key
    k1
    k2
end ZBlocks
end
-- 79.ahead.lean.txt
section
/-! Looking ahead: ahead(), longest(), lengths(), serves(), best(). -/
/-- LAW of one there, so many WEEKS on -/
noncomputable def laF (m : zM) (p pl : Nat) (k : Nat) : Int := LW m (m 18 p) (p : Int) pl (m 17 11 + k)
theorem laFB {m : zM} {p pl k : Nat} : 0 ≤ laF m p pl k ∧ laF m p pl k ≤ 99 := LWB
/-- the first greatest, the first least of so many -/
noncomputable def mxI (f : Nat → Int) : Nat → Nat
  | 0 => 0
  | k + 1 => if f (mxI f k) < f k then k else mxI f k
noncomputable def mnI (f : Nat → Int) : Nat → Nat
  | 0 => 0
  | k + 1 => if f k < f (mnI f k) then k else mnI f k
theorem mxI_le {f : Nat → Int} : ∀ k, mxI f (k + 1) ≤ k
  | 0 => by
    rw [mxI]
    split <;> exact Nat.le_refl 0
  | k + 1 => by
    have := mxI_le (f := f) k
    rw [mxI]
    split <;> omega
theorem mnI_le {f : Nat → Int} : ∀ k, mnI f (k + 1) ≤ k
  | 0 => by
    rw [mnI]
    split <;> exact Nat.le_refl 0
  | k + 1 => by
    have := mnI_le (f := f) k
    rw [mnI]
    split <;> omega
theorem mxI_congr {f g : Nat → Int} : ∀ k, (∀ i, i < k → f i = g i) → mxI f k = mxI g k
  | 0, _ => rfl
  | 1, h => by
    rw [mxI, mxI]
    show (if f 0 < f 0 then 0 else 0) = (if g 0 < g 0 then 0 else 0)
    rw [if_neg (by omega), if_neg (by omega)]
  | k + 2, h => by
    have e := mxI_congr (k + 1) (fun i hi => h i (by omega))
    have := mxI_le (f := g) k
    show (if f (mxI f (k + 1)) < f (k + 1) then k + 1 else mxI f (k + 1)) = (if g (mxI g (k + 1)) < g (k + 1) then k + 1 else mxI g (k + 1))
    rw [e, h _ (by omega), h (k + 1) (by omega)]
theorem mnI_congr {f g : Nat → Int} : ∀ k, (∀ i, i < k → f i = g i) → mnI f k = mnI g k
  | 0, _ => rfl
  | 1, h => by
    rw [mnI, mnI]
    show (if f 0 < f 0 then 0 else 0) = (if g 0 < g 0 then 0 else 0)
    rw [if_neg (by omega), if_neg (by omega)]
  | k + 2, h => by
    have e := mnI_congr (k + 1) (fun i hi => h i (by omega))
    have := mnI_le (f := g) k
    show (if f (k + 1) < f (mnI f (k + 1)) then k + 1 else mnI f (k + 1)) = (if g (k + 1) < g (mnI g (k + 1)) then k + 1 else mnI g (k + 1))
    rw [e, h (k + 1) (by omega), h (mnI g (k + 1)) (by omega)]
/-- how many of the first k are a, to h less -/
noncomputable def tly (f : Nat → Int) (h a : Int) : Nat → Int
  | 0 => 0
  | k + 1 => tly f h a k + (if f k ≤ a ∧ a ≤ f k + h then 1 else 0)
theorem tlyB {f : Nat → Int} {h a : Int} : ∀ k, 0 ≤ tly f h a k ∧ tly f h a k ≤ k
  | 0 => ⟨Int.le_refl 0, Int.le_refl 0⟩
  | k + 1 => by
    have := tlyB (f := f) (h := h) (a := a) k
    rw [tly]
    split <;> omega
theorem tly_congr {f g : Nat → Int} {h a : Int} : ∀ k, (∀ i, i < k → f i = g i) → tly f h a k = tly g h a k
  | 0, _ => rfl
  | k + 1, e => by rw [tly, tly, tly_congr k (fun i hi => e i (by omega)), e k (by omega)]
theorem tly_0 {f : Nat → Int} {h a : Int} (hf : ∀ i, f i + h < a) : ∀ k, tly f h a k = 0
  | 0 => rfl
  | k + 1 => by
    rw [tly, tly_0 hf k, if_neg (fun x => by have := hf k; omega)]
    rfl
noncomputable def cpos (g : Nat → Int) : Nat → Int
  | 0 => 0
  | a + 1 => cpos g a + (if 0 < g a then 1 else 0)
theorem cposB {g : Nat → Int} : ∀ k, 0 ≤ cpos g k ∧ cpos g k ≤ k
  | 0 => ⟨Int.le_refl 0, Int.le_refl 0⟩
  | k + 1 => by
    have := cposB (g := g) k
    rw [cpos]
    split <;> omega
section ZAhead
variable {T : Nat → Nat → zG → (Option zA → zM → Prop) → Prop} {B : Int}
theorem z_lookAhead (hT : zRules T) {D : Nat} {κ : Option zA → zM → Prop} {m : zM} {p pl n : Nat} (hB : zB m) (hp : p ≤ 5) (hpl : pl ≤ 3) (hn : n ≤ 60) (hh : 0 ≤ m 18 p) (hWF : LawRel m)
    (hk : ∀ m1, zB m1 → zFr (inL [(13, none), (52, some 1), (53, none)]) m m1 → m1 52 1 = (n : Int) → (∀ k, k < n → m1 53 k = laF m p pl k) → κ none m1) : T (D + 5) 180 (0, [(0, zr 1), (1, zi (p : Int)), (2, zi (pl : Int)), (3, zi (n : Int))], [], m) κ := by
  have key : ∀ (j t : Nat) (M : zM), t + j = n → zB M → zFr (inL [(13, none), (52, some 1), (53, none)]) m M → M 52 1 = (t : Int) → (∀ k, k < t → M 53 k = laF m p pl k) → T (D + 5) 180 (10, [(0, zr 1), (1, zi (p : Int)), (2, zi (pl : Int)), (3, zi (n : Int)), (4, zi (t : Int))], [], M) κ := by
    intro j
    induction j with
    | zero =>
      intro t M ht hBM hF g1 g2
      have et : t = n := by omega
      subst et
      exact zb180_10 hT rfl hBM hp hpl hn (by omega) (fun _ => hk M hBM hF g1 g2) (fun q => by omega)
    | succ j ih =>
      intro t M ht hBM hF g1 g2
      have hA : Agree KL m M := .of hF rfl
      have b17 : 0 ≤ M 17 11 ∧ M 17 11 ≤ 400000 := hBM 17 11
      have e18 : M 18 p = m 18 p := hF 18 p rfl
      refine zb180_10 hT rfl hBM hp hpl hn (by omega) (fun q => by omega) (fun _ => ?_)
      refine z_lawAt hT hBM hp (by omega) hpl (by omega) (hA.law.1 hWF).1 (fun m1 hB1 hF1 => ?_)
      rw [hA.law.2, e18, hF 17 11 rfl]
      have hF1b : zFr (inL [(13, none), (52, some 1), (53, none)]) M m1 := hF1.sub (fun c j q => by
        have := Nat.eq_of_beq_eq_true q
        subst this
        rfl)
      have e52 : m1 52 1 = (t : Int) := (hF1 52 1 rfl).trans g1
      refine zb180_36 hT rfl hB1 hp hpl hn (by omega) laFB (fun q => by omega) (fun _ hz => ?_)
      rw [e52] at hz ⊢
      rw [Int.toNat_natCast] at hz ⊢
      refine ih (t + 1) _ (by omega) hz (((hF.trans hF1b).set rfl).set rfl) ?_ (fun k hk2 => ?_)
      · rw [zu_sm rfl]
        omega
      · rw [zu_dn (by omega)]
        by_cases e : k = t
        · subst e
          rw [zu_sm rfl]
          rfl
        · rw [zu_off e, hF1 53 k rfl]
          exact g2 k (by omega)
  refine zb180_0 hT hB hp hpl hn (fun hz => ?_)
  exact key n 0 _ (by omega) hz (zFr.refl.set rfl) (by rw [zu_sm rfl]; rfl) (fun k hk2 => by omega)
/-- LAW by the reference, so many WEEKS on -/
theorem z_lawOfF (hT : zRules T) {D : Nat} {κ : Option zA → zM → Prop} {m M : zM} {sc : zSc} {n k p pl d : Nat} (hI : Inv B sc n k m) (hBM : zB M) (hA : Agree KL m M) (h78 : M 78 = m 78) (h57 : M 75 57 = m 75 57) (hp : p < n) (hpl : pl ≤ 3) (hd : d ≤ 200)
    (hk : ∀ M1, zB M1 → zFr (inL lbL) M M1 → κ (some (zi (laF m p pl d))) M1) : T (D + 170) 215 (0, [(0, zr 74), (1, zi (p : Int)), (2, zi (pl : Int)), (3, zi ((M 75 57) + (d : Int)))], [], M) κ := by
  have b17 : 0 ≤ m 17 0 ∧ m 17 0 ≤ 6 := hI.1 17 0
  have h4 := hI.2.2.2.1
  have bn : 0 ≤ M 75 57 ∧ M 75 57 ≤ 400000 := hBM 75 57
  have n1 := h4.1.1
  refine z_lawOf hT hBM (by omega) hpl (by omega) (hA.law.1 hI.2.2.1) (fun M1 hB1 hF1 => ?_)
  have e : LW M (M 78 p) (p : Int) pl (M 75 57 + d) = laF m p pl d := by
    unfold laF
    rw [hA.law.2, h78, (h4.2.2.1 p hp).1, h57, ← h4.2.2.2.1.2.2.2.2.1]
  rw [e]
  exact hk M1 hB1 (hF1.sub lbWL)
theorem z_lawInF (hT : zRules T) {D : Nat} {κ : Option zA → zM → Prop} {m M : zM} {sc : zSc} {n k p pl d : Nat} (hI : Inv B sc n k m) (hBM : zB M) (hA : Agree KL m M) (h78 : M 78 = m 78) (h57 : M 75 57 = m 75 57) (hp : p < n) (hpl : M 75 p = (pl : Int)) (hd : d ≤ 200)
    (hk : ∀ M1, zB M1 → zFr (inL lbL) M M1 → κ (some (zi (laF m p pl d))) M1) : T (D + 171) 216 (0, [(0, zr 74), (1, zi (p : Int)), (2, zi (d : Int))], [], M) κ := by
  have b17 : 0 ≤ m 17 0 ∧ m 17 0 ≤ 6 := hI.1 17 0
  have h4 := hI.2.2.2.1
  have n1 := h4.1.1
  refine z_lawIn (pl := pl) hT hBM (by omega) hpl (by omega) (hA.law.1 hI.2.2.1) (fun M1 hB1 hF1 => ?_)
  have e : LW M (M 78 p) (p : Int) pl (M 75 57 + d) = laF m p pl d := by
    unfold laF
    rw [hA.law.2, h78, (h4.2.2.1 p hp).1, h57, ← h4.2.2.2.1.2.2.2.2.1]
  rw [e]
  exact hk M1 hB1 (hF1.sub lbWL)
theorem z_firstLongest (hT : zRules T) {D : Nat} {κ : Option zA → zM → Prop} {m : zM} {n : Nat} (hB : zB m) (hn : m 52 1 = (n : Int)) (h1 : 1 ≤ n) (h : κ (some (zi (mxI (m 53) n : Int))) m) : T (D + 1) 76 (0, [(0, zr 52)], [], m) κ := by
  have b52 : 0 ≤ m 52 1 ∧ m 52 1 ≤ 60 := hB 52 1
  have key : ∀ (j t : Nat), (t + 1) + j = n → T (D + 1) 76 (4, [(0, zr 52), (1, zi (mxI (m 53) (t + 1) : Int)), (2, zi ((t + 1 : Nat) : Int))], [], m) κ := by
    intro j
    induction j with
    | zero =>
      intro t ht
      have := mxI_le (f := m 53) t
      have et : t + 1 = n := by omega
      refine zb76_4 hT rfl hB (by omega) (by omega) (fun _ => ?_) (fun q => by omega) (fun q => by omega) (fun q => by omega)
      rw [et]
      exact h
    | succ j ih =>
      intro t ht
      have := mxI_le (f := m 53) t
      have ih2 := ih (t + 1) (by omega)
      refine zb76_4 hT rfl hB (by omega) (by omega) (fun q => by omega) (fun _ => by omega) (fun _ q => ?_) (fun _ q => ?_)
      · rw [mxI, if_neg q] at ih2
        exact ih2
      · rw [mxI, if_pos q] at ih2
        exact ih2
  obtain ⟨t, rfl⟩ : ∃ t, n = t + 1 := ⟨n - 1, by omega⟩
  refine zb76_0 hT hB ?_
  have e0 : mxI (m 53) (0 + 1) = 0 := by
    have := mxI_le (f := m 53) 0
    omega
  have := key t 0 (by omega)
  rw [e0] at this
  exact this
theorem z_firstShortest (hT : zRules T) {D : Nat} {κ : Option zA → zM → Prop} {m : zM} {n : Nat} (hB : zB m) (hn : m 52 1 = (n : Int)) (h1 : 1 ≤ n) (h : κ (some (zi (mnI (m 53) n : Int))) m) : T (D + 1) 77 (0, [(0, zr 52)], [], m) κ := by
  have b52 : 0 ≤ m 52 1 ∧ m 52 1 ≤ 60 := hB 52 1
  have key : ∀ (j t : Nat), (t + 1) + j = n → T (D + 1) 77 (4, [(0, zr 52), (1, zi (mnI (m 53) (t + 1) : Int)), (2, zi ((t + 1 : Nat) : Int))], [], m) κ := by
    intro j
    induction j with
    | zero =>
      intro t ht
      have := mnI_le (f := m 53) t
      have et : t + 1 = n := by omega
      refine zb77_4 hT rfl hB (by omega) (by omega) (fun _ => ?_) (fun q => by omega) (fun q => by omega) (fun q => by omega)
      rw [et]
      exact h
    | succ j ih =>
      intro t ht
      have := mnI_le (f := m 53) t
      have ih2 := ih (t + 1) (by omega)
      refine zb77_4 hT rfl hB (by omega) (by omega) (fun q => by omega) (fun _ => by omega) (fun _ q => ?_) (fun _ q => ?_)
      · rw [mnI, if_neg q] at ih2
        exact ih2
      · rw [mnI, if_pos q] at ih2
        exact ih2
  obtain ⟨t, rfl⟩ : ∃ t, n = t + 1 := ⟨n - 1, by omega⟩
  refine zb77_0 hT hB ?_
  have e0 : mnI (m 53) (0 + 1) = 0 := by
    have := mnI_le (f := m 53) 0
    omega
  have := key t 0 (by omega)
  rw [e0] at this
  exact this
theorem z_longR (hT : zRules T) {D : Nat} {κ : Option zA → zM → Prop} {m M0 : zM} {sc : zSc} {n k p pl nn : Nat} (hI : Inv B sc n k m) (hA : Agree coreK m M0) (hp : p < n) (hpl : pl ≤ 3) (hnn : nn ≤ 60) (h1 : 1 ≤ nn) (hB0 : zB M0)
    (hk : ∀ M1, zB M1 → Agree coreK m M1 → κ (some (zi (laF m p pl (mxI (laF m p pl) nn)))) M1) : T (D + 171) 250 (46, [(0, zr 74), (1, zi (p : Int)), (2, zi (pl : Int)), (3, zi (nn : Int)), (4, zi (-1)), (5, zi 0), (6, zi 100000000), (7, zi 0), (8, zi 0)], [], M0) κ := by
  have b17 : 0 ≤ m 17 0 ∧ m 17 0 ≤ 6 := hI.1 17 0
  have n1 := hI.2.2.2.1.1.1
  have law : ∀ (M : zM) (t : Nat) (κ2 : Option zA → zM → Prop), t ≤ 60 → zB M → zFr (inL lbL) M0 M → (∀ M1, zB M1 → zFr (inL lbL) M0 M1 → κ2 (some (zi (laF m p pl t))) M1) → T (D + 170) 215 (0, [(0, zr 74), (1, zi (p : Int)), (2, zi (pl : Int)), (3, zi ((M 75 57) + (t : Int)))], [], M) κ2 := by
    intro M t κ2 ht hBM hF hk2
    have hAM : Agree coreK m M := hA.trans (.of hF rfl)
    exact z_lawOfF hT hI hBM (hAM.sub (fun q hq => List.mem_append.mpr (Or.inr (List.mem_append.mpr (Or.inl hq))))) (funext fun j => hAM 78 j rfl) (hAM 75 57 rfl) hp hpl (by omega) (fun M1 hB1 hF1 => hk2 M1 hB1 (hF.trans hF1))
  have fin : ∀ (M : zM) (b d : Nat) (c : Int), zFr (inL lbL) M0 M → zB (zu (zu (zu (zu (zu (zu (zu M 74 11 0) 81 0 (b : Int)) 74 11 1) 81 1 c) 74 11 2) 81 2 (d : Int)) 74 11 3) → κ (some (zi (laF m p pl (mxI (laF m p pl) nn)))) (zu (zu (zu (zu (zu (zu (zu M 74 11 0) 81 0 (b : Int)) 74 11 1) 81 1 c) 74 11 2) 81 2 (d : Int)) 74 11 3) := by
    intro M b d c hF hz
    refine hk _ hz (hA.trans ((Agree.of hF rfl).trans (.of (L := [(74, some 11), (81, none)]) (((((((zFr.refl.set rfl).set rfl).set rfl).set rfl).set rfl).set rfl).set rfl) rfl)))
  have key : ∀ (j t : Nat) (M : zM), (t + 1) + j = nn → zB M → zFr (inL lbL) M0 M → T (D + 171) 250 (46, [(0, zr 74), (1, zi (p : Int)), (2, zi (pl : Int)), (3, zi (nn : Int)), (4, zi (laF m p pl (mxI (laF m p pl) (t + 1)))), (5, zi (mxI (laF m p pl) (t + 1) : Int)), (6, zi (laF m p pl (mnI (laF m p pl) (t + 1)))), (7, zi (mnI (laF m p pl) (t + 1) : Int)), (8, zi ((t + 1 : Nat) : Int))], [], M) κ := by
    intro j
    induction j with
    | zero =>
      intro t M ht hBM hF
      have l1 := mxI_le (f := laF m p pl) t
      have l2 := mnI_le (f := laF m p pl) t
      have v1 := laFB (m := m) (p := p) (pl := pl) (k := mxI (laF m p pl) (t + 1))
      have v2 := laFB (m := m) (p := p) (pl := pl) (k := mnI (laF m p pl) (t + 1))
      refine zb250_46 (D := D + 167) hT rfl hBM (by omega) hpl hnn (by omega) (by omega) (by omega) (by omega) (by omega) (fun _ hz => ?_) (fun q => by omega)
      have et : t + 1 = nn := by omega
      have := fin M _ _ _ hF hz
      rw [et]
      rw [et] at this
      exact this
    | succ j ih =>
      intro t M ht hBM hF
      have l1 := mxI_le (f := laF m p pl) t
      have l2 := mnI_le (f := laF m p pl) t
      have v1 := laFB (m := m) (p := p) (pl := pl) (k := mxI (laF m p pl) (t + 1))
      have v2 := laFB (m := m) (p := p) (pl := pl) (k := mnI (laF m p pl) (t + 1))
      refine zb250_46 (D := D + 167) hT rfl hBM (by omega) hpl hnn (by omega) (by omega) (by omega) (by omega) (by omega) (fun q => by omega) (fun _ => ?_)
      refine law M (t + 1) _ (by omega) hBM hF (fun M1 hB1 hF1 => ?_)
      have ih2 := ih (t + 1) M1 (by omega) hB1 hF1
      rw [mxI, mnI] at ih2
      refine zb250_68 (D := D + 167) hT rfl hB1 (by omega) hpl hnn (by omega) (by omega) (by omega) (by omega) (by omega) laFB (fun q1 q2 => ?_) (fun q1 q2 => ?_) (fun q1 q2 => ?_) (fun q1 q2 => ?_)
      · rw [if_neg q1, if_neg q2] at ih2
        exact ih2
      · rw [if_neg q1, if_pos q2] at ih2
        exact ih2
      · rw [if_pos q1, if_neg q2] at ih2
        exact ih2
      · rw [if_pos q1, if_pos q2] at ih2
        exact ih2
  obtain ⟨s, rfl⟩ : ∃ s, nn = s + 1 := ⟨nn - 1, by omega⟩
  refine zb250_46 (k := 0) (b := 0) (d := 0) (D := D + 167) hT rfl hB0 (by omega) hpl hnn (by omega) (by omega) (by omega) (by omega) (by omega) (fun q => by omega) (fun _ => ?_)
  refine law M0 0 _ (by omega) hB0 zFr.refl (fun M1 hB1 hF1 => ?_)
  have v0 := laFB (m := m) (p := p) (pl := pl) (k := 0)
  refine zb250_68 (k := 0) (b := 0) (d := 0) (D := D + 167) hT rfl hB1 (by omega) hpl hnn (by omega) (by omega) (by omega) (by omega) (by omega) laFB (fun q1 q2 => by omega) (fun q1 q2 => by omega) (fun q1 q2 => by omega) (fun q1 q2 => ?_)
  have e1 : mxI (laF m p pl) (0 + 1) = 0 := by
    have := mxI_le (f := laF m p pl) 0
    omega
  have e2 : mnI (laF m p pl) (0 + 1) = 0 := by
    have := mnI_le (f := laF m p pl) 0
    omega
  have := key s 0 M1 (by omega) hB1 hF1
  rw [e1, e2] at this
  exact this
theorem w_longest (hT : zRules T) {p q v : Int} (hp : isI p) (hq : isI q) (hv : isI v) : Way T 135 250 [(0, zr 1), (1, zi p), (2, zi q), (3, zi v)] [(0, zr 74), (1, zi p), (2, zi q), (3, zi v)] 6 171 B B True := by
  rintro D m sc ⟨n, k, hI⟩ κ hκ
  have hI0 := hI
  obtain ⟨i1, i2, i3, i4, i5, i6, i7, i8, i9, i10, i11⟩ := hI
  have hB1 : zB (zu m 74 12 0) := zB_u i1 trivial
  have hA12 : Agree coreK m (zu m 74 12 0) := .of (L := [(74, some 12)]) (zFr.refl.set rfl) rfl
  obtain ⟨n1, n2⟩ := i4.1
  have b17 : 0 ≤ m 17 0 ∧ m 17 0 ≤ 6 := i1 17 0
  have no : ¬ (0 ≤ p ∧ p < n ∧ 0 ≤ q ∧ q ≤ 3 ∧ 1 ≤ v ∧ v ≤ 60) → κ (some (zi (-1))) m := by
    intro hno
    refine hκ _ _ (fun D2 κ2 h2 => ?_)
    have fin : κ2 (some (zi (-1))) (zu m 74 12 0) := h2 _ _ (fun _ => rfl) ⟨n, k, Inv_fr hA12 hB1 hI0⟩
    exact zb250_0 (D := D2 + 167) hT i1 hp hq hv (fun _ _ => fin) (fun _ _ _ => fin) (fun _ _ _ _ => fin) (fun _ _ _ _ _ => fin) (fun _ _ _ _ _ _ => fin) (fun _ _ _ _ _ _ _ => fin) (fun q1 q2 q3 q4 q5 q6 => absurd ⟨by omega, by omega, by omega, by omega, by omega, by omega⟩ hno)
  refine zb135_0 hT i1 hp hq hv (fun _ => no (by omega)) (fun _ _ => no (by omega)) (fun _ _ _ => no (by omega)) (fun _ _ _ _ => no (by omega)) (fun _ _ _ _ _ => no (by omega)) (fun _ _ _ _ _ _ => no (by omega)) (fun q1 q2 q3 q4 q5 q6 => ?_)
  obtain ⟨a, rfl⟩ : ∃ a : Nat, p = (a : Int) := ⟨p.toNat, by omega⟩
  obtain ⟨pl, rfl⟩ : ∃ a : Nat, q = (a : Int) := ⟨q.toNat, by omega⟩
  obtain ⟨nn, rfl⟩ : ∃ a : Nat, v = (a : Int) := ⟨v.toNat, by omega⟩
  obtain ⟨h78, h18⟩ := i4.2.2.1 a (by omega)
  refine z_lookAhead hT i1 (by omega) (by omega) (by omega) (by omega) i3 (fun m1 hB2 hF1 g1 g2 => ?_)
  have hA1 : Agree coreK m m1 := .of hF1 rfl
  have emx : mxI (m1 53) nn = mxI (laF m a pl) nn := mxI_congr nn g2
  have emn : mnI (m1 53) nn = mnI (laF m a pl) nn := mnI_congr nn g2
  have lx : mxI (laF m a pl) nn < nn := by
    obtain ⟨s, rfl⟩ : ∃ s, nn = s + 1 := ⟨nn - 1, by omega⟩
    have := mxI_le (f := laF m a pl) s
    omega
  have ln : mnI (laF m a pl) nn < nn := by
    obtain ⟨s, rfl⟩ : ∃ s, nn = s + 1 := ⟨nn - 1, by omega⟩
    have := mnI_le (f := laF m a pl) s
    omega
  refine zb135_19 hT rfl hB2 ?_
  refine z_firstLongest (n := nn) hT hB2 g1 (by omega) ?_
  rw [emx]
  refine zb135_26 hT rfl hB2 (by omega) ?_
  refine z_firstShortest (n := nn) hT hB2 g1 (by omega) ?_
  rw [emn]
  refine zb135_35 hT rfl hB2 (by omega) (by omega) (fun hz => ?_)
  rw [g2 _ lx]
  refine hκ _ _ (fun D2 κ2 h2 => ?_)
  generalize hM : (zu (zu (zu (zu m1 72 1 3) 73 0 (mxI (laF m a pl) nn : Int)) 73 1 (m1 53 (mnI (laF m a pl) nn))) 73 2 (mnI (laF m a pl) nn : Int)) = M at hz ⊢
  have hAM : Agree coreK m M := by
    rw [← hM]
    exact hA1.trans (.of (L := [(72, some 1), (73, none)]) ((((zFr.refl.set rfl).set rfl).set rfl).set rfl) rfl)
  have e4 : M 74 4 = (n : Int) := (hAM 74 4 rfl).trans n2
  refine zb250_0 (D := D2 + 167) hT hz hp hq hv (fun x => by omega) (fun _ x => by omega) (fun _ _ x => by omega) (fun _ _ _ x => by omega) (fun _ _ _ _ x => by omega) (fun _ _ _ _ _ x => by omega) (fun _ _ _ _ _ _ hz2 => ?_)
  exact z_longR hT hI0 (hAM.trans (.of (L := [(74, some 12)]) (zFr.refl.set rfl) rfl)) (by omega) (by omega) (by omega) (by omega) hz2 (fun M1 hB3 hA3 => h2 _ _ (fun _ => rfl) ⟨n, k, Inv_fr hA3 hB3 hI0⟩)
end ZAhead
end
-- 80.tally.lean.txt
section
/-! lengths(), serves(), best(), ahead(). -/
theorem cpos_ext {g : Nat → Int} {b : Nat} (h : ∀ x, b ≤ x → g x = 0) : ∀ j, cpos g (b + j) = cpos g b
  | 0 => rfl
  | j + 1 => by
    rw [show b + (j + 1) = (b + j) + 1 by omega, cpos, cpos_ext h j, h (b + j) (by omega), if_neg (by omega)]
    omega
theorem cpos_congr {f g : Nat → Int} : ∀ k, (∀ i, i < k → f i = g i) → cpos f k = cpos g k
  | 0, _ => rfl
  | k + 1, e => by rw [cpos, cpos, cpos_congr k (fun i hi => e i (by omega)), e k (by omega)]
noncomputable def svc (f : Nat → Int) (l h : Int) : Nat → Int
  | 0 => 0
  | k + 1 => svc f l h k + (if l < f k ∨ f k + h < l then 0 else 1)
theorem svcB {f : Nat → Int} {l h : Int} : ∀ k, 0 ≤ svc f l h k ∧ svc f l h k ≤ k
  | 0 => ⟨Int.le_refl 0, Int.le_refl 0⟩
  | k + 1 => by
    have := svcB (f := f) (l := l) (h := h) k
    rw [svc]
    split <;> omega
theorem svc_congr {f g : Nat → Int} {l h : Int} : ∀ k, (∀ i, i < k → f i = g i) → svc f l h k = svc g l h k
  | 0, _ => rfl
  | k + 1, e => by rw [svc, svc, svc_congr k (fun i hi => e i (by omega)), e k (by omega)]
theorem svc_tly {f : Nat → Int} {l h : Int} : ∀ k, svc f l h k = tly f h l k
  | 0 => rfl
  | k + 1 => by
    rw [svc, tly, svc_tly k]
    by_cases q : f k ≤ l ∧ l ≤ f k + h
    · rw [if_neg (by omega), if_pos q]
    · rw [if_pos (by omega), if_neg q]
section ZTally
variable {T : Nat → Nat → zG → (Option zA → zM → Prop) → Prop} {B : Int}
theorem z_tally (hT : zRules T) {D : Nat} {κ : Option zA → zM → Prop} {m : zM} {n : Nat} {h : Int} (hB : zB m) (hh : 0 ≤ h ∧ h ≤ 9) (hn : m 52 1 = (n : Int)) (hk : ∀ m1, zB m1 → zFr (inL [(54, none)]) m m1 → (∀ a : Nat, a ≤ 108 → m1 54 a = tly (m 53) h a n) → κ none m1) : T (D + 1) 78 (0, [(0, zr 52), (1, zi h)], [], m) κ := by
  have b52 : 0 ≤ m 52 1 ∧ m 52 1 ≤ 60 := hB 52 1
  have b53 : ∀ k, 0 ≤ m 53 k ∧ m 53 k ≤ 99 := fun k => hB 53 k
  have key2 : ∀ (j k : Nat) (M : zM), k + j = n → zB M → zFr (inL [(54, none)]) m M → (∀ a : Nat, a ≤ 108 → M 54 a = tly (m 53) h a k) → T (D + 1) 78 (23, [(0, zr 52), (1, zi h), (2, zi (k : Int))], [], M) κ := by
    intro j
    induction j with
    | zero =>
      intro k M hk2 hBM hF g
      have e52 : M 52 1 = (n : Int) := (hF 52 1 rfl).trans hn
      have ek : k = n := by omega
      subst ek
      exact zb78_23 hT rfl hBM hh (by omega) (fun _ => hk M hBM hF g) (fun q => by omega)
    | succ j ih =>
      intro k M hk2 hBM hF g
      have e52 : M 52 1 = (n : Int) := (hF 52 1 rfl).trans hn
      obtain ⟨v, hv⟩ : ∃ v : Nat, m 53 k = (v : Int) := ⟨(m 53 k).toNat, by have := b53 k; omega⟩
      obtain ⟨hn2, hhn⟩ : ∃ x : Nat, h = (x : Int) := ⟨h.toNat, by omega⟩
      have bv := b53 k
      refine zb78_23 hT rfl hBM hh (by omega) (fun q => by omega) (fun _ => ?_)
      rw [hF 53 k rfl, hv]
      have key3 : ∀ (i a : Nat) (N : zM), a + i = v + hn2 + 1 → v ≤ a → zB N → zFr (inL [(54, none)]) m N → (∀ x : Nat, x ≤ 108 → N 54 x = tly (m 53) h x k + (if v ≤ x ∧ x < a then 1 else 0)) → T (D + 1) 78 (38, [(0, zr 52), (1, zi h), (2, zi (k : Int)), (3, zi (a : Int))], [], N) κ := by
        intro i
        induction i with
        | zero =>
          intro a N ha hva hBN hFN g2
          have e53 : N 53 k = (v : Int) := (hFN 53 k rfl).trans hv
          refine zb78_38 hT rfl hBN hh (by omega) (by omega) (fun _ => ?_) (fun q => by omega)
          refine ih (k + 1) N (by omega) hBN hFN (fun x hx => ?_)
          rw [g2 x hx, tly, hv, hhn]
          by_cases q : v ≤ x ∧ x < a
          · rw [if_pos q, if_pos (by omega)]
          · rw [if_neg q, if_neg (by omega)]
        | succ i ih3 =>
          intro a N ha hva hBN hFN g2
          have e53 : N 53 k = (v : Int) := (hFN 53 k rfl).trans hv
          refine zb78_38 hT rfl hBN hh (by omega) (by omega) (fun q => by omega) (fun _ hz => ?_)
          refine ih3 (a + 1) _ (by omega) (by omega) hz (hFN.set rfl) (fun x hx => ?_)
          by_cases e : x = a
          · subst e
            rw [zu_sm rfl, g2 x hx, if_neg (by omega), if_pos (by omega)]
            omega
          · rw [zu_off e, g2 x hx]
            by_cases q : v ≤ x ∧ x < a
            · rw [if_pos q, if_pos (by omega)]
            · rw [if_neg q, if_neg (by omega)]
      refine key3 (hn2 + 1) v M (by omega) (Nat.le_refl v) hBM hF (fun x hx => ?_)
      rw [g x hx, if_neg (by omega)]
      omega
  have key1 : ∀ (j a : Nat) (M : zM), a + j = 109 → zB M → zFr (inL [(54, none)]) m M → (∀ x : Nat, x < a → M 54 x = 0) → T (D + 1) 78 (2, [(0, zr 52), (1, zi h), (2, zi (a : Int))], [], M) κ := by
    intro j
    induction j with
    | zero =>
      intro a M ha hBM hF g
      exact zb78_2 hT rfl hBM hh (by omega) (fun _ => key2 n 0 M (by omega) hBM hF (fun x hx => g x (by omega))) (fun q => by omega)
    | succ j ih =>
      intro a M ha hBM hF g
      refine zb78_2 hT rfl hBM hh (by omega) (fun q => by omega) (fun _ hz => ?_)
      refine ih (a + 1) _ (by omega) hz (hF.set rfl) (fun x hx => ?_)
      by_cases e : x = a
      · subst e
        rw [zu_sm rfl]
      · rw [zu_off e]
        exact g x (by omega)
  exact zb78_0 hT hB hh (key1 109 0 m (by omega) hB zFr.refl (fun x hx => by omega))
theorem z_mostT (hT : zRules T) {D : Nat} {κ : Option zA → zM → Prop} {m : zM} {g : Nat → Int} (hB : zB m) (hg : ∀ a : Nat, a ≤ 108 → m 54 a = g a ∧ 0 ≤ g a ∧ g a ≤ 60) (h : κ (some (zi (mxI g 109 : Int))) m) : T (D + 1) 79 (0, [(0, zr 52)], [], m) κ := by
  have key : ∀ (j t : Nat), (t + 1) + j = 109 → T (D + 1) 79 (4, [(0, zr 52), (1, zi (mxI g (t + 1) : Int)), (2, zi ((t + 1 : Nat) : Int))], [], m) κ := by
    intro j
    induction j with
    | zero =>
      intro t ht
      have := mxI_le (f := g) t
      have et : t + 1 = 109 := by omega
      refine zb79_4 hT rfl hB (by omega) (by omega) (fun _ => ?_) (fun q => by omega) (fun q => by omega)
      rw [et]
      exact h
    | succ j ih =>
      intro t ht
      have := mxI_le (f := g) t
      have ih2 := ih (t + 1) (by omega)
      obtain ⟨a1, a2, a3⟩ := hg (mxI g (t + 1)) (by omega)
      obtain ⟨c1, c2, c3⟩ := hg (t + 1) (by omega)
      have w1 : wr (m 54 (mxI g (t + 1))) = g (mxI g (t + 1)) := by rw [a1]; exact wr_id (by omega) (by omega)
      have w2 : wr (m 54 (t + 1)) = g (t + 1) := by rw [c1]; exact wr_id (by omega) (by omega)
      refine zb79_4 hT rfl hB (by omega) (by omega) (fun q => by omega) (fun _ q => ?_) (fun _ q => ?_)
      · rw [w1, w2] at q
        rw [mxI, if_neg q] at ih2
        exact ih2
      · rw [w1, w2] at q
        rw [mxI, if_pos q] at ih2
        exact ih2
  refine zb79_0 hT hB ?_
  have e0 : mxI g (0 + 1) = 0 := by
    have := mxI_le (f := g) 0
    omega
  have := key 108 0 (by omega)
  rw [e0] at this
  exact this
theorem z_countT (hT : zRules T) {D : Nat} {κ : Option zA → zM → Prop} {m : zM} {g : Nat → Int} (hB : zB m) (hg : ∀ a : Nat, a ≤ 108 → m 54 a = g a ∧ 0 ≤ g a ∧ g a ≤ 60) (h : κ (some (zi (cpos g 109))) m) : T (D + 1) 80 (0, [(0, zr 52)], [], m) κ := by
  have key : ∀ (j t c : Nat), t + j = 109 → cpos g t = (c : Int) → T (D + 1) 80 (4, [(0, zr 52), (1, zi (c : Int)), (2, zi (t : Int))], [], m) κ := by
    intro j
    induction j with
    | zero =>
      intro t c ht hc
      have := cposB (g := g) t
      have et : t = 109 := by omega
      subst et
      refine zb80_4 hT rfl hB (by omega) (by omega) (fun _ => ?_) (fun q => by omega) (fun q => by omega)
      rw [← hc]
      exact h
    | succ j ih =>
      intro t c ht hc
      have := cposB (g := g) t
      obtain ⟨c1, c2, c3⟩ := hg t (by omega)
      have w2 : wr (m 54 t) = g t := by rw [c1]; exact wr_id (by omega) (by omega)
      refine zb80_4 hT rfl hB (by omega) (by omega) (fun q => by omega) (fun _ q => ?_) (fun _ q => ?_)
      · rw [w2] at q
        refine ih (t + 1) c (by omega) ?_
        rw [cpos, if_neg q, hc]
        omega
      · rw [w2] at q
        refine ih (t + 1) (c + 1) (by omega) ?_
        rw [cpos, if_pos q, hc]
        omega
  exact zb80_0 hT hB (key 109 0 0 (by omega) rfl)
theorem z_lenR (hT : zRules T) {D : Nat} {κ : Option zA → zM → Prop} {m M0 : zM} {sc : zSc} {n k p pl nn : Nat} (hI : Inv B sc n k m) (hA : Agree coreK m M0) (hp : p < n) (hpl : pl ≤ 3) (hnn : nn ≤ 60) (hB0 : zB M0)
    (hk : ∀ M1, zB M1 → Agree coreK m M1 → κ (some (zi (cpos (fun x => tly (laF m p pl) 0 x nn) 100))) M1) : T (D + 171) 251 (32, [(0, zr 74), (1, zi (p : Int)), (2, zi (pl : Int)), (3, zi (nn : Int)), (4, zi 0)], [], M0) κ := by
  have b17 : 0 ≤ m 17 0 ∧ m 17 0 ≤ 6 := hI.1 17 0
  have n1 := hI.2.2.2.1.1.1
  have key3 : ∀ (j v c : Nat) (M : zM), v + j = 100 → zB M → zFr (inL ((92, none) :: lbL)) M0 M → (∀ x : Nat, x ≤ 99 → M 92 x = tly (laF m p pl) 0 x nn) → cpos (fun x => tly (laF m p pl) 0 x nn) v = (c : Int) → T (D + 171) 251 (102, [(0, zr 74), (4, zi (c : Int)), (5, zi (mxI (fun x => tly (laF m p pl) 0 x nn) v : Int)), (6, zi (v : Int))], [], M) κ := by
    intro j
    induction j with
    | zero =>
      intro v c M hv hBM hF g hc
      have ev : v = 100 := by omega
      subst ev
      have := mxI_le (f := fun x : Nat => tly (laF m p pl) 0 x nn) 99
      have := cposB (g := fun x : Nat => tly (laF m p pl) 0 x nn) 100
      refine zb251_102 (D := D + 167) hT rfl hBM (by omega) (by omega) (by omega) (fun _ hz => ?_) (fun q => by omega) (fun q => by omega) (fun q => by omega) (fun q => by omega)
      rw [← hc]
      exact hk _ hz (hA.trans ((Agree.of hF rfl).trans (.of (L := [(74, some 11), (81, none)]) (((((zFr.refl.set rfl).set rfl).set rfl).set rfl).set rfl) rfl)))
    | succ j ih =>
      intro v c M hv hBM hF g hc
      have hmx : mxI (fun x : Nat => tly (laF m p pl) 0 x nn) v ≤ 99 := by
        rcases v with _ | v
        · exact Nat.zero_le _
        · have := mxI_le (f := fun x : Nat => tly (laF m p pl) 0 x nn) v
          omega
      have := cposB (g := fun x : Nat => tly (laF m p pl) 0 x nn) v
      have t1 := tlyB (f := laF m p pl) (h := 0) (a := (v : Int)) nn
      have t2 := tlyB (f := laF m p pl) (h := 0) (a := ((mxI (fun x : Nat => tly (laF m p pl) 0 x nn) v : Nat) : Int)) nn
      have w1 : wr (M 92 v) = tly (laF m p pl) 0 v nn := by rw [g v (by omega)]; exact wr_id (by omega) (by omega)
      have w2 : wr (M 92 (mxI (fun x : Nat => tly (laF m p pl) 0 x nn) v)) = tly (laF m p pl) 0 ((mxI (fun x : Nat => tly (laF m p pl) 0 x nn) v : Nat) : Int) nn := by rw [g _ hmx]; exact wr_id (by omega) (by omega)
      have ihn : ∀ c2 : Nat, cpos (fun x => tly (laF m p pl) 0 x nn) (v + 1) = (c2 : Int) → T (D + 171) 251 (102, [(0, zr 74), (4, zi (c2 : Int)), (5, zi (mxI (fun x => tly (laF m p pl) 0 x nn) (v + 1) : Int)), (6, zi ((v + 1 : Nat) : Int))], [], M) κ := fun c2 h2 => ih (v + 1) c2 M (by omega) hBM hF g h2
      have ec : cpos (fun x => tly (laF m p pl) 0 x nn) (v + 1) = (c : Int) + (if 0 < tly (laF m p pl) 0 v nn then 1 else 0) := by rw [cpos, hc]
      have em : mxI (fun x : Nat => tly (laF m p pl) 0 x nn) (v + 1) = if tly (laF m p pl) 0 ((mxI (fun x : Nat => tly (laF m p pl) 0 x nn) v : Nat) : Int) nn < tly (laF m p pl) 0 v nn then v else mxI (fun x : Nat => tly (laF m p pl) 0 x nn) v := rfl
      rw [em] at ihn
      refine zb251_102 (D := D + 167) hT rfl hBM (by omega) (by omega) (by omega) (fun q => by omega) (fun _ q1 q2 => ?_) (fun _ q1 q2 => ?_) (fun _ q1 q2 => ?_) (fun _ q1 q2 => ?_)
      all_goals rw [w1] at q1 q2
      all_goals rw [w2] at q2
      · rw [if_neg q2] at ihn
        rw [show (c : Int) + 0 = (c : Int) by omega]
        exact ihn c (by rw [ec, if_neg q1]; omega)
      · rw [if_pos q2] at ihn
        rw [show (c : Int) + 0 = (c : Int) by omega]
        exact ihn c (by rw [ec, if_neg q1]; omega)
      · rw [if_neg q2] at ihn
        exact ihn (c + 1) (by rw [ec, if_pos q1]; omega)
      · rw [if_pos q2] at ihn
        exact ihn (c + 1) (by rw [ec, if_pos q1]; omega)
  have key2 : ∀ (j t : Nat) (M : zM), t + j = nn → zB M → zFr (inL ((92, none) :: lbL)) M0 M → (∀ x : Nat, x ≤ 99 → M 92 x = tly (laF m p pl) 0 x t) → T (D + 171) 251 (56, [(0, zr 74), (1, zi (p : Int)), (2, zi (pl : Int)), (3, zi (nn : Int)), (4, zi (t : Int))], [], M) κ := by
    intro j
    induction j with
    | zero =>
      intro t M ht hBM hF g
      have et : t = nn := by omega
      subst et
      exact zb251_56 (D := D + 167) hT rfl hBM (by omega) hpl hnn (by omega) (fun _ => key3 100 0 0 M (by omega) hBM hF g rfl) (fun q => by omega)
    | succ j ih =>
      intro t M ht hBM hF g
      have hAM : Agree coreK m M := hA.trans (.of hF rfl)
      refine zb251_56 (D := D + 167) hT rfl hBM (by omega) hpl hnn (by omega) (fun q => by omega) (fun _ => ?_)
      refine z_lawOfF hT hI hBM (hAM.sub (fun q hq => List.mem_append.mpr (Or.inr (List.mem_append.mpr (Or.inl hq))))) (funext fun j => hAM 78 j rfl) (hAM 75 57 rfl) hp hpl (by omega) (fun M1 hB1 hF1 => ?_)
      have lv := laFB (m := m) (p := p) (pl := pl) (k := t)
      obtain ⟨v, hv⟩ : ∃ v : Nat, laF m p pl t = (v : Int) := ⟨(laF m p pl t).toNat, by omega⟩
      rw [hv]
      refine zb251_82 (v := v) (D := D + 167) hT rfl hB1 (by omega) hpl hnn (by omega) (by omega) (fun hz => ?_)
      refine ih (t + 1) _ (by omega) hz ((hF.trans (hF1.sub (inL_sub (by decide)))).set rfl) (fun x hx => ?_)
      rw [tly, hv]
      by_cases e : x = v
      · subst e
        rw [zu_sm rfl, hF1 92 x rfl, g x hx, if_pos (by omega)]
      · rw [zu_off e, hF1 92 x rfl, g x hx, if_neg (by omega)]
        omega
  have key1 : ∀ (j v : Nat) (M : zM), v + j = 100 → zB M → zFr (inL ((92, none) :: lbL)) M0 M → (∀ x : Nat, x < v → M 92 x = 0) → T (D + 171) 251 (32, [(0, zr 74), (1, zi (p : Int)), (2, zi (pl : Int)), (3, zi (nn : Int)), (4, zi (v : Int))], [], M) κ := by
    intro j
    induction j with
    | zero =>
      intro v M hv hBM hF g
      exact zb251_32 (D := D + 167) hT rfl hBM (by omega) hpl hnn (by omega) (fun _ => key2 nn 0 M (by omega) hBM hF (fun x hx => g x (by omega))) (fun q => by omega)
    | succ j ih =>
      intro v M hv hBM hF g
      refine zb251_32 (D := D + 167) hT rfl hBM (by omega) hpl hnn (by omega) (fun q => by omega) (fun _ hz => ?_)
      refine ih (v + 1) _ (by omega) hz (hF.set rfl) (fun x hx => ?_)
      by_cases e : x = v
      · subst e
        rw [zu_sm rfl]
      · rw [zu_off e]
        exact g x (by omega)
  exact key1 100 0 M0 (by omega) hB0 zFr.refl (fun x hx => by omega)
theorem w_lengths (hT : zRules T) {p q v : Int} (hp : isI p) (hq : isI q) (hv : isI v) : Way T 136 251 [(0, zr 1), (1, zi p), (2, zi q), (3, zi v)] [(0, zr 74), (1, zi p), (2, zi q), (3, zi v)] 6 171 B B True := by
  rintro D m sc ⟨n, k, hI⟩ κ hκ
  have hI0 := hI
  obtain ⟨i1, i2, i3, i4, i5, i6, i7, i8, i9, i10, i11⟩ := hI
  have hB1 : zB (zu m 74 12 0) := zB_u i1 trivial
  have hA12 : Agree coreK m (zu m 74 12 0) := .of (L := [(74, some 12)]) (zFr.refl.set rfl) rfl
  obtain ⟨n1, n2⟩ := i4.1
  have b17 : 0 ≤ m 17 0 ∧ m 17 0 ≤ 6 := i1 17 0
  have no : ¬ (0 ≤ p ∧ p < n ∧ 0 ≤ q ∧ q ≤ 3 ∧ 1 ≤ v ∧ v ≤ 60) → κ (some (zi (-1))) m := by
    intro hno
    refine hκ _ _ (fun D2 κ2 h2 => ?_)
    have fin : κ2 (some (zi (-1))) (zu m 74 12 0) := h2 _ _ (fun _ => rfl) ⟨n, k, Inv_fr hA12 hB1 hI0⟩
    exact zb251_0 (D := D2 + 167) hT i1 hp hq hv (fun _ _ => fin) (fun _ _ _ => fin) (fun _ _ _ _ => fin) (fun _ _ _ _ _ => fin) (fun _ _ _ _ _ _ => fin) (fun _ _ _ _ _ _ _ => fin) (fun q1 q2 q3 q4 q5 q6 => absurd ⟨by omega, by omega, by omega, by omega, by omega, by omega⟩ hno)
  refine zb136_0 hT i1 hp hq hv (fun _ => no (by omega)) (fun _ _ => no (by omega)) (fun _ _ _ => no (by omega)) (fun _ _ _ _ => no (by omega)) (fun _ _ _ _ _ => no (by omega)) (fun _ _ _ _ _ _ => no (by omega)) (fun q1 q2 q3 q4 q5 q6 => ?_)
  obtain ⟨a, rfl⟩ : ∃ a : Nat, p = (a : Int) := ⟨p.toNat, by omega⟩
  obtain ⟨pl, rfl⟩ : ∃ a : Nat, q = (a : Int) := ⟨q.toNat, by omega⟩
  obtain ⟨nn, rfl⟩ : ∃ a : Nat, v = (a : Int) := ⟨v.toNat, by omega⟩
  obtain ⟨h78, h18⟩ := i4.2.2.1 a (by omega)
  refine z_lookAhead hT i1 (by omega) (by omega) (by omega) (by omega) i3 (fun m1 hB2 hF1 g1 g2 => ?_)
  refine zb136_19 hT rfl hB2 ?_
  refine z_tally (n := nn) hT hB2 (by omega) g1 (fun m2 hB3 hF2 g3 => ?_)
  have hg : ∀ x : Nat, x ≤ 108 → m2 54 x = tly (laF m a pl) 0 x nn ∧ 0 ≤ tly (laF m a pl) 0 x nn ∧ tly (laF m a pl) 0 x nn ≤ 60 := fun x hx => by
    have := tlyB (f := laF m a pl) (h := 0) (a := (x : Int)) nn
    exact ⟨by rw [g3 x hx, tly_congr nn g2], by omega, by omega⟩
  refine zb136_27 hT rfl hB3 ?_
  refine z_mostT (g := fun x => tly (laF m a pl) 0 x nn) hT hB3 hg ?_
  have hmx := mxI_le (f := fun x : Nat => tly (laF m a pl) 0 x nn) 108
  refine zb136_34 hT rfl hB3 (by omega) (fun hz => ?_)
  generalize hM : (zu (zu (zu m2 72 1 2) 73 0 (mxI (fun x : Nat => tly (laF m a pl) 0 x nn) 109 : Int)) 73 1 (m2 54 (mxI (fun x : Nat => tly (laF m a pl) 0 x nn) 109))) = M at hz ⊢
  have hFM : zFr (inL [(72, some 1), (73, none)]) m2 M := by
    rw [← hM]
    exact ((zFr.refl.set rfl).set rfl).set rfl
  have hAM : Agree coreK m M := (Agree.of hF1 rfl).trans ((Agree.of hF2 rfl).trans (.of hFM rfl))
  refine z_countT (g := fun x => tly (laF m a pl) 0 x nn) hT hz (fun x hx => by rw [hFM 54 x rfl]; exact hg x hx) ?_
  have e109 : cpos (fun x : Nat => tly (laF m a pl) 0 x nn) 109 = cpos (fun x : Nat => tly (laF m a pl) 0 x nn) 100 := cpos_ext (b := 100) (fun x hx => tly_0 (fun i => by have := laFB (m := m) (p := a) (pl := pl) (k := i); omega) nn) 9
  have bc := cposB (g := fun x : Nat => tly (laF m a pl) 0 x nn) 109
  refine zb136_62 hT rfl (by omega) (hκ _ _ (fun D2 κ2 h2 => ?_))
  have e4 : M 74 4 = (n : Int) := (hAM 74 4 rfl).trans n2
  refine zb251_0 (D := D2 + 167) hT hz hp hq hv (fun x => by omega) (fun _ x => by omega) (fun _ _ x => by omega) (fun _ _ _ x => by omega) (fun _ _ _ _ x => by omega) (fun _ _ _ _ _ x => by omega) (fun _ _ _ _ _ _ hz2 => ?_)
  exact z_lenR hT hI0 (hAM.trans (.of (L := [(74, some 12)]) (zFr.refl.set rfl) rfl)) (by omega) (by omega) (by omega) hz2 (fun M1 hB3 hA3 => h2 _ _ (fun _ => by rw [e109]) ⟨n, k, Inv_fr hA3 hB3 hI0⟩)
theorem z_countServed (hT : zRules T) {D : Nat} {κ : Option zA → zM → Prop} {m : zM} {n : Nat} {l h : Int} (hB : zB m) (hl : -2 ≤ l ∧ l ≤ 108) (hh : 0 ≤ h ∧ h ≤ 9) (hn : m 52 1 = (n : Int)) (hk : κ (some (zi (svc (m 53) l h n))) m) : T (D + 2) 82 (0, [(0, zr 52), (1, zi l), (2, zi h)], [], m) κ := by
  have b52 : 0 ≤ m 52 1 ∧ m 52 1 ≤ 60 := hB 52 1
  have key : ∀ (j t c : Nat), t + j = n → svc (m 53) l h t = (c : Int) → T (D + 2) 82 (5, [(0, zr 52), (1, zi l), (2, zi h), (3, zi (c : Int)), (4, zi (t : Int))], [], m) κ := by
    intro j
    induction j with
    | zero =>
      intro t c ht hc
      have := svcB (f := m 53) (l := l) (h := h) t
      have et : t = n := by omega
      subst et
      refine zb82_5 hT rfl hB hl hh (by omega) (by omega) (fun _ => ?_) (fun q => by omega) (fun q => by omega) (fun q => by omega)
      rw [← hc]
      exact hk
    | succ j ih =>
      intro t c ht hc
      have := svcB (f := m 53) (l := l) (h := h) t
      refine zb82_5 hT rfl hB hl hh (by omega) (by omega) (fun q => by omega) (fun _ q => ?_) (fun _ q1 q2 => ?_) (fun _ q1 q2 => ?_)
      · exact ih (t + 1) c (by omega) (by rw [svc, if_pos (Or.inl q), hc]; omega)
      · exact ih (t + 1) c (by omega) (by rw [svc, if_pos (Or.inr q2), hc]; omega)
      · exact ih (t + 1) (c + 1) (by omega) (by rw [svc, if_neg (by omega), hc]; omega)
  exact zb82_0 hT hB hl hh (key n 0 0 (by omega) rfl)
theorem z_firstUnserved (hT : zRules T) {D : Nat} {κ : Option zA → zM → Prop} {m : zM} {l h : Int} (hB : zB m) (hl : -2 ≤ l ∧ l ≤ 108) (hh : 0 ≤ h ∧ h ≤ 9) (hk : ∀ v : Int, -1 ≤ v ∧ v ≤ 60 → κ (some (zi v)) m) : T (D + 2) 83 (0, [(0, zr 52), (1, zi l), (2, zi h)], [], m) κ := by
  have b52 : 0 ≤ m 52 1 ∧ m 52 1 ≤ 60 := hB 52 1
  have key : ∀ (j t : Nat), t + j = 60 → T (D + 2) 83 (2, [(0, zr 52), (1, zi l), (2, zi h), (3, zi (t : Int))], [], m) κ := by
    intro j
    induction j with
    | zero =>
      intro t ht
      exact zb83_2 hT rfl hB hl hh (by omega) (fun _ => hk _ (by omega)) (fun q => by omega) (fun q => by omega) (fun q => by omega)
    | succ j ih =>
      intro t ht
      exact zb83_2 hT rfl hB hl hh (by omega) (fun _ => hk _ (by omega)) (fun _ _ => hk _ (by omega)) (fun _ _ _ => hk _ (by omega)) (fun _ _ _ => ih (t + 1) (by omega))
  exact zb83_0 hT hB hl hh (key 60 0 (by omega))
end ZTally
end
-- 81.serves.lean.txt
section
/-! serves(), best(), ahead(). -/
/-- rows are the same as far as they go -/
noncomputable def Eq59 (a b : zS) : Prop := (∀ j, j < 59 → a.1 j = b.1 j) ∧ a.2 = b.2
theorem fu_59 {g g2 : Nat → Int} {i : Nat} {x : Int} (h : ∀ j, j < 59 → g j = g2 j) : ∀ j, j < 59 → fu g i x j = fu g2 i x j := fun j hj => by
  unfold fu
  split
  · rfl
  · exact h j hj
theorem mkA_59 {h : Int} {a b : zS} {c : Nat} {v : Int} (hc : c ≤ 7) (e : Eq59 a b) : Eq59 (mkA h a c v) (mkA h b c v) := by
  obtain ⟨a1, a2, a3, a4⟩ := a
  obtain ⟨b1, b2, b3, b4⟩ := b
  obtain ⟨e1, e2⟩ := e
  cases e2
  dsimp only at e1
  unfold mkA
  dsimp only
  have x1 := e1 (c + 12) (by omega)
  have x2 := e1 (c + 20) (by omega)
  have x3 := e1 (c + 28) (by omega)
  have x4 := e1 56 (by omega)
  by_cases q1 : a1 (c + 12) = v
  · rw [if_pos q1, if_pos (show b1 (c + 12) = v by omega)]
    exact ⟨e1, rfl⟩
  · rw [if_neg q1, if_neg (show ¬ b1 (c + 12) = v by omega)]
    by_cases q2 : a1 (c + 12) + a1 (c + 20) < v
    · rw [if_pos q2, if_pos (show b1 (c + 12) + b1 (c + 20) < v by omega), x1, x2, x3]
      exact ⟨fu_59 (fu_59 (fu_59 e1)), rfl⟩
    · rw [if_neg q2, if_neg (show ¬ b1 (c + 12) + b1 (c + 20) < v by omega)]
      by_cases q3 : v + h < a1 (c + 12) + a1 (c + 20)
      · rw [if_pos q3, if_pos (show v + h < b1 (c + 12) + b1 (c + 20) by omega)]
        by_cases q4 : a1 56 = 20
        · rw [if_pos q4, if_pos (show b1 56 = 20 by omega), x1, x2]
          exact ⟨fu_59 (fu_59 e1), rfl⟩
        · rw [if_neg q4, if_neg (show ¬ b1 56 = 20 by omega), x1, x2, x4]
          exact ⟨fu_59 (fu_59 (fu_59 (fu_59 e1))), rfl⟩
      · rw [if_neg q3, if_neg (show ¬ v + h < b1 (c + 12) + b1 (c + 20) by omega), x1, x2]
        exact ⟨fu_59 (fu_59 e1), rfl⟩
theorem wkP_59 {L : Nat → Int → Int → Int} {h : Int} {n k : Nat} (hn : n ≤ 6) (hk : k ≤ 8) (hh : 0 ≤ h) : ∀ (j p : Nat) (a b : zS), okRow n k a.1 → p + j = n → Eq59 a b → Eq59 (wkP L h a p j) (wkP L h b p j) := by
  intro j
  induction j with
  | zero => intro p a b _ _ e; exact e
  | succ j ih =>
    intro p a b ho hp e
    have x1 := e.1 (p + 6) (by omega)
    rw [wkP, wkP]
    by_cases q : a.1 (p + 6) = -1
    · rw [if_pos q, if_pos (by omega)]
      exact ih (p + 1) a b ho (by omega) e
    · rw [if_neg q, if_neg (show ¬ b.1 (p + 6) = -1 by omega), ← x1, ← e.1 p (by omega), ← e.1 57 (by omega)]
      have hw := (ho.1 p (by omega)).2
      exact ih (p + 1) _ _ (ho.mk hn hk hh (by omega)) (by omega) (mkA_59 (by omega) e)
theorem wksA_59 {L : Nat → Int → Int → Int} {h : Int} {n k : Nat} (hn : n ≤ 6) (hk : k ≤ 8) (hh : 0 ≤ h) : ∀ (t : Nat) (a b : zS), okRow n k a.1 → Eq59 a b → Eq59 (wksA L h n a t) (wksA L h n b t) := by
  intro t
  induction t with
  | zero => intro a b _ e; exact e
  | succ t ih =>
    intro a b ho e
    rw [wksA, wksA]
    have h1 := wkP_59 (L := L) (h := h) hn hk hh n 0 a b ho (by omega) e
    refine ih _ _ (wkA_ok hn hk hh ho).1 ⟨?_, h1.2⟩
    unfold wkA
    rw [h1.1 57 (by omega)]
    exact fu_59 h1.1
section ZServes
variable {T : Nat → Nat → zG → (Option zA → zM → Prop) → Prop} {B : Int}
theorem z_srvR (hT : zRules T) {D : Nat} {κ : Option zA → zM → Prop} {m M0 : zM} {sc : zSc} {n k p pl nn : Nat} {l : Int} (hI : Inv B sc n k m) (hA : Agree coreK m M0) (hp : p < n) (hpl : m 75 p = (pl : Int)) (hnn : nn ≤ 60) (hl : -2 ≤ l ∧ l ≤ 108) (hB0 : zB M0)
    (hk : ∀ M1, zB M1 → Agree coreK m M1 → κ (some (zi (svc (laF m p pl) l (m 24 0) nn))) M1) : T (D + 172) 253 (63, [(0, zr 74), (2, zi (p : Int)), (3, zi (nn : Int)), (4, zi l), (5, zi 0), (6, zi (-1)), (7, zi 0)], [], M0) κ := by
  have b17 : 0 ≤ m 17 0 ∧ m 17 0 ≤ 6 := hI.1 17 0
  have n1 := hI.2.2.2.1.1.1
  have e79 : m 79 0 = m 24 0 := hI.2.2.2.2.1 0 (by omega)
  have key : ∀ (j t s : Nat) (fv : Int) (M : zM), t + j = nn → (-1 ≤ fv ∧ fv ≤ 60) → zB M → zFr (inL lbL) M0 M → svc (laF m p pl) l (m 24 0) t = (s : Int) → T (D + 172) 253 (63, [(0, zr 74), (2, zi (p : Int)), (3, zi (nn : Int)), (4, zi l), (5, zi (s : Int)), (6, zi fv), (7, zi (t : Int))], [], M) κ := by
    intro j
    induction j with
    | zero =>
      intro t s fv M ht hfv hBM hF hs
      have et : t = nn := by omega
      subst et
      have := svcB (f := laF m p pl) (l := l) (h := m 24 0) t
      refine zb253_63 (D := D + 168) hT rfl hBM (by omega) hnn hl (by omega) hfv (by omega) (fun _ hz => ?_) (fun q => by omega)
      rw [← hs]
      exact hk _ hz (hA.trans ((Agree.of hF rfl).trans (.of (L := [(74, some 11), (81, none)]) (((zFr.refl.set rfl).set rfl).set rfl) rfl)))
    | succ j ih =>
      intro t s fv M ht hfv hBM hF hs
      have hAM : Agree coreK m M := hA.trans (.of hF rfl)
      have := svcB (f := laF m p pl) (l := l) (h := m 24 0) t
      refine zb253_63 (D := D + 168) hT rfl hBM (by omega) hnn hl (by omega) hfv (by omega) (fun q => by omega) (fun _ => ?_)
      refine z_lawInF (pl := pl) hT hI hBM (hAM.sub (fun q hq => List.mem_append.mpr (Or.inr (List.mem_append.mpr (Or.inl hq))))) (funext fun j => hAM 78 j rfl) (hAM 75 57 rfl) hp ((hAM 75 p rfl).trans hpl) (by omega) (fun M1 hB1 hF1 => ?_)
      have e790 : M1 79 0 = m 24 0 := by rw [hF1 79 0 rfl, hAM 79 0 rfl, e79]
      refine zb253_76 (D := D + 168) hT rfl hB1 (by omega) hnn hl (by omega) hfv (by omega) laFB (fun q1 q2 => ?_) (fun q1 q2 => ?_) (fun q1 q2 q3 => ?_) (fun q1 q2 q3 => ?_) (fun q1 q2 => ?_)
      · rw [show (s : Int) + 0 = (s : Int) by omega]
        exact ih (t + 1) s fv M1 (by omega) hfv hB1 (hF.trans hF1) (by rw [svc, if_pos (Or.inl q1), hs]; omega)
      · rw [show (s : Int) + 0 = (s : Int) by omega]
        exact ih (t + 1) s (t : Int) M1 (by omega) (by omega) hB1 (hF.trans hF1) (by rw [svc, if_pos (Or.inl q1), hs]; omega)
      · rw [e790] at q2
        rw [show (s : Int) + 0 = (s : Int) by omega]
        exact ih (t + 1) s fv M1 (by omega) hfv hB1 (hF.trans hF1) (by rw [svc, if_pos (Or.inr q2), hs]; omega)
      · rw [e790] at q2
        rw [show (s : Int) + 0 = (s : Int) by omega]
        exact ih (t + 1) s (t : Int) M1 (by omega) (by omega) hB1 (hF.trans hF1) (by rw [svc, if_pos (Or.inr q2), hs]; omega)
      · rw [e790] at q2
        exact ih (t + 1) (s + 1) fv M1 (by omega) hfv hB1 (hF.trans hF1) (by rw [svc, if_neg (by omega), hs]; omega)
  exact key nn 0 0 (-1) M0 (by omega) (by omega) hB0 zFr.refl rfl
theorem w_serves (hT : zRules T) {c p v : Int} (hc : isI c) (hp : isI p) (hv : isI v) : Way T 137 253 [(0, zr 1), (1, zi c), (2, zi p), (3, zi v)] [(0, zr 74), (1, zi c), (2, zi p), (3, zi v)] 6 172 B B True := by
  rintro D m sc ⟨n, k, hI⟩ κ hκ
  have hI0 := hI
  obtain ⟨i1, i2, i3, i4, i5, i6, i7, i8, i9, i10, i11⟩ := hI
  have hB1 : zB (zu m 74 12 0) := zB_u i1 trivial
  have hA12 : Agree coreK m (zu m 74 12 0) := .of (L := [(74, some 12)]) (zFr.refl.set rfl) rfl
  obtain ⟨⟨n1, n2⟩, ⟨k1, k2⟩, hh, hRel, hok⟩ := i4
  have b17 : 0 ≤ m 17 0 ∧ m 17 0 ≤ 6 := i1 17 0
  have b171 : 0 ≤ m 17 1 ∧ m 17 1 ≤ 8 := i1 17 1
  have no : ¬ (0 ≤ c ∧ c < k ∧ 0 ≤ p ∧ p < n ∧ 0 ≤ v ∧ v ≤ 60) → κ (some (zi (-1))) m := by
    intro hno
    refine hκ _ _ (fun D2 κ2 h2 => ?_)
    have fin : κ2 (some (zi (-1))) (zu m 74 12 0) := h2 _ _ (fun _ => rfl) ⟨n, k, Inv_fr hA12 hB1 hI0⟩
    refine zb253_0 (D := D2 + 168) hT i1 hc hp hv ?_ ?_ ?_ ?_ ?_ ?_ ?_ ?_ ?_
    · exact fun _ _ => fin
    · exact fun _ _ _ => fin
    · exact fun _ _ _ _ => fin
    · exact fun _ _ _ _ _ => fin
    · exact fun _ _ _ _ _ _ => fin
    · exact fun _ _ _ _ _ _ _ => fin
    · exact fun q1 q2 q3 q4 q5 q6 => absurd ⟨by omega, by omega, by omega, by omega, by omega, by omega⟩ hno
    · exact fun q1 q2 q3 q4 q5 q6 => absurd ⟨by omega, by omega, by omega, by omega, by omega, by omega⟩ hno
    · exact fun q1 q2 q3 q4 q5 q6 => absurd ⟨by omega, by omega, by omega, by omega, by omega, by omega⟩ hno
  refine zb137_0 hT i1 hc hp hv (fun _ => no (by omega)) (fun _ _ => no (by omega)) (fun _ _ _ => no (by omega)) (fun _ _ _ _ => no (by omega)) (fun _ _ _ _ _ => no (by omega)) (fun q1 q2 q3 q4 q5 q6 => ?_) (fun _ _ _ _ _ _ => no (by omega))
  obtain ⟨a, rfl⟩ : ∃ a : Nat, p = (a : Int) := ⟨p.toNat, by omega⟩
  obtain ⟨cc, rfl⟩ : ∃ a : Nat, c = (a : Int) := ⟨c.toNat, by omega⟩
  obtain ⟨nn, rfl⟩ : ∃ a : Nat, v = (a : Int) := ⟨v.toNat, by omega⟩
  obtain ⟨h78, h18⟩ := hh a (by omega)
  obtain ⟨r1, r2⟩ := hRel.1 a (by omega)
  obtain ⟨s1, s2, s3⟩ := hRel.2.1 cc (by omega)
  have bpl := (hok.1 a (by omega)).1
  obtain ⟨pl, hpl⟩ : ∃ pl : Nat, m 75 a = (pl : Int) := ⟨(m 75 a).toNat, by omega⟩
  rw [Int.toNat_natCast, r1, hpl]
  have b12 : -1 ≤ m 75 (cc + 12) ∧ m 75 (cc + 12) ≤ 99 := zSg i1 75 12 20 (-1) 99 rfl (cc + 12) (by omega) (by omega)
  have b20 : -1 ≤ m 75 (cc + 20) ∧ m 75 (cc + 20) ≤ 9 := zSg i1 75 20 28 (-1) 9 rfl (cc + 20) (by omega) (by omega)
  have b24 : 0 ≤ m 24 0 ∧ m 24 0 ≤ 9 := i1 24 0
  refine z_lookAhead hT i1 (by omega) (by omega) (by omega) (by omega) i3 (fun m1 hB2 hF1 g1 g2 => ?_)
  have hA1 : Agree coreK m m1 := .of hF1 rfl
  refine zb137_49 (c := cc) hT rfl hB2 (by omega) ?_
  rw [hA1 21 cc rfl, hA1 22 cc rfl, hA1 24 0 rfl, s1, s2]
  refine z_firstUnserved (D := D + 3) hT hB2 (by omega) (by omega) (fun v hv => ?_)
  refine zb137_79 hT rfl hB2 (by omega) hv (fun hz => ?_)
  rw [hA1 24 0 rfl]
  refine z_countServed (D := D + 3) (n := nn) hT hz (by omega) (by omega) g1 ?_
  rw [show (zu (zu m1 72 1 1) 73 0 v) 53 = m1 53 by rw [zu_dnR (by omega), zu_dnR (by omega)], svc_congr nn g2]
  have bs := svcB (f := laF m a pl) (l := m 75 (cc + 12) + m 75 (cc + 20)) (h := m 24 0) nn
  refine zb137_98 hT rfl (by omega) (hκ _ _ (fun D2 κ2 h2 => ?_))
  have hAM : Agree coreK m (zu (zu m1 72 1 1) 73 0 v) := hA1.trans (.of (L := [(72, some 1), (73, none)]) ((zFr.refl.set rfl).set rfl) rfl)
  generalize hM : zu (zu m1 72 1 1) 73 0 v = M at hz hAM ⊢
  have e4 : M 74 4 = (n : Int) := (hAM 74 4 rfl).trans n2
  have e6 : M 74 6 = (k : Int) := (hAM 74 6 rfl).trans k2
  refine zb253_0n (c := cc) (p := a) (n := nn) (D := D2 + 168) hT hz (by omega) (by omega) (by omega) (fun x => by omega) (fun _ x => by omega) (fun _ _ hz2 => ?_)
  rw [hAM 75 (cc + 12) rfl, hAM 75 (cc + 20) rfl]
  exact z_srvR hT hI0 (hAM.trans (.of (L := [(74, some 12)]) (zFr.refl.set rfl) rfl)) (by omega) hpl (by omega) (by omega) hz2 (fun M1 hB3 hA3 => h2 _ _ (fun _ => rfl) ⟨n, k, Inv_fr hA3 hB3 hI0⟩)
theorem z_bestR (hT : zRules T) {D : Nat} {κ : Option zA → zM → Prop} {m M0 : zM} {sc : zSc} {n k p pl nn : Nat} (hI : Inv B sc n k m) (hA : Agree coreK m M0) (hp : p < n) (hpl : m 75 p = (pl : Int)) (hnn : nn ≤ 60) (hB0 : zB M0)
    (hk : ∀ M1, zB M1 → Agree coreK m M1 → κ (some (zi (mxI (fun x => tly (laF m p pl) (m 24 0) x nn) 109 : Int))) M1) : T (D + 172) 254 (30, [(0, zr 74), (1, zi (p : Int)), (2, zi (nn : Int)), (3, zi 0), (4, zi (-1)), (5, zi 0)], [], M0) κ := by
  have b17 : 0 ≤ m 17 0 ∧ m 17 0 ≤ 6 := hI.1 17 0
  have n1 := hI.2.2.2.1.1.1
  have e79 : m 79 0 = m 24 0 := hI.2.2.2.2.1 0 (by omega)
  have inner : ∀ (b : Nat) (mo : Int) (l : Nat) (κ2 : Option zA → zM → Prop), b ≤ 108 → (-1 ≤ mo ∧ mo ≤ 60) → l ≤ 108 → (∀ M, zB M → zFr (inL lbL) M0 M → (mo < tly (laF m p pl) (m 24 0) l nn → T (D + 172) 254 (30, [(0, zr 74), (1, zi (p : Int)), (2, zi (nn : Int)), (3, zi (l : Int)), (4, zi (tly (laF m p pl) (m 24 0) l nn)), (5, zi ((l + 1 : Nat) : Int))], [], M) κ2) ∧ (¬ mo < tly (laF m p pl) (m 24 0) l nn → T (D + 172) 254 (30, [(0, zr 74), (1, zi (p : Int)), (2, zi (nn : Int)), (3, zi (b : Int)), (4, zi mo), (5, zi ((l + 1 : Nat) : Int))], [], M) κ2)) →
      ∀ (j t s : Nat) (M : zM), t + j = nn → zB M → zFr (inL lbL) M0 M → tly (laF m p pl) (m 24 0) l t = (s : Int) → T (D + 172) 254 (43, [(0, zr 74), (1, zi (p : Int)), (2, zi (nn : Int)), (3, zi (b : Int)), (4, zi mo), (5, zi (l : Int)), (6, zi (s : Int)), (7, zi (t : Int))], [], M) κ2 := by
    intro b mo l κ2 hb hmo hl hnx j
    induction j with
    | zero =>
      intro t s M ht hBM hF hs
      have et : t = nn := by omega
      subst et
      have := tlyB (f := laF m p pl) (h := m 24 0) (a := (l : Int)) t
      obtain ⟨x1, x2⟩ := hnx M hBM hF
      rw [hs] at x1 x2
      exact zb254_43 (D := D + 168) hT rfl hBM (by omega) hnn hb hmo hl (by omega) (by omega) (fun _ q => x1 q) (fun _ q => x2 q) (fun q => by omega)
    | succ j ih =>
      intro t s M ht hBM hF hs
      have hAM : Agree coreK m M := hA.trans (.of hF rfl)
      have := tlyB (f := laF m p pl) (h := m 24 0) (a := (l : Int)) t
      refine zb254_43 (D := D + 168) hT rfl hBM (by omega) hnn hb hmo hl (by omega) (by omega) (fun q => by omega) (fun q => by omega) (fun _ => ?_)
      refine z_lawInF (pl := pl) hT hI hBM (hAM.sub (fun q hq => List.mem_append.mpr (Or.inr (List.mem_append.mpr (Or.inl hq))))) (funext fun j => hAM 78 j rfl) (hAM 75 57 rfl) hp ((hAM 75 p rfl).trans hpl) (by omega) (fun M1 hB1 hF1 => ?_)
      have e790 : M1 79 0 = m 24 0 := by rw [hF1 79 0 rfl, hAM 79 0 rfl, e79]
      refine zb254_61 (s := s) (D := D + 168) hT rfl hB1 (by omega) hnn hb hmo hl (by omega) (by omega) laFB (fun q1 => ?_) (fun q1 q2 => ?_) (fun q1 q2 => ?_)
      · rw [show (s : Int) + 0 = (s : Int) by omega]
        exact ih (t + 1) s M1 (by omega) hB1 (hF.trans hF1) (by rw [tly, if_neg (by omega), hs]; omega)
      · rw [e790] at q2
        rw [show (s : Int) + 0 = (s : Int) by omega]
        exact ih (t + 1) s M1 (by omega) hB1 (hF.trans hF1) (by rw [tly, if_neg (by omega), hs]; omega)
      · rw [e790] at q2
        exact ih (t + 1) (s + 1) M1 (by omega) hB1 (hF.trans hF1) (by rw [tly, if_pos (by omega), hs]; omega)
  have outer : ∀ (j l : Nat) (M : zM), (l + 1) + j = 109 → zB M → zFr (inL lbL) M0 M → T (D + 172) 254 (30, [(0, zr 74), (1, zi (p : Int)), (2, zi (nn : Int)), (3, zi (mxI (fun x => tly (laF m p pl) (m 24 0) x nn) (l + 1) : Int)), (4, zi (tly (laF m p pl) (m 24 0) ((mxI (fun x => tly (laF m p pl) (m 24 0) x nn) (l + 1) : Nat) : Int) nn)), (5, zi ((l + 1 : Nat) : Int))], [], M) κ := by
    intro j
    induction j with
    | zero =>
      intro l M hl hBM hF
      have el : l = 108 := by omega
      subst el
      have hmx := mxI_le (f := fun x : Nat => tly (laF m p pl) (m 24 0) x nn) 108
      have := tlyB (f := laF m p pl) (h := m 24 0) (a := ((mxI (fun x : Nat => tly (laF m p pl) (m 24 0) x nn) (108 + 1) : Nat) : Int)) nn
      refine zb254_30 (D := D + 168) hT rfl hBM (by omega) hnn (by omega) (by omega) (by omega) (fun _ hz => ?_) (fun q => by omega)
      exact hk _ hz (hA.trans ((Agree.of hF rfl).trans (.of (L := [(74, some 11), (81, none)]) (((zFr.refl.set rfl).set rfl).set rfl) rfl)))
    | succ j ih =>
      intro l M hl hBM hF
      have hmx := mxI_le (f := fun x : Nat => tly (laF m p pl) (m 24 0) x nn) l
      have := tlyB (f := laF m p pl) (h := m 24 0) (a := ((mxI (fun x : Nat => tly (laF m p pl) (m 24 0) x nn) (l + 1) : Nat) : Int)) nn
      refine zb254_30 (D := D + 168) hT rfl hBM (by omega) hnn (by omega) (by omega) (by omega) (fun q => by omega) (fun _ => ?_)
      refine inner _ _ (l + 1) κ (by omega) (by omega) (by omega) (fun M1 hB1 hF1 => ?_) nn 0 0 M (by omega) hBM hF rfl
      have ih2 := ih (l + 1) M1 (by omega) hB1 hF1
      have em : mxI (fun x : Nat => tly (laF m p pl) (m 24 0) x nn) (l + 1 + 1) = if tly (laF m p pl) (m 24 0) ((mxI (fun x : Nat => tly (laF m p pl) (m 24 0) x nn) (l + 1) : Nat) : Int) nn < tly (laF m p pl) (m 24 0) ((l + 1 : Nat) : Int) nn then l + 1 else mxI (fun x : Nat => tly (laF m p pl) (m 24 0) x nn) (l + 1) := rfl
      rw [em] at ih2
      refine ⟨fun q => ?_, fun q => ?_⟩
      · rw [if_pos q] at ih2
        exact ih2
      · rw [if_neg q] at ih2
        exact ih2
  refine zb254_30 (b := 0) (l := 0) (D := D + 168) hT rfl hB0 (by omega) hnn (by omega) (by omega) (by omega) (fun q => by omega) (fun _ => ?_)
  refine inner 0 (-1) 0 κ (by omega) (by omega) (by omega) (fun M1 hB1 hF1 => ?_) nn 0 0 M0 (by omega) hB0 zFr.refl rfl
  have := tlyB (f := laF m p pl) (h := m 24 0) (a := ((0 : Nat) : Int)) nn
  refine ⟨fun q => ?_, fun q => by omega⟩
  have h0 := outer 108 0 M1 (by omega) hB1 hF1
  have e0 : mxI (fun x : Nat => tly (laF m p pl) (m 24 0) x nn) (0 + 1) = 0 := by
    have := mxI_le (f := fun x : Nat => tly (laF m p pl) (m 24 0) x nn) 0
    omega
  rw [e0] at h0
  exact h0
theorem w_best (hT : zRules T) {p v : Int} (hp : isI p) (hv : isI v) : Way T 138 254 [(0, zr 1), (1, zi p), (2, zi v)] [(0, zr 74), (1, zi p), (2, zi v)] 6 172 B B True := by
  rintro D m sc ⟨n, k, hI⟩ κ hκ
  have hI0 := hI
  obtain ⟨i1, i2, i3, i4, i5, i6, i7, i8, i9, i10, i11⟩ := hI
  have hB1 : zB (zu m 74 12 0) := zB_u i1 trivial
  have hA12 : Agree coreK m (zu m 74 12 0) := .of (L := [(74, some 12)]) (zFr.refl.set rfl) rfl
  obtain ⟨⟨n1, n2⟩, ⟨k1, k2⟩, hh, hRel, hok⟩ := i4
  have b17 : 0 ≤ m 17 0 ∧ m 17 0 ≤ 6 := i1 17 0
  have no : ¬ (0 ≤ p ∧ p < n ∧ 1 ≤ v ∧ v ≤ 60) → κ (some (zi (-1))) m := by
    intro hno
    refine hκ _ _ (fun D2 κ2 h2 => ?_)
    have fin : κ2 (some (zi (-1))) (zu m 74 12 0) := h2 _ _ (fun _ => rfl) ⟨n, k, Inv_fr hA12 hB1 hI0⟩
    exact zb254_0 (D := D2 + 168) hT i1 hp hv (fun _ _ => fin) (fun _ _ _ => fin) (fun _ _ _ _ => fin) (fun _ _ _ _ _ => fin) (fun q1 q2 q3 q4 => absurd ⟨by omega, by omega, by omega, by omega⟩ hno)
  refine zb138_0 hT i1 hp hv (fun _ => no (by omega)) (fun _ _ => no (by omega)) (fun _ _ _ => no (by omega)) (fun q1 q2 q3 q4 => ?_) (fun _ _ _ _ => no (by omega))
  obtain ⟨a, rfl⟩ : ∃ a : Nat, p = (a : Int) := ⟨p.toNat, by omega⟩
  obtain ⟨nn, rfl⟩ : ∃ a : Nat, v = (a : Int) := ⟨v.toNat, by omega⟩
  obtain ⟨h78, h18⟩ := hh a (by omega)
  obtain ⟨r1, r2⟩ := hRel.1 a (by omega)
  have bpl := (hok.1 a (by omega)).1
  obtain ⟨pl, hpl⟩ : ∃ pl : Nat, m 75 a = (pl : Int) := ⟨(m 75 a).toNat, by omega⟩
  rw [Int.toNat_natCast, r1, hpl]
  have b24 : 0 ≤ m 24 0 ∧ m 24 0 ≤ 9 := i1 24 0
  refine z_lookAhead hT i1 (by omega) (by omega) (by omega) (by omega) i3 (fun m1 hB2 hF1 g1 g2 => ?_)
  have hA1 : Agree coreK m m1 := .of hF1 rfl
  refine zb138_39 hT rfl hB2 ?_
  rw [hA1 24 0 rfl]
  refine z_tally (n := nn) hT hB2 b24 g1 (fun m2 hB3 hF2 g3 => ?_)
  have hg : ∀ x : Nat, x ≤ 108 → m2 54 x = tly (laF m a pl) (m 24 0) x nn ∧ 0 ≤ tly (laF m a pl) (m 24 0) x nn ∧ tly (laF m a pl) (m 24 0) x nn ≤ 60 := fun x hx => by
    have := tlyB (f := laF m a pl) (h := m 24 0) (a := (x : Int)) nn
    exact ⟨by rw [g3 x hx, tly_congr nn g2], by omega, by omega⟩
  refine zb138_53 hT rfl hB3 ?_
  refine z_mostT (g := fun x => tly (laF m a pl) (m 24 0) x nn) hT hB3 hg ?_
  have hmx := mxI_le (f := fun x : Nat => tly (laF m a pl) (m 24 0) x nn) 108
  refine zb138_60 hT rfl hB3 (by omega) (fun hz => hκ _ _ (fun D2 κ2 h2 => ?_))
  have hAM : Agree coreK m (zu (zu m2 72 1 1) 73 0 (m2 54 (mxI (fun x : Nat => tly (laF m a pl) (m 24 0) x nn) 109))) := hA1.trans ((Agree.of hF2 rfl).trans (.of (L := [(72, some 1), (73, none)]) ((zFr.refl.set rfl).set rfl) rfl))
  generalize hM : zu (zu m2 72 1 1) 73 0 (m2 54 (mxI (fun x : Nat => tly (laF m a pl) (m 24 0) x nn) 109)) = M at hz hAM ⊢
  have e4 : M 74 4 = (n : Int) := (hAM 74 4 rfl).trans n2
  refine zb254_0 (D := D2 + 168) hT hz hp hv (fun x => by omega) (fun _ x => by omega) (fun _ _ x => by omega) (fun _ _ _ x => by omega) (fun _ _ _ _ hz2 => ?_)
  exact z_bestR hT hI0 (hAM.trans (.of (L := [(74, some 12)]) (zFr.refl.set rfl) rfl)) (by omega) hpl (by omega) hz2 (fun M1 hB3 hA3 => h2 _ _ (fun _ => rfl) ⟨n, k, Inv_fr hA3 hB3 hI0⟩)
noncomputable def telR (M : zM) : zM := (zu (zu (zu (zu (zu (zu (zu M 74 11 0) 81 0 (M 74 31)) 74 11 1) 81 1 (M 74 32)) 74 11 2) 81 2 (M 74 33)) 74 11 3)
theorem z_weeksL91 (hT : zRules T) {D : Nat} {κ : Option zA → zM → Prop} {m0 : zM} {n k nn : Nat} (hn : m0 74 4 = (n : Int)) (hn6 : n ≤ 6) (hk8 : k ≤ 8) (hLR : LawRel m0) (hnn : nn ≤ 60) : ∀ (j t : Nat) (b : zS) (M : zM), t + j = nn → zB M → zFr (inL (mkL 91 ++ lbL)) m0 M → RelR 91 M b → okRow n k b.1 → b.1 57 + j ≤ 400000 → (∀ M1, zB M1 → zFr (inL (mkL 91 ++ lbL)) m0 M1 → RelR 91 M1 (wksA (lawR m0) (m0 79 0) n b j) → zB (telR M1) → κ (some (zi (costR M1))) (telR M1)) → T (D + 172) 249 (35, [(0, zr 74), (1, zi (nn : Int)), (2, zi (t : Int))], [], M) κ := by
  intro j
  induction j with
  | zero =>
    intro t b M ht hBM hF hR ho hb hk
    exact zb249_35 (D := D + 169) (n := nn) (k := t) hT rfl hBM hnn (by omega) (fun _ hz => hk M hBM hF hR hz) (fun q => by omega)
  | succ j ih =>
    intro t b M ht hBM hF hR ho hb hk
    have hA : Agree KL m0 M := .of hF rfl
    have e78 : M 78 = m0 78 := funext fun j => hF 78 j rfl
    have eL : lawR M = lawR m0 := by
      unfold lawR
      rw [hA.law.2, e78]
    have hok := wkA_ok (L := lawR m0) (h := m0 79 0) hn6 hk8 (by have := (hBM 79 0).1; rw [hF 79 0 rfl] at this; exact this) ho
    refine zb249_35 (D := D + 169) (n := nn) (k := t) hT rfl hBM hnn (by omega) (fun q => by omega) (fun _ => ?_)
    refine z_goWeek_91 (D := D) (n := n) (k := k) hT hBM ((hF 74 4 rfl).trans hn) hk8 (hA.law.1 hLR) hR ho (by omega) (fun M1 hB1 hF1 hR1 => ?_)
    rw [eL, hF 79 0 rfl] at hR1
    refine zb249_48 (D := D + 169) (n := nn) (k := t) hT rfl hB1 hnn (by omega) ?_
    exact ih (t + 1) _ M1 (by omega) hB1 (hF.trans (hF1.sub gwWL)) hR1 hok.1 (by rw [hok.2]; omega) (fun M2 h1 h2 h3 h4 => hk M2 h1 h2 (by rw [wksA]; exact h3) h4)
theorem w_ahead (hT : zRules T) (hB4 : B + 60 ≤ 400000) {v : Int} (hv : isI v) : Way T 134 249 [(0, zr 1), (1, zi v)] [(0, zr 74), (1, zi v)] 6 172 B B True := by
  rintro D m sc ⟨n, k, hI⟩ κ hκ
  have hI0 := hI
  obtain ⟨i1, i2, i3, i4, i5, i6, i7, i8, i9, i10, i11⟩ := hI
  have i40 := i4
  have hB1 : zB (zu m 74 12 0) := zB_u i1 trivial
  have hA12 : Agree coreK m (zu m 74 12 0) := .of (L := [(74, some 12)]) (zFr.refl.set rfl) rfl
  obtain ⟨⟨n1, n2⟩, ⟨k1, k2⟩, hh, hRel, hok⟩ := i4
  have b17 : 0 ≤ m 17 0 ∧ m 17 0 ≤ 6 := i1 17 0
  have b171 : 0 ≤ m 17 1 ∧ m 17 1 ≤ 8 := i1 17 1
  have h75 : 0 ≤ m 75 57 := hok.2.2.1
  have no : ¬ (0 ≤ v ∧ v ≤ 60) → κ (some (zi (-1))) m := by
    intro hno
    refine hκ _ _ (fun D2 κ2 h2 => ?_)
    have fin : κ2 (some (zi (-1))) (zu m 74 12 0) := h2 _ _ (fun _ => rfl) ⟨n, k, Inv_fr hA12 hB1 hI0⟩
    exact zb249_0 (D := D2 + 169) hT i1 hv (fun _ _ => fin) (fun _ _ _ => fin) (fun q1 q2 => absurd ⟨by omega, by omega⟩ hno)
  refine zb134_0 hT i1 hv (fun q => no (by omega)) (fun q1 q2 => ?_) (fun q1 q2 => no (by omega))
  obtain ⟨nn, rfl⟩ : ∃ a : Nat, v = (a : Int) := ⟨v.toNat, by omega⟩
  refine z_mark hT i1 (fun m1 hB2 hF1 h1 => ?_)
  obtain ⟨hFm, hMk⟩ := z_markF i1 hF1
  refine zb134_23 (n := nn) hT rfl hB2 (by omega) (fun hz => ?_)
  generalize hm2 : (zu (zu (zu m1 17 12 0) 17 13 0) 17 14 0) = m2 at hz ⊢
  have hF2 : zFr (inL (remCL ++ [(17, some 12), (17, some 13), (17, some 14)])) m m2 := by
    rw [← hm2]
    exact (((hFm.sub (inL_sub (by decide))).set rfl).set rfl).set rfl
  have hR2 : RelA n k m2 (m 75, 0, 0, 0) := ⟨hRel.fr (.of hF2 rfl), by rw [← hm2]; simp (disch := omega) only [zu_off, zu_sm], by rw [← hm2]; simp (disch := omega) only [zu_off, zu_sm], by rw [← hm2]; simp (disch := omega) only [zu_sm]⟩
  have hA2 : Agree KL m m2 := .of hF2 rfl
  have eL : lawM m2 = lawM m := by
    unfold lawM
    rw [hA2.law.2, show m2 18 = m 18 from funext fun j => hF2 18 j rfl]
  have e1711 : m2 17 11 = m 75 57 := (hF2 17 11 rfl).trans hRel.2.2.2.2.1
  refine z_passWeeks (n := n) (k := k) (a := (m 75, 0, 0, 0)) hT hz (by omega) ((hF2 17 0 rfl).trans n1) ((hF2 17 1 rfl).trans k1) (fun p hp => by rw [hF2 18 p rfl]; have := (hh p hp).2; omega) (hA2.law.1 i3).1 hR2 hok (by omega) (fun m3 hB3 hF3 hR3 hA0 hA57 => ?_)
  rw [eL, hF2 24 0 rfl] at hR3
  have eLL : wksA (lawM m) (m 24 0) n (m 75, 0, 0, 0) nn = wksA (lawR m) (m 24 0) n (m 75, 0, 0, 0) nn := wksA_congr (fun i hi => by
    unfold lawM lawR
    rw [(hh i hi).1]) nn _
  obtain ⟨-, d1, d2, d3⟩ := hR3
  generalize hA : wksA (lawM m) (m 24 0) n (m 75, 0, 0, 0) nn = A at d1 d2 d3 eLL
  have hF3b : zFr (inL (remCL ++ pwLs)) m m3 := (hF2.sub (inL_sub (by decide))).trans ((hF3.sub pwWL).sub (inL_sub (by decide)))
  have t13 : zFr (inL pwLs) m1 m3 := by
    have t1 : zFr (inL pwLs) m1 m2 := by
      rw [← hm2]
      exact ((zFr.refl.set rfl).set rfl).set rfl
    exact t1.trans (hF3.sub pwWL)
  have efr : frs m3 = frs m := by
    unfold frs
    rw [t13 28 4 rfl, t13 28 5 rfl, hMk.1, hMk.2.1]
  have hsl : frs m < 13 := by rw [frsE i1]; omega
  have e30 : m3 (30 + frs m) = m1 (30 + frs m) := funext fun j => t13 _ j (dj_ok (K := momL) rfl (momL_in hsl j))
  refine zb134_35 hT rfl hB3 ?_
  refine z_back hT hB3 (fun m4 hB4 hF4 hb => ?_)
  rw [efr, e30] at hb
  have hRM : RelM n k (m1 (30 + frs m)) (m 75) := RelM.of (by omega) (by omega) hok.2.1.2 hRel h1
  have hF4b : zFr (inL rtL) m3 m4 := hF4.sub rtWL
  have f1 : m4 17 12 = A.2.1 := (hF4b 17 12 rfl).trans d1
  have f2 : m4 17 13 = A.2.2.1 := (hF4b 17 13 rfl).trans d2
  have e24 : ∀ j, m4 24 j = m 24 j := fun j => (hF4b 24 j rfl).trans (hF3b 24 j rfl)
  refine zb134_46 hT rfl hB4 (fun hz5 => ?_)
  rw [f1, f2] at hz5 ⊢
  rw [e24, e24]
  refine hκ _ _ (fun D2 κ2 h2 => ?_)
  generalize hm5 : (zu (zu (zu (zu m4 72 1 3) 73 0 A.2.1) 73 1 A.2.2.1) 73 2 (m4 17 14)) = m5 at hz5 ⊢
  have t45 : zFr (inL [(72, some 1), (73, none)]) m4 m5 := by
    rw [← hm5]
    exact (((zFr.refl.set rfl).set rfl).set rfl).set rfl
  have hF5 : zFr (inL (remCL ++ (pwLs ++ [(17, some 10), (19, none), (20, none), (72, some 1), (73, none)]))) m m5 := ((hF3b.sub (inL_sub (by decide))).trans (hF4b.sub (inL_sub (by decide)))).trans (t45.sub (inL_sub (by decide)))
  refine zb249_0 (D := D2 + 169) hT hz5 hv (fun x => by omega) (fun _ x => by omega) (fun _ _ hz6 => ?_)
  refine z_lay_75_91 (k := 0) hT (by omega) ?_
  generalize hm6 : z_cp (zu m5 74 12 0) 75 91 0 0 59 = m6
  have hz7 : zB m6 := by
    rw [← hm6]
    exact zB_cpB hz6 rfl
  have t56 : zFr (inL [(74, some 12), (91, none)]) m5 m6 := by
    rw [← hm6]
    exact (zFr.refl.set rfl).cp (fun _ => rfl)
  refine zb249_29 (n := nn) (D := D2 + 169) hT rfl hz7 (by omega) (fun hz8 => ?_)
  generalize hm7 : (zu (zu (zu m6 74 31 0) 74 32 0) 74 33 0) = m7 at hz8 ⊢
  have t57 : zFr (inL [(74, some 12), (74, some 31), (74, some 32), (74, some 33), (91, none)]) m5 m7 := by
    rw [← hm7]
    exact (((t56.sub (inL_sub (by decide))).set rfl).set rfl).set rfl
  have hF7 : zFr (inL (remCL ++ (pwLs ++ [(17, some 10), (19, none), (20, none), (72, some 1), (73, none), (74, some 12), (74, some 31), (74, some 32), (74, some 33), (91, none)]))) m m7 := (hF5.sub (inL_sub (by decide))).trans (t57.sub (inL_sub (by decide)))
  have e91 : ∀ j, j < 59 → m7 91 j = m 75 j := fun j hj => by
    rw [← hm7, zu_dn (by omega), zu_dn (by omega), zu_dn (by omega), ← hm6, z_cp_in (by omega), show 0 + (j - 0) = j by omega, zu_dn (by omega)]
    exact hF5 75 j rfl
  have hok91 : okRow n k (m7 91) := hok.congr (by omega) (by omega) (fun j hj => e91 j (by omega))
  have hA7 : Agree KL m m7 := .of hF7 rfl
  have eL7 : lawR m7 = lawR m := by
    unfold lawR
    rw [hA7.law.2, show m7 78 = m 78 from funext fun j => hF7 78 j rfl]
  have e79 : ∀ j, j < 3 → m7 79 j = m 24 j := fun j hj => by
    rw [hF7 79 j rfl]
    exact i5 j hj
  have hR7 : RelR 91 m7 (m7 91, 0, 0, 0) := ⟨rfl, by rw [← hm7]; simp (disch := omega) only [zu_off, zu_sm], by rw [← hm7]; simp (disch := omega) only [zu_off, zu_sm], by rw [← hm7]; simp (disch := omega) only [zu_sm]⟩
  refine z_weeksL91 hT ((hF7 74 4 rfl).trans n2) (by omega) (by omega) (hA7.law.1 i3) (by omega) nn 0 (m7 91, 0, 0, 0) m7 (by omega) hz8 zFr.refl hR7 hok91 (by dsimp only; rw [e91 57 (by omega)]; omega) (fun m8 hB8 hF8 hR8 hz9 => ?_)
  rw [eL7, e79 0 (by omega)] at hR8
  obtain ⟨-, g2, g3, g4⟩ := hR8
  have e59 := wksA_59 (L := lawR m) (h := m 24 0) (n := n) (k := k) (by omega) (by omega) (i1 24 0).1 nn (m 75, 0, 0, 0) (m7 91, 0, 0, 0) hok ⟨fun j hj => (e91 j hj).symm, rfl⟩
  rw [← e59.2, ← eLL] at g2 g3
  have f79 : ∀ j, j < 3 → m8 79 j = m 24 j := fun j hj => by rw [hF8 79 j rfl, e79 j hj]
  have ecost2 : costR m8 = wr (A.2.1 * m 24 1 + A.2.2.1 * m 24 2) := by
    unfold costR
    rw [f79 1 (by omega), f79 2 (by omega), g2, g3, Int.mul_comm (m 24 1), Int.mul_comm (m 24 2)]
  rw [ecost2]
  have t8 : zFr (inL [(74, some 11), (81, none)]) m8 (telR m8) := ((((((zFr.refl.set rfl).set rfl).set rfl).set rfl).set rfl).set rfl).set rfl
  have hFr : zFr (inL ([(74, some 11), (74, some 12), (74, some 31), (74, some 32), (74, some 33), (81, none), (91, none)] ++ lbL)) m5 (telR m8) := (t57.sub (inL_sub (by decide))).trans ((hF8.sub (inL_sub (by decide))).trans (t8.sub (inL_sub (by decide))))
  have hFall : zFr (inL (remCL ++ (pwLs ++ ([(17, some 10), (19, none), (20, none), (72, some 1), (73, none), (74, some 11), (74, some 12), (74, some 31), (74, some 32), (74, some 33), (81, none), (91, none)] ++ lbL)))) m (telR m8) := (hF5.sub (inL_sub (by decide))).trans (hFr.sub (inL_sub (by decide)))
  have a4 : Agree KRel m4 (telR m8) := (Agree.of t45 rfl).trans (.of hFr rfl)
  have a1 : Agree remCL m1 (telR m8) := (Agree.of t13 rfl).trans ((Agree.of hF4b rfl).trans ((Agree.of t45 rfl).trans (.of hFr rfl)))
  exact h2 _ _ (fun _ => rfl) ⟨n, k, Inv_hu hI0 hz9 (.of hFall rfl) (House_back (by omega) (by omega) i40 (.of hFall rfl) hb a4 hRM hok (fun j _ => hFall 75 j rfl)) (Undo_mark i1 (by omega) (by omega) i6 hMk a1 (.of hFall rfl)) (by rw [hFall 75 57 rfl]; exact i10)⟩
end ZServes
end
-- 82.bits.lean.txt
section
/-! Sets as bits. -/
theorem zn_nat {n : Nat} (h : n < 4294967296) : (Int32.ofInt (n : Int)).toBitVec.toNat = n := by
  have := z_natS (n : Int)
  omega
theorem z_andN {a b : Nat} (ha : a < 2147483648) (hb : b < 4294967296) : z_and (a : Int) (b : Int) = ((a &&& b : Nat) : Int) := by
  unfold z_and
  have e1 : (Int32.ofInt (a : Int) &&& Int32.ofInt (b : Int)).toBitVec.toNat = a &&& b := by
    rw [Int32.toBitVec_and, BitVec.toNat_and, zn_nat (by omega), zn_nat hb]
  have e3 : a &&& b ≤ a := Nat.and_le_left
  have e2 := s_ofnat (z := (Int32.ofInt (a : Int) &&& Int32.ofInt (b : Int))) (by omega)
  omega
theorem z_orN {a b : Nat} (ha : a < 2147483648) (hb : b < 2147483648) : z_or (a : Int) (b : Int) = ((a ||| b : Nat) : Int) := by
  unfold z_or
  have e1 : (Int32.ofInt (a : Int) ||| Int32.ofInt (b : Int)).toBitVec.toNat = a ||| b := by
    rw [Int32.toBitVec_or, BitVec.toNat_or, zn_nat (by omega), zn_nat (by omega)]
  have e3 : a ||| b < 2 ^ 31 := Nat.or_lt_two_pow (by omega) (by omega)
  have e2 := s_ofnat (z := (Int32.ofInt (a : Int) ||| Int32.ofInt (b : Int))) (by omega)
  omega
theorem z_shl1T : ∀ i : Nat, i < 31 → z_shl 1 (i : Int) = ((2 ^ i : Nat) : Int) := by decide +kernel
theorem z_bit {n i : Nat} (hn : n < 2147483648) (hi : i ≤ 31) : z_and (z_shr (n : Int) (i : Int)) 1 = if n.testBit i then 1 else 0 := by
  have e1 : z_shr (n : Int) (i : Int) = ((n / 2 ^ i : Nat) : Int) := by
    rw [z_shrE _ hi, wr_id (by omega) (by omega)]
    exact (Int.natCast_ediv n (2 ^ i)).symm.trans (by rw [Int.natCast_ediv])
  have e2 : n / 2 ^ i ≤ n := Nat.div_le_self n _
  rw [e1, show (1 : Int) = ((1 : Nat) : Int) from rfl, z_andN (by omega) (by omega), Nat.and_one_is_mod, Nat.testBit_eq_decide_div_mod_eq]
  have h2 : n / 2 ^ i % 2 < 2 := Nat.mod_lt _ (by omega)
  by_cases q : n / 2 ^ i % 2 = 1
  · rw [q]
    rfl
  · have q0 : n / 2 ^ i % 2 = 0 := by omega
    rw [q0]
    rfl
/-- those of the first so many of which c holds -/
noncomputable def bset (c : Nat → Bool) : Nat → Nat
  | 0 => 0
  | p + 1 => if c p then bset c p ||| 2 ^ p else bset c p
theorem bset_lt {c : Nat → Bool} : ∀ p, bset c p < 2 ^ p
  | 0 => (by decide : (0 : Nat) < 2 ^ 0)
  | p + 1 => by
    have h := bset_lt (c := c) p
    have h2 : bset c p < 2 ^ (p + 1) := Nat.lt_of_lt_of_le h (Nat.pow_le_pow_right (by omega) (by omega))
    rw [bset]
    split
    · exact Nat.or_lt_two_pow h2 (Nat.pow_lt_pow_right (by omega) (by omega))
    · exact h2
theorem bset_bit {c : Nat → Bool} : ∀ p i, (bset c p).testBit i = (decide (i < p) && c i)
  | 0, i => by
    rw [bset, Nat.zero_testBit, decide_eq_false (by omega), Bool.false_and]
  | p + 1, i => by
    rw [bset]
    by_cases hc : c p = true
    · rw [if_pos hc, Nat.testBit_or, bset_bit p i, Nat.testBit_two_pow]
      by_cases e : i = p
      · subst e
        rw [hc]
        simp
      · have e2 : decide (p = i) = false := decide_eq_false (fun x => e x.symm)
        have e3 : decide (i < p + 1) = decide (i < p) := by
          by_cases q : i < p
          · rw [decide_eq_true q, decide_eq_true (by omega)]
          · rw [decide_eq_false q, decide_eq_false (by omega)]
        rw [e2, e3, Bool.or_false]
    · rw [if_neg hc, bset_bit p i]
      by_cases e : i = p
      · subst e
        rw [Bool.eq_false_iff.mpr hc, Bool.and_false, Bool.and_false]
      · have e3 : decide (i < p + 1) = decide (i < p) := by
          by_cases q : i < p
          · rw [decide_eq_true q, decide_eq_true (by omega)]
          · rw [decide_eq_false q, decide_eq_false (by omega)]
        rw [e3]
theorem bset_congr {c d : Nat → Bool} : ∀ p, (∀ i, i < p → c i = d i) → bset c p = bset d p
  | 0, _ => rfl
  | p + 1, h => by rw [bset, bset, h p (by omega), bset_congr p (fun i hi => h i (by omega))]
/-- one more, by either program -/
theorem bset_step {c : Nat → Bool} {p : Nat} (hp : p < 31) (h : c p = true) : z_or (bset c p : Int) (z_shl 1 (p : Int)) = (bset c (p + 1) : Int) := by
  have h1 := bset_lt (c := c) p
  have h2 : 2 ^ p ≤ 2 ^ 30 := Nat.pow_le_pow_right (by omega) (by omega)
  rw [z_shl1T p hp, z_orN (by omega) (by omega), bset, if_pos h]
theorem bset_skip {c : Nat → Bool} {p : Nat} (h : ¬ c p = true) : (bset c p : Int) = (bset c (p + 1) : Int) := by
  rw [bset, if_neg h]
theorem bset_skip0 {c : Nat → Bool} {p : Nat} (hp : p < 31) (h : ¬ c p = true) : z_or (bset c p : Int) 0 = (bset c (p + 1) : Int) := by
  have h1 := bset_lt (c := c) p
  have h2 : 2 ^ p ≤ 2 ^ 30 := Nat.pow_le_pow_right (by omega) (by omega)
  rw [show (0 : Int) = ((0 : Nat) : Int) from rfl, z_orN (by omega) (by omega), Nat.or_zero, bset, if_neg h]
section ZBits
variable {T : Nat → Nat → zG → (Option zA → zM → Prop) → Prop} {B : Int}
/-- same LAW by both -/
theorem z_sameR (hT : zRules T) {D : Nat} {κ : Option zA → zM → Prop} {m M0 : zM} {sc : zSc} {n k nn : Nat} {c : Nat → Bool} (hI : Inv B sc n k m) (hA : Agree coreK m M0) (hnn : nn ≤ 99) (hB0 : zB M0) (hc : c = fun p => decide (laF m p (m 75 p).toNat nn = laF m p (m 75 p).toNat 0))
    (hk : ∀ M1, zB M1 → Agree coreK m M1 → κ (some (zi (bset c n : Int))) M1) : T (D + 172) 255 (21, [(0, zr 74), (1, zi (nn : Int)), (2, zi 0), (3, zi 0)], [], M0) κ := by
  have b17 : 0 ≤ m 17 0 ∧ m 17 0 ≤ 6 := hI.1 17 0
  have n1 := hI.2.2.2.1.1.1
  have n2 := hI.2.2.2.1.1.2
  have hok := hI.2.2.2.1.2.2.2.2
  have key : ∀ (j t : Nat) (M : zM), t + j = n → zB M → zFr (inL lbL) M0 M → T (D + 172) 255 (21, [(0, zr 74), (1, zi (nn : Int)), (2, zi (bset c t : Int)), (3, zi (t : Int))], [], M) κ := by
    intro j
    induction j with
    | zero =>
      intro t M ht hBM hF
      have et : t = n := by omega
      subst et
      have hAM : Agree coreK m M := hA.trans (.of hF rfl)
      have h1 := bset_lt (c := c) t
      have h2 : 2 ^ t ≤ 2 ^ 6 := Nat.pow_le_pow_right (by omega) (by omega)
      exact zb255_21 (D := D + 169) hT rfl hBM hnn (by omega) (by omega) (fun _ => hk M hBM hAM) (fun q => by have := hAM 74 4 rfl; omega)
    | succ j ih =>
      intro t M ht hBM hF
      have hAM : Agree coreK m M := hA.trans (.of hF rfl)
      have h1 := bset_lt (c := c) t
      have h2 : 2 ^ t ≤ 2 ^ 6 := Nat.pow_le_pow_right (by omega) (by omega)
      have bpl := (hok.1 t (by omega)).1
      have hpl : m 75 t = ((m 75 t).toNat : Int) := by omega
      have e4 := hAM 74 4 rfl
      refine zb255_21 (D := D + 169) hT rfl hBM hnn (by omega) (by omega) (fun q => by omega) (fun _ => ?_)
      refine z_lawInF (pl := (m 75 t).toNat) hT hI hBM (hAM.sub (fun q hq => List.mem_append.mpr (Or.inr (List.mem_append.mpr (Or.inl hq))))) (funext fun j => hAM 78 j rfl) (hAM 75 57 rfl) (by omega) ((hAM 75 t rfl).trans hpl) (by omega) (fun M1 hB1 hF1 => ?_)
      have hAM1 : Agree coreK m M1 := hAM.trans (.of hF1 rfl)
      refine zb255_36 (D := D + 169) hT rfl hB1 hnn (by omega) (by omega) laFB ?_
      refine z_lawInF (d := 0) (pl := (m 75 t).toNat) hT hI hB1 (hAM1.sub (fun q hq => List.mem_append.mpr (Or.inr (List.mem_append.mpr (Or.inl hq))))) (funext fun j => hAM1 78 j rfl) (hAM1 75 57 rfl) (by omega) ((hAM1 75 t rfl).trans hpl) (by omega) (fun M2 hB2 hF2 => ?_)
      have ih2 := ih (t + 1) M2 (by omega) hB2 ((hF.trans hF1).trans hF2)
      refine zb255_42 (D := D + 169) hT rfl hB2 hnn (by omega) (by omega) laFB laFB (fun q => ?_) (fun q => ?_)
      · rw [bset_skip0 (by omega) (by rw [hc]; simpa using q)]
        exact ih2
      · rw [bset_step (by omega) (by rw [hc]; simpa using q)]
        exact ih2
  exact key n 0 M0 (by omega) hB0 zFr.refl
theorem z_sameC (hT : zRules T) {D : Nat} {κ : Option zA → zM → Prop} {m : zM} {sc : zSc} {n k nn : Nat} {c : Nat → Bool} (hI : Inv B sc n k m) (hnn : nn ≤ 99) (hc : c = fun p => decide (laF m p (m 75 p).toNat nn = laF m p (m 75 p).toNat 0))
    (hk : ∀ M1, zB M1 → Agree coreK m M1 → κ (some (zi (bset c n : Int))) M1) : T (D + 5) 139 (16, [(0, zr 1), (1, zi (nn : Int)), (2, zi 0), (3, zi 0)], [], m) κ := by
  have b17 : 0 ≤ m 17 0 ∧ m 17 0 ≤ 6 := hI.1 17 0
  have h4 := hI.2.2.2.1
  have n1 := h4.1.1
  have hok := h4.2.2.2.2
  have key : ∀ (j t : Nat) (M : zM), t + j = n → zB M → zFr (inL [(13, none)]) m M → T (D + 5) 139 (16, [(0, zr 1), (1, zi (nn : Int)), (2, zi (bset c t : Int)), (3, zi (t : Int))], [], M) κ := by
    intro j
    induction j with
    | zero =>
      intro t M ht hBM hF
      have et : t = n := by omega
      subst et
      have hAM : Agree coreK m M := .of hF rfl
      have h1 := bset_lt (c := c) t
      have h2 : 2 ^ t ≤ 2 ^ 6 := Nat.pow_le_pow_right (by omega) (by omega)
      exact zb139_16 hT rfl hBM hnn (by omega) (by omega) (fun _ => hk M hBM hAM) (fun q => by have := hF 17 0 rfl; omega)
    | succ j ih =>
      intro t M ht hBM hF
      have hA : Agree KL m M := .of hF rfl
      have h1 := bset_lt (c := c) t
      have h2 : 2 ^ t ≤ 2 ^ 6 := Nat.pow_le_pow_right (by omega) (by omega)
      have bpl := (hok.1 t (by omega)).1
      have hpl : m 75 t = ((m 75 t).toNat : Int) := by omega
      obtain ⟨r1, r2⟩ := h4.2.2.2.1.1 t (by omega)
      obtain ⟨h78, h18⟩ := h4.2.2.1 t (by omega)
      have b1711 : 0 ≤ M 17 11 ∧ M 17 11 ≤ 400000 := hBM 17 11
      refine zb139_16 hT rfl hBM hnn (by omega) (by omega) (fun q => by have := hF 17 0 rfl; omega) (fun _ => ?_)
      rw [hF 19 t rfl, r1, hpl]
      refine z_lawAt hT hBM (by omega) (by rw [hF 18 t rfl]; omega) (by omega) (by omega) (hA.law.1 hI.2.2.1).1 (fun m1 hB1 hF1 => ?_)
      have hF1b : zFr (inL [(13, none)]) M m1 := hF1.sub (fun c j q => by
        have := Nat.eq_of_beq_eq_true q
        subst this
        rfl)
      have hA1 : Agree KL m m1 := hA.trans (.of hF1b rfl)
      have ev : LW M (M 18 t) (t : Int) (m 75 t).toNat (M 17 11 + nn) = laF m t (m 75 t).toNat nn := by
        unfold laF
        rw [hA.law.2, hF 18 t rfl, hF 17 11 rfl]
      rw [ev]
      refine zb139_50 hT rfl hB1 hnn (by omega) (by omega) laFB ?_
      refine z_lawNow (pl := (m 75 t).toNat) hT hB1 (by omega) (by rw [hF1b 18 t rfl, hF 18 t rfl]; omega) (by rw [hF1b 19 t rfl, hF 19 t rfl, r1]; exact hpl) (by omega) (hA1.law.1 hI.2.2.1).1 (fun m2 hB2 hF2 => ?_)
      have hF2b : zFr (inL [(13, none)]) m1 m2 := hF2.sub (fun c j q => by
        have := Nat.eq_of_beq_eq_true q
        subst this
        rfl)
      have ev2 : LW m1 (m1 18 t) (t : Int) (m 75 t).toNat (m1 17 11) = laF m t (m 75 t).toNat 0 := by
        unfold laF
        rw [hA1.law.2, hF1b 18 t rfl, hF 18 t rfl, hF1b 17 11 rfl, hF 17 11 rfl]
        rw [show m 17 11 + ((0 : Nat) : Int) = m 17 11 by omega]
      rw [ev2]
      have ih2 := ih (t + 1) m2 (by omega) hB2 ((hF.trans hF1b).trans hF2b)
      refine zb139_55 hT rfl hB2 hnn (by omega) (by omega) laFB laFB (fun q => ?_) (fun q => ?_)
      · rw [bset_skip (by rw [hc]; simpa using q)]
        exact ih2
      · rw [bset_step (by omega) (by rw [hc]; simpa using q)]
        exact ih2
  exact key n 0 m (by omega) hI.1 zFr.refl
theorem w_same (hT : zRules T) {v : Int} (hv : isI v) : Way T 139 255 [(0, zr 1), (1, zi v)] [(0, zr 74), (1, zi v)] 5 172 B B True := by
  rintro D m sc ⟨n, k, hI⟩ κ hκ
  have hI0 := hI
  have i1 := hI.1
  have hB1 : zB (zu m 74 12 0) := zB_u i1 trivial
  have hA12 : Agree coreK m (zu m 74 12 0) := .of (L := [(74, some 12)]) (zFr.refl.set rfl) rfl
  have no : ¬ (0 ≤ v ∧ v ≤ 99) → κ (some (zi (-1))) m := by
    intro hno
    refine hκ _ _ (fun D2 κ2 h2 => ?_)
    have fin : κ2 (some (zi (-1))) (zu m 74 12 0) := h2 _ _ (fun _ => rfl) ⟨n, k, Inv_fr hA12 hB1 hI0⟩
    exact zb255_0 (D := D2 + 169) hT i1 hv (fun _ _ => fin) (fun _ _ _ => fin) (fun q1 q2 => absurd ⟨by omega, by omega⟩ hno)
  refine zb139_0 hT i1 hv (fun _ => no (by omega)) (fun q1 q2 => ?_) (fun _ _ => no (by omega))
  obtain ⟨nn, rfl⟩ : ∃ a : Nat, v = (a : Int) := ⟨v.toNat, by omega⟩
  refine z_sameC hT hI0 (by omega) rfl (fun M hBM hAM => hκ _ _ (fun D2 κ2 h2 => ?_))
  refine zb255_0 (D := D2 + 169) hT hBM hv (fun x => by omega) (fun _ x => by omega) (fun _ _ hz => ?_)
  exact z_sameR hT hI0 (hAM.trans (.of (L := [(74, some 12)]) (zFr.refl.set rfl) rfl)) (by omega) hz rfl (fun M1 hB3 hA3 => h2 _ _ (fun _ => rfl) ⟨n, k, Inv_fr hA3 hB3 hI0⟩)
end ZBits
end
