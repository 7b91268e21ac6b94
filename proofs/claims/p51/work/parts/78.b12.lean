section ZBlocks
variable {T : Nat → Nat → zG → (Option zA → zM → Prop) → Prop}
theorem zb180_0r (hT : zRules T) {D : Nat} {κ : Option zA → zM → Prop} {m : zM} {p : Nat} {q : Nat} {n : Nat} 
    (o1 : T (D + 5) 180 (10, [(0, zr 1), (1, zi (p : Int)), (2, zi (q : Int)), (3, zi (n : Int)), (4, zi 0)], [], (zu m 52 1 0)) κ) :
    T (D + 5) 180 (0, [(0, zr 1), (1, zi (p : Int)), (2, zi (q : Int)), (3, zi (n : Int))], [], m) κ :=
  hT.1 [(10, [0, 1, 2, 3, 4])] 6 (D + 5) 180 _ κ (hT.1 [] 6 (D + 4) 74 _ _ (And.intro trivial (hT.1 [(10, [0, 1, 2, 3, 4])] 6 (D + 5) 180 _ _ (o1))))
theorem zb180_0 (hT : zRules T) {D : Nat} {κ : Option zA → zM → Prop} {m : zM} {p : Nat} {q : Nat} {n : Nat}  (hB : zB m) (h_p : p ≤ 5) (h_q : q ≤ 3) (h_n : n ≤ 60) 
    (k1 : zB (zu m 52 1 0) → T (D + 5) 180 (10, [(0, zr 1), (1, zi (p : Int)), (2, zi (q : Int)), (3, zi (n : Int)), (4, zi 0)], [], (zu m 52 1 0)) κ) :
    T (D + 5) 180 (0, [(0, zr 1), (1, zi (p : Int)), (2, zi (q : Int)), (3, zi (n : Int))], [], m) κ := by
  exact zb180_0r hT
    (k1  (zB_u hB (show 0 ≤ 0 ∧ 0 ≤ 60 from ⟨by omega, by omega⟩)))
theorem zb180_10r (hT : zRules T) {D : Nat} {κ : Option zA → zM → Prop} {m : zM} {p : Nat} {q : Nat} {n : Nat} {k : Nat} {lo : zL} (hlo : z_keep [0, 1, 2, 3, 4] lo = [(0, zr 1), (1, zi (p : Int)), (2, zi (q : Int)), (3, zi (n : Int)), (4, zi (k : Int))]) 
    (o1 : ¬ wr (k : Int) < wr (n : Int) → κ (none) m)
    (o2 : wr (k : Int) < wr (n : Int) → T (D + 4) 169 (0, [(0, zr 1), (1, zi (p : Int)), (2, zi (q : Int)), (3, zi ((m 17 11) + (k : Int)))], [], m) (fun r m1 => T (D + 5) 180 (36, [(0, zr 1), (1, zi (p : Int)), (2, zi (q : Int)), (3, zi (n : Int)), (4, zi (k : Int))], r.toList ++ [zr 52], m1) κ)) :
    T (D + 5) 180 (10, lo, [], m) κ :=
  zkeep hT hlo (hT.1 [(10, [0, 1, 2, 3, 4])] 6 (D + 5) 180 _ κ (And.intro (fun a1 => (o1 a1)) (fun a2 => (hT.1 [(10, [0, 1, 2, 3, 4])] 6 (D + 5) 180 (21, [(0, zr 1), (1, zi (p : Int)), (2, zi (q : Int)), (3, zi (n : Int)), (4, zi (k : Int))], [zr 1, zr 52], m) _ (hT.1 [(10, [0, 1, 2, 3, 4])] 6 (D + 5) 180 (32, [(0, zr 1), (1, zi (p : Int)), (2, zi (q : Int)), (3, zi (n : Int)), (4, zi (k : Int))], [zi (k : Int), zi (m 17 11), zi (q : Int), zi (p : Int), zr 1, zr 52], m) _ (o2 (Classical.byContradiction a2)))))))
theorem zb180_10 (hT : zRules T) {D : Nat} {κ : Option zA → zM → Prop} {m : zM} {p : Nat} {q : Nat} {n : Nat} {k : Nat} {lo : zL} (hlo : z_keep [0, 1, 2, 3, 4] lo = [(0, zr 1), (1, zi (p : Int)), (2, zi (q : Int)), (3, zi (n : Int)), (4, zi (k : Int))])  (hB : zB m) (h_p : p ≤ 5) (h_q : q ≤ 3) (h_n : n ≤ 60) (h_k : k ≤ 60) 
    (k1 : ¬ (k : Int) < (n : Int) → κ (none) m)
    (k2 : (k : Int) < (n : Int) → T (D + 4) 169 (0, [(0, zr 1), (1, zi (p : Int)), (2, zi (q : Int)), (3, zi ((m 17 11) + (k : Int)))], [], m) (fun r m1 => T (D + 5) 180 (36, [(0, zr 1), (1, zi (p : Int)), (2, zi (q : Int)), (3, zi (n : Int)), (4, zi (k : Int))], r.toList ++ [zr 52], m1) κ)) :
    T (D + 5) 180 (10, lo, [], m) κ := by
  have hb4 : 0 ≤ (m 17 11) ∧ (m 17 11) ≤ 400000 := hB 17 11
  have he0 : wr (k : Int) = (k : Int) := wr_id (by omega) (by omega)
  have he1 : wr (n : Int) = (n : Int) := wr_id (by omega) (by omega)
  have key := @zb180_10r T hT D κ m p q n k lo hlo
  simp only [he0, he1, Int.toNat_natCast] at key
  exact key
    k1
    k2
theorem zb180_36r (hT : zRules T) {D : Nat} {κ : Option zA → zM → Prop} {m : zM} {p : Nat} {q : Nat} {n : Nat} {k : Nat} {v : Int} {lo : zL} (hlo : z_keep [0, 1, 2, 3, 4] lo = [(0, zr 1), (1, zi (p : Int)), (2, zi (q : Int)), (3, zi (n : Int)), (4, zi (k : Int))]) 
    (o1 : ¬ wr (m 52 1) < 60 → T (D + 5) 180 (10, [(0, zr 1), (1, zi (p : Int)), (2, zi (q : Int)), (3, zi (n : Int)), (4, zi ((k : Int) + 1))], [], m) κ)
    (o2 : wr (m 52 1) < 60 → (0 ≤ wr (m 52 1) ∧ wr (m 52 1) < 60))
    (o3 : wr (m 52 1) < 60 → T (D + 5) 180 (10, [(0, zr 1), (1, zi (p : Int)), (2, zi (q : Int)), (3, zi (n : Int)), (4, zi ((k : Int) + 1))], [], (zu (zu m 53 ((wr (m 52 1)).toNat) v) 52 1 ((m 52 1) + 1))) κ) :
    T (D + 5) 180 (36, lo, [zi v, zr 52], m) κ :=
  zkeep hT hlo (hT.1 [(10, [0, 1, 2, 3, 4])] 6 (D + 5) 180 _ κ (hT.1 [] 6 (D + 4) 75 _ _ (And.intro (fun a1 => (hT.1 [(10, [0, 1, 2, 3, 4])] 6 (D + 5) 180 _ _ (o1 a1))) (fun a2 => (hT.1 [] 6 (D + 4) 75 (13, [(0, zr 52), (1, zi v)], [zr 53], m) _ (And.intro (And.intro (o2 (Classical.byContradiction a2)) trivial) (hT.1 [] 6 (D + 4) 75 (21, [(0, zr 52), (1, zi v)], [zr 52, zr 52], (zu m 53 ((wr (m 52 1)).toNat) v)) _ (And.intro trivial (hT.1 [(10, [0, 1, 2, 3, 4])] 6 (D + 5) 180 _ _ (o3 (Classical.byContradiction a2)))))))))))
theorem zb180_36 (hT : zRules T) {D : Nat} {κ : Option zA → zM → Prop} {m : zM} {p : Nat} {q : Nat} {n : Nat} {k : Nat} {v : Int} {lo : zL} (hlo : z_keep [0, 1, 2, 3, 4] lo = [(0, zr 1), (1, zi (p : Int)), (2, zi (q : Int)), (3, zi (n : Int)), (4, zi (k : Int))])  (hB : zB m) (h_p : p ≤ 5) (h_q : q ≤ 3) (h_n : n ≤ 60) (h_k : k ≤ 59) (h_v : 0 ≤ v ∧ v ≤ 99) 
    (k1 : ¬ (m 52 1) < 60 → T (D + 5) 180 (10, [(0, zr 1), (1, zi (p : Int)), (2, zi (q : Int)), (3, zi (n : Int)), (4, zi ((k : Int) + 1))], [], m) κ)
    (k2 : (m 52 1) < 60 → zB (zu (zu m 53 ((m 52 1).toNat) v) 52 1 ((m 52 1) + 1)) → T (D + 5) 180 (10, [(0, zr 1), (1, zi (p : Int)), (2, zi (q : Int)), (3, zi (n : Int)), (4, zi ((k : Int) + 1))], [], (zu (zu m 53 ((m 52 1).toNat) v) 52 1 ((m 52 1) + 1))) κ) :
    T (D + 5) 180 (36, lo, [zi v, zr 52], m) κ := by
  have hb5 : 0 ≤ (m 52 1) ∧ (m 52 1) ≤ 60 := hB 52 1
  have he0 : wr (m 52 1) = (m 52 1) := wr_id (by omega) (by omega)
  have key := @zb180_36r T hT D κ m p q n k v lo hlo
  simp only [he0, Int.toNat_natCast] at key
  exact key
    k1
    (fun x0 => by refine ⟨?_, ?_⟩ <;> omega)
    (fun x0 => k2 x0 (zB_u (zB_u hB (show 0 ≤ v ∧ v ≤ 99 from ⟨by omega, by omega⟩)) (show 0 ≤ ((m 52 1) + 1) ∧ ((m 52 1) + 1) ≤ 60 from ⟨by omega, by omega⟩)))
theorem zb76_0r (hT : zRules T) {D : Nat} {κ : Option zA → zM → Prop} {m : zM} 
    (o1 : T (D + 1) 76 (4, [(0, zr 52), (1, zi 0), (2, zi 1)], [], m) κ) :
    T (D + 1) 76 (0, [(0, zr 52)], [], m) κ :=
  hT.1 [(4, [0, 1, 2])] 6 (D + 1) 76 _ κ (o1)
theorem zb76_0 (hT : zRules T) {D : Nat} {κ : Option zA → zM → Prop} {m : zM}  (hB : zB m) 
    (k1 : T (D + 1) 76 (4, [(0, zr 52), (1, zi 0), (2, zi 1)], [], m) κ) :
    T (D + 1) 76 (0, [(0, zr 52)], [], m) κ := by
  exact zb76_0r hT
    k1
theorem zb76_4r (hT : zRules T) {D : Nat} {κ : Option zA → zM → Prop} {m : zM} {f : Nat} {k : Nat} {lo : zL} (hlo : z_keep [0, 1, 2] lo = [(0, zr 52), (1, zi (f : Int)), (2, zi (k : Int))]) 
    (o1 : ¬ wr (k : Int) < wr (m 52 1) → κ (some (zi (wr (f : Int)))) m)
    (o2 : wr (k : Int) < wr (m 52 1) → (0 ≤ wr (k : Int) ∧ wr (k : Int) < 60))
    (o3 : wr (k : Int) < wr (m 52 1) → (0 ≤ wr (f : Int) ∧ wr (f : Int) < 60))
    (o4 : wr (k : Int) < wr (m 52 1) → ¬ wr (m 53 ((wr (f : Int)).toNat)) < wr (m 53 ((wr (k : Int)).toNat)) → T (D + 1) 76 (4, [(0, zr 52), (1, zi (f : Int)), (2, zi ((k : Int) + 1))], [], m) κ)
    (o5 : wr (k : Int) < wr (m 52 1) → wr (m 53 ((wr (f : Int)).toNat)) < wr (m 53 ((wr (k : Int)).toNat)) → T (D + 1) 76 (4, [(0, zr 52), (1, zi (k : Int)), (2, zi ((k : Int) + 1))], [], m) κ) :
    T (D + 1) 76 (4, lo, [], m) κ :=
  zkeep hT hlo (hT.1 [(4, [0, 1, 2])] 6 (D + 1) 76 _ κ (And.intro (fun a1 => (o1 a1)) (fun a2 => (hT.1 [(4, [0, 1, 2])] 6 (D + 1) 76 (16, [(0, zr 52), (1, zi (f : Int)), (2, zi (k : Int))], [zr 53], m) _ (And.intro (o2 (Classical.byContradiction a2)) (And.intro (o3 (Classical.byContradiction a2)) (hT.1 [(4, [0, 1, 2])] 6 (D + 1) 76 (24, [(0, zr 52), (1, zi (f : Int)), (2, zi (k : Int))], [zi (m 53 ((wr (f : Int)).toNat)), zi (m 53 ((wr (k : Int)).toNat))], m) _ (And.intro (fun a3 => (o4 (Classical.byContradiction a2) a3)) (fun a4 => (o5 (Classical.byContradiction a2) (Classical.byContradiction a4)))))))))))
theorem zb76_4 (hT : zRules T) {D : Nat} {κ : Option zA → zM → Prop} {m : zM} {f : Nat} {k : Nat} {lo : zL} (hlo : z_keep [0, 1, 2] lo = [(0, zr 52), (1, zi (f : Int)), (2, zi (k : Int))])  (hB : zB m) (h_f : f ≤ 60) (h_k : k ≤ 60) 
    (k1 : ¬ (k : Int) < (m 52 1) → κ (some (zi (f : Int))) m)
    (k2 : (k : Int) < (m 52 1) → (0 ≤ (f : Int) ∧ (f : Int) < 60))
    (k3 : (k : Int) < (m 52 1) → ¬ (m 53 f) < (m 53 k) → T (D + 1) 76 (4, [(0, zr 52), (1, zi (f : Int)), (2, zi ((k : Int) + 1))], [], m) κ)
    (k4 : (k : Int) < (m 52 1) → (m 53 f) < (m 53 k) → T (D + 1) 76 (4, [(0, zr 52), (1, zi (k : Int)), (2, zi ((k : Int) + 1))], [], m) κ) :
    T (D + 1) 76 (4, lo, [], m) κ := by
  have hb2 : 0 ≤ (m 52 1) ∧ (m 52 1) ≤ 60 := hB 52 1
  have hb3 : 0 ≤ (m 53 k) ∧ (m 53 k) ≤ 99 := hB 53 k
  have hb4 : 0 ≤ (m 53 f) ∧ (m 53 f) ≤ 99 := hB 53 f
  have he0 : wr (k : Int) = (k : Int) := wr_id (by omega) (by omega)
  have he1 : wr (m 52 1) = (m 52 1) := wr_id (by omega) (by omega)
  have he2 : (k : Int).toNat = k := by omega
  have he3 : wr (f : Int) = (f : Int) := wr_id (by omega) (by omega)
  have he4 : (f : Int).toNat = f := by omega
  have he5 : wr (m 53 f) = (m 53 f) := wr_id (by omega) (by omega)
  have he6 : wr (m 53 k) = (m 53 k) := wr_id (by omega) (by omega)
  have key := @zb76_4r T hT D κ m f k lo hlo
  simp only [he0, he1, he2, he3, he4, he5, he6, Int.toNat_natCast] at key
  exact key
    k1
    (fun x0 => by refine ⟨?_, ?_⟩ <;> omega)
    k2
    k3
    k4
theorem zb77_0r (hT : zRules T) {D : Nat} {κ : Option zA → zM → Prop} {m : zM} 
    (o1 : T (D + 1) 77 (4, [(0, zr 52), (1, zi 0), (2, zi 1)], [], m) κ) :
    T (D + 1) 77 (0, [(0, zr 52)], [], m) κ :=
  hT.1 [(4, [0, 1, 2])] 6 (D + 1) 77 _ κ (o1)
theorem zb77_0 (hT : zRules T) {D : Nat} {κ : Option zA → zM → Prop} {m : zM}  (hB : zB m) 
    (k1 : T (D + 1) 77 (4, [(0, zr 52), (1, zi 0), (2, zi 1)], [], m) κ) :
    T (D + 1) 77 (0, [(0, zr 52)], [], m) κ := by
  exact zb77_0r hT
    k1
theorem zb77_4r (hT : zRules T) {D : Nat} {κ : Option zA → zM → Prop} {m : zM} {f : Nat} {k : Nat} {lo : zL} (hlo : z_keep [0, 1, 2] lo = [(0, zr 52), (1, zi (f : Int)), (2, zi (k : Int))]) 
    (o1 : ¬ wr (k : Int) < wr (m 52 1) → κ (some (zi (wr (f : Int)))) m)
    (o2 : wr (k : Int) < wr (m 52 1) → (0 ≤ wr (k : Int) ∧ wr (k : Int) < 60))
    (o3 : wr (k : Int) < wr (m 52 1) → (0 ≤ wr (f : Int) ∧ wr (f : Int) < 60))
    (o4 : wr (k : Int) < wr (m 52 1) → ¬ wr (m 53 ((wr (k : Int)).toNat)) < wr (m 53 ((wr (f : Int)).toNat)) → T (D + 1) 77 (4, [(0, zr 52), (1, zi (f : Int)), (2, zi ((k : Int) + 1))], [], m) κ)
    (o5 : wr (k : Int) < wr (m 52 1) → wr (m 53 ((wr (k : Int)).toNat)) < wr (m 53 ((wr (f : Int)).toNat)) → T (D + 1) 77 (4, [(0, zr 52), (1, zi (k : Int)), (2, zi ((k : Int) + 1))], [], m) κ) :
    T (D + 1) 77 (4, lo, [], m) κ :=
  zkeep hT hlo (hT.1 [(4, [0, 1, 2])] 6 (D + 1) 77 _ κ (And.intro (fun a1 => (o1 a1)) (fun a2 => (hT.1 [(4, [0, 1, 2])] 6 (D + 1) 77 (16, [(0, zr 52), (1, zi (f : Int)), (2, zi (k : Int))], [zr 53], m) _ (And.intro (o2 (Classical.byContradiction a2)) (And.intro (o3 (Classical.byContradiction a2)) (hT.1 [(4, [0, 1, 2])] 6 (D + 1) 77 (24, [(0, zr 52), (1, zi (f : Int)), (2, zi (k : Int))], [zi (m 53 ((wr (f : Int)).toNat)), zi (m 53 ((wr (k : Int)).toNat))], m) _ (And.intro (fun a3 => (o4 (Classical.byContradiction a2) a3)) (fun a4 => (o5 (Classical.byContradiction a2) (Classical.byContradiction a4)))))))))))
theorem zb77_4 (hT : zRules T) {D : Nat} {κ : Option zA → zM → Prop} {m : zM} {f : Nat} {k : Nat} {lo : zL} (hlo : z_keep [0, 1, 2] lo = [(0, zr 52), (1, zi (f : Int)), (2, zi (k : Int))])  (hB : zB m) (h_f : f ≤ 60) (h_k : k ≤ 60) 
    (k1 : ¬ (k : Int) < (m 52 1) → κ (some (zi (f : Int))) m)
    (k2 : (k : Int) < (m 52 1) → (0 ≤ (f : Int) ∧ (f : Int) < 60))
    (k3 : (k : Int) < (m 52 1) → ¬ (m 53 k) < (m 53 f) → T (D + 1) 77 (4, [(0, zr 52), (1, zi (f : Int)), (2, zi ((k : Int) + 1))], [], m) κ)
    (k4 : (k : Int) < (m 52 1) → (m 53 k) < (m 53 f) → T (D + 1) 77 (4, [(0, zr 52), (1, zi (k : Int)), (2, zi ((k : Int) + 1))], [], m) κ) :
    T (D + 1) 77 (4, lo, [], m) κ := by
  have hb2 : 0 ≤ (m 52 1) ∧ (m 52 1) ≤ 60 := hB 52 1
  have hb3 : 0 ≤ (m 53 k) ∧ (m 53 k) ≤ 99 := hB 53 k
  have hb4 : 0 ≤ (m 53 f) ∧ (m 53 f) ≤ 99 := hB 53 f
  have he0 : wr (k : Int) = (k : Int) := wr_id (by omega) (by omega)
  have he1 : wr (m 52 1) = (m 52 1) := wr_id (by omega) (by omega)
  have he2 : (k : Int).toNat = k := by omega
  have he3 : wr (f : Int) = (f : Int) := wr_id (by omega) (by omega)
  have he4 : (f : Int).toNat = f := by omega
  have he5 : wr (m 53 k) = (m 53 k) := wr_id (by omega) (by omega)
  have he6 : wr (m 53 f) = (m 53 f) := wr_id (by omega) (by omega)
  have key := @zb77_4r T hT D κ m f k lo hlo
  simp only [he0, he1, he2, he3, he4, he5, he6, Int.toNat_natCast] at key
  exact key
    k1
    (fun x0 => by refine ⟨?_, ?_⟩ <;> omega)
    k2
    k3
    k4
theorem zb78_0r (hT : zRules T) {D : Nat} {κ : Option zA → zM → Prop} {m : zM} {h : Int} 
    (o1 : T (D + 1) 78 (2, [(0, zr 52), (1, zi h), (2, zi 0)], [], m) κ) :
    T (D + 1) 78 (0, [(0, zr 52), (1, zi h)], [], m) κ :=
  hT.1 [(2, [0, 1, 2]), (23, [0, 1, 2]), (38, [0, 1, 2, 3])] 6 (D + 1) 78 _ κ (o1)
theorem zb78_0 (hT : zRules T) {D : Nat} {κ : Option zA → zM → Prop} {m : zM} {h : Int}  (hB : zB m) (h_h : 0 ≤ h ∧ h ≤ 9) 
    (k1 : T (D + 1) 78 (2, [(0, zr 52), (1, zi h), (2, zi 0)], [], m) κ) :
    T (D + 1) 78 (0, [(0, zr 52), (1, zi h)], [], m) κ := by
  exact zb78_0r hT
    k1
theorem zb78_2r (hT : zRules T) {D : Nat} {κ : Option zA → zM → Prop} {m : zM} {h : Int} {a : Nat} {lo : zL} (hlo : z_keep [0, 1, 2] lo = [(0, zr 52), (1, zi h), (2, zi (a : Int))]) 
    (o1 : 108 < wr (a : Int) → T (D + 1) 78 (23, [(0, zr 52), (1, zi h), (2, zi 0)], [], m) κ)
    (o2 : ¬ 108 < wr (a : Int) → (0 ≤ wr (a : Int) ∧ wr (a : Int) < 109))
    (o3 : ¬ 108 < wr (a : Int) → T (D + 1) 78 (2, [(0, zr 52), (1, zi h), (2, zi ((a : Int) + 1))], [], (zu m 54 ((wr (a : Int)).toNat) 0)) κ) :
    T (D + 1) 78 (2, lo, [], m) κ :=
  zkeep hT hlo (hT.1 [(2, [0, 1, 2]), (23, [0, 1, 2]), (38, [0, 1, 2, 3])] 6 (D + 1) 78 _ κ (And.intro (fun a1 => (o1 a1)) (fun a2 => (hT.1 [(2, [0, 1, 2]), (23, [0, 1, 2]), (38, [0, 1, 2, 3])] 6 (D + 1) 78 (13, [(0, zr 52), (1, zi h), (2, zi (a : Int))], [zi (a : Int), zr 54], m) _ (And.intro (And.intro (o2 a2) trivial) (o3 a2))))))
theorem zb78_2 (hT : zRules T) {D : Nat} {κ : Option zA → zM → Prop} {m : zM} {h : Int} {a : Nat} {lo : zL} (hlo : z_keep [0, 1, 2] lo = [(0, zr 52), (1, zi h), (2, zi (a : Int))])  (hB : zB m) (h_h : 0 ≤ h ∧ h ≤ 9) (h_a : a ≤ 109) 
    (k1 : 108 < (a : Int) → T (D + 1) 78 (23, [(0, zr 52), (1, zi h), (2, zi 0)], [], m) κ)
    (k2 : ¬ 108 < (a : Int) → zB (zu m 54 a 0) → T (D + 1) 78 (2, [(0, zr 52), (1, zi h), (2, zi ((a : Int) + 1))], [], (zu m 54 a 0)) κ) :
    T (D + 1) 78 (2, lo, [], m) κ := by
  have he0 : wr (a : Int) = (a : Int) := wr_id (by omega) (by omega)
  have he1 : (a : Int).toNat = a := by omega
  have key := @zb78_2r T hT D κ m h a lo hlo
  simp only [he0, he1, Int.toNat_natCast] at key
  exact key
    k1
    (fun x0 => by refine ⟨?_, ?_⟩ <;> omega)
    (fun x0 => k2 x0 (zB_u hB trivial))
theorem zb78_23r (hT : zRules T) {D : Nat} {κ : Option zA → zM → Prop} {m : zM} {h : Int} {k : Nat} {lo : zL} (hlo : z_keep [0, 1, 2] lo = [(0, zr 52), (1, zi h), (2, zi (k : Int))]) 
    (o1 : ¬ wr (k : Int) < wr (m 52 1) → κ (none) m)
    (o2 : wr (k : Int) < wr (m 52 1) → (0 ≤ wr (k : Int) ∧ wr (k : Int) < 60))
    (o3 : wr (k : Int) < wr (m 52 1) → T (D + 1) 78 (38, [(0, zr 52), (1, zi h), (2, zi (k : Int)), (3, zi (m 53 ((wr (k : Int)).toNat)))], [], m) κ) :
    T (D + 1) 78 (23, lo, [], m) κ :=
  zkeep hT hlo (hT.1 [(2, [0, 1, 2]), (23, [0, 1, 2]), (38, [0, 1, 2, 3])] 6 (D + 1) 78 _ κ (And.intro (fun a1 => (o1 a1)) (fun a2 => (hT.1 [(2, [0, 1, 2]), (23, [0, 1, 2]), (38, [0, 1, 2, 3])] 6 (D + 1) 78 (35, [(0, zr 52), (1, zi h), (2, zi (k : Int))], [zr 53], m) _ (And.intro (o2 (Classical.byContradiction a2)) (o3 (Classical.byContradiction a2)))))))
theorem zb78_23 (hT : zRules T) {D : Nat} {κ : Option zA → zM → Prop} {m : zM} {h : Int} {k : Nat} {lo : zL} (hlo : z_keep [0, 1, 2] lo = [(0, zr 52), (1, zi h), (2, zi (k : Int))])  (hB : zB m) (h_h : 0 ≤ h ∧ h ≤ 9) (h_k : k ≤ 60) 
    (k1 : ¬ (k : Int) < (m 52 1) → κ (none) m)
    (k2 : (k : Int) < (m 52 1) → T (D + 1) 78 (38, [(0, zr 52), (1, zi h), (2, zi (k : Int)), (3, zi (m 53 k))], [], m) κ) :
    T (D + 1) 78 (23, lo, [], m) κ := by
  have hb2 : 0 ≤ (m 52 1) ∧ (m 52 1) ≤ 60 := hB 52 1
  have hb3 : 0 ≤ (m 53 k) ∧ (m 53 k) ≤ 99 := hB 53 k
  have he0 : wr (k : Int) = (k : Int) := wr_id (by omega) (by omega)
  have he1 : wr (m 52 1) = (m 52 1) := wr_id (by omega) (by omega)
  have he2 : (k : Int).toNat = k := by omega
  have key := @zb78_23r T hT D κ m h k lo hlo
  simp only [he0, he1, he2, Int.toNat_natCast] at key
  exact key
    k1
    (fun x0 => by refine ⟨?_, ?_⟩ <;> omega)
    k2
theorem zb78_38r (hT : zRules T) {D : Nat} {κ : Option zA → zM → Prop} {m : zM} {h : Int} {k : Nat} {a : Nat} {lo : zL} (hlo : z_keep [0, 1, 2, 3] lo = [(0, zr 52), (1, zi h), (2, zi (k : Int)), (3, zi (a : Int))]) 
    (o1 : (0 ≤ wr (k : Int) ∧ wr (k : Int) < 60))
    (o2 : wr ((m 53 ((wr (k : Int)).toNat)) + h) < wr (a : Int) → T (D + 1) 78 (23, [(0, zr 52), (1, zi h), (2, zi ((k : Int) + 1))], [], m) κ)
    (o3 : ¬ wr ((m 53 ((wr (k : Int)).toNat)) + h) < wr (a : Int) → 108 < wr (a : Int) → False)
    (o4 : ¬ wr ((m 53 ((wr (k : Int)).toNat)) + h) < wr (a : Int) → ¬ 108 < wr (a : Int) → (0 ≤ wr (a : Int) ∧ wr (a : Int) < 109))
    (o5 : ¬ wr ((m 53 ((wr (k : Int)).toNat)) + h) < wr (a : Int) → ¬ 108 < wr (a : Int) → (0 ≤ wr (a : Int) ∧ wr (a : Int) < 109))
    (o6 : ¬ wr ((m 53 ((wr (k : Int)).toNat)) + h) < wr (a : Int) → ¬ 108 < wr (a : Int) → T (D + 1) 78 (38, [(0, zr 52), (1, zi h), (2, zi (k : Int)), (3, zi ((a : Int) + 1))], [], (zu m 54 ((wr (a : Int)).toNat) ((m 54 ((wr (a : Int)).toNat)) + 1))) κ) :
    T (D + 1) 78 (38, lo, [], m) κ :=
  zkeep hT hlo (hT.1 [(2, [0, 1, 2]), (23, [0, 1, 2]), (38, [0, 1, 2, 3])] 6 (D + 1) 78 _ κ (And.intro (o1) (hT.1 [(2, [0, 1, 2]), (23, [0, 1, 2]), (38, [0, 1, 2, 3])] 6 (D + 1) 78 (46, [(0, zr 52), (1, zi h), (2, zi (k : Int)), (3, zi (a : Int))], [zi h, zi (m 53 ((wr (k : Int)).toNat)), zi (a : Int)], m) _ (And.intro (fun a1 => (o2 a1)) (fun a2 => (And.intro (fun a3 => (o3 a2 a3).elim) (fun a4 => (hT.1 [(2, [0, 1, 2]), (23, [0, 1, 2]), (38, [0, 1, 2, 3])] 6 (D + 1) 78 (57, [(0, zr 52), (1, zi h), (2, zi (k : Int)), (3, zi (a : Int))], [zr 52], m) _ (And.intro (o4 a2 a4) (hT.1 [(2, [0, 1, 2]), (23, [0, 1, 2]), (38, [0, 1, 2, 3])] 6 (D + 1) 78 (65, [(0, zr 52), (1, zi h), (2, zi (k : Int)), (3, zi (a : Int))], [zi ((m 54 ((wr (a : Int)).toNat)) + 1), zi (a : Int), zr 54], m) _ (And.intro (And.intro (o5 a2 a4) trivial) (o6 a2 a4))))))))))))
theorem zb78_38 (hT : zRules T) {D : Nat} {κ : Option zA → zM → Prop} {m : zM} {h : Int} {k : Nat} {a : Nat} {lo : zL} (hlo : z_keep [0, 1, 2, 3] lo = [(0, zr 52), (1, zi h), (2, zi (k : Int)), (3, zi (a : Int))])  (hB : zB m) (h_h : 0 ≤ h ∧ h ≤ 9) (h_k : k ≤ 59) (h_a : a ≤ 109) 
    (k1 : ((m 53 k) + h) < (a : Int) → T (D + 1) 78 (23, [(0, zr 52), (1, zi h), (2, zi ((k : Int) + 1))], [], m) κ)
    (k2 : ¬ ((m 53 k) + h) < (a : Int) → zB (zu m 54 a ((m 54 a) + 1)) → T (D + 1) 78 (38, [(0, zr 52), (1, zi h), (2, zi (k : Int)), (3, zi ((a : Int) + 1))], [], (zu m 54 a ((m 54 a) + 1))) κ) :
    T (D + 1) 78 (38, lo, [], m) κ := by
  have hb3 : 0 ≤ (m 53 k) ∧ (m 53 k) ≤ 99 := hB 53 k
  have he0 : wr (k : Int) = (k : Int) := wr_id (by omega) (by omega)
  have he1 : (k : Int).toNat = k := by omega
  have he2 : wr ((m 53 k) + h) = ((m 53 k) + h) := wr_id (by omega) (by omega)
  have he3 : wr (a : Int) = (a : Int) := wr_id (by omega) (by omega)
  have he4 : (a : Int).toNat = a := by omega
  have key := @zb78_38r T hT D κ m h k a lo hlo
  simp only [he0, he1, he2, he3, he4, Int.toNat_natCast] at key
  exact key
    (by refine ⟨?_, ?_⟩ <;> omega)
    k1
    (fun x0 x1 => by omega)
    (fun x0 x1 => by refine ⟨?_, ?_⟩ <;> omega)
    (fun x0 x1 => by refine ⟨?_, ?_⟩ <;> omega)
    (fun x0 x1 => k2 x0 (zB_u hB trivial))
theorem zb79_0r (hT : zRules T) {D : Nat} {κ : Option zA → zM → Prop} {m : zM} 
    (o1 : T (D + 1) 79 (4, [(0, zr 52), (1, zi 0), (2, zi 1)], [], m) κ) :
    T (D + 1) 79 (0, [(0, zr 52)], [], m) κ :=
  hT.1 [(4, [0, 1, 2])] 6 (D + 1) 79 _ κ (o1)
theorem zb79_0 (hT : zRules T) {D : Nat} {κ : Option zA → zM → Prop} {m : zM}  (hB : zB m) 
    (k1 : T (D + 1) 79 (4, [(0, zr 52), (1, zi 0), (2, zi 1)], [], m) κ) :
    T (D + 1) 79 (0, [(0, zr 52)], [], m) κ := by
  exact zb79_0r hT
    k1
theorem zb79_4r (hT : zRules T) {D : Nat} {κ : Option zA → zM → Prop} {m : zM} {f : Nat} {a : Nat} {lo : zL} (hlo : z_keep [0, 1, 2] lo = [(0, zr 52), (1, zi (f : Int)), (2, zi (a : Int))]) 
    (o1 : 108 < wr (a : Int) → κ (some (zi (wr (f : Int)))) m)
    (o2 : ¬ 108 < wr (a : Int) → (0 ≤ wr (a : Int) ∧ wr (a : Int) < 109))
    (o3 : ¬ 108 < wr (a : Int) → (0 ≤ wr (f : Int) ∧ wr (f : Int) < 109))
    (o4 : ¬ 108 < wr (a : Int) → ¬ wr (m 54 ((wr (f : Int)).toNat)) < wr (m 54 ((wr (a : Int)).toNat)) → T (D + 1) 79 (4, [(0, zr 52), (1, zi (f : Int)), (2, zi ((a : Int) + 1))], [], m) κ)
    (o5 : ¬ 108 < wr (a : Int) → wr (m 54 ((wr (f : Int)).toNat)) < wr (m 54 ((wr (a : Int)).toNat)) → T (D + 1) 79 (4, [(0, zr 52), (1, zi (a : Int)), (2, zi ((a : Int) + 1))], [], m) κ) :
    T (D + 1) 79 (4, lo, [], m) κ :=
  zkeep hT hlo (hT.1 [(4, [0, 1, 2])] 6 (D + 1) 79 _ κ (And.intro (fun a1 => (o1 a1)) (fun a2 => (hT.1 [(4, [0, 1, 2])] 6 (D + 1) 79 (15, [(0, zr 52), (1, zi (f : Int)), (2, zi (a : Int))], [zi (a : Int), zr 54], m) _ (And.intro (o2 a2) (And.intro (o3 a2) (And.intro (fun a3 => (hT.1 [(4, [0, 1, 2])] 6 (D + 1) 79 (27, [(0, zr 52), (1, zi (f : Int)), (2, zi (a : Int))], [], m) _ (o4 a2 a3))) (fun a4 => (hT.1 [(4, [0, 1, 2])] 6 (D + 1) 79 (25, [(0, zr 52), (1, zi (f : Int)), (2, zi (a : Int))], [], m) _ (o5 a2 (Classical.byContradiction a4)))))))))))
theorem zb79_4 (hT : zRules T) {D : Nat} {κ : Option zA → zM → Prop} {m : zM} {f : Nat} {a : Nat} {lo : zL} (hlo : z_keep [0, 1, 2] lo = [(0, zr 52), (1, zi (f : Int)), (2, zi (a : Int))])  (hB : zB m) (h_f : f ≤ 108) (h_a : a ≤ 109) 
    (k1 : 108 < (a : Int) → κ (some (zi (f : Int))) m)
    (k2 : ¬ 108 < (a : Int) → ¬ wr (m 54 f) < wr (m 54 a) → T (D + 1) 79 (4, [(0, zr 52), (1, zi (f : Int)), (2, zi ((a : Int) + 1))], [], m) κ)
    (k3 : ¬ 108 < (a : Int) → wr (m 54 f) < wr (m 54 a) → T (D + 1) 79 (4, [(0, zr 52), (1, zi (a : Int)), (2, zi ((a : Int) + 1))], [], m) κ) :
    T (D + 1) 79 (4, lo, [], m) κ := by
  have hb2 : (-2147483648) ≤ wr (m 54 f) ∧ wr (m 54 f) ≤ 2147483647 := wrB (m 54 f)
  have hb3 : (-2147483648) ≤ wr (m 54 a) ∧ wr (m 54 a) ≤ 2147483647 := wrB (m 54 a)
  have he0 : wr (a : Int) = (a : Int) := wr_id (by omega) (by omega)
  have he1 : wr (f : Int) = (f : Int) := wr_id (by omega) (by omega)
  have he2 : (a : Int).toNat = a := by omega
  have he3 : (f : Int).toNat = f := by omega
  have key := @zb79_4r T hT D κ m f a lo hlo
  simp only [he0, he1, he2, he3, Int.toNat_natCast] at key
  exact key
    k1
    (fun x0 => by refine ⟨?_, ?_⟩ <;> omega)
    (fun x0 => by refine ⟨?_, ?_⟩ <;> omega)
    k2
    k3
theorem zb80_0r (hT : zRules T) {D : Nat} {κ : Option zA → zM → Prop} {m : zM} 
    (o1 : T (D + 1) 80 (4, [(0, zr 52), (1, zi 0), (2, zi 0)], [], m) κ) :
    T (D + 1) 80 (0, [(0, zr 52)], [], m) κ :=
  hT.1 [(4, [0, 1, 2])] 6 (D + 1) 80 _ κ (o1)
theorem zb80_0 (hT : zRules T) {D : Nat} {κ : Option zA → zM → Prop} {m : zM}  (hB : zB m) 
    (k1 : T (D + 1) 80 (4, [(0, zr 52), (1, zi 0), (2, zi 0)], [], m) κ) :
    T (D + 1) 80 (0, [(0, zr 52)], [], m) κ := by
  exact zb80_0r hT
    k1
theorem zb80_4r (hT : zRules T) {D : Nat} {κ : Option zA → zM → Prop} {m : zM} {c : Nat} {a : Nat} {lo : zL} (hlo : z_keep [0, 1, 2] lo = [(0, zr 52), (1, zi (c : Int)), (2, zi (a : Int))]) 
    (o1 : 108 < wr (a : Int) → κ (some (zi (wr (c : Int)))) m)
    (o2 : ¬ 108 < wr (a : Int) → (0 ≤ wr (a : Int) ∧ wr (a : Int) < 109))
    (o3 : ¬ 108 < wr (a : Int) → ¬ 0 < wr (m 54 ((wr (a : Int)).toNat)) → T (D + 1) 80 (4, [(0, zr 52), (1, zi (c : Int)), (2, zi ((a : Int) + 1))], [], m) κ)
    (o4 : ¬ 108 < wr (a : Int) → 0 < wr (m 54 ((wr (a : Int)).toNat)) → T (D + 1) 80 (4, [(0, zr 52), (1, zi ((c : Int) + 1)), (2, zi ((a : Int) + 1))], [], m) κ) :
    T (D + 1) 80 (4, lo, [], m) κ :=
  zkeep hT hlo (hT.1 [(4, [0, 1, 2])] 6 (D + 1) 80 _ κ (And.intro (fun a1 => (o1 a1)) (fun a2 => (hT.1 [(4, [0, 1, 2])] 6 (D + 1) 80 (15, [(0, zr 52), (1, zi (c : Int)), (2, zi (a : Int))], [zi (a : Int), zr 54], m) _ (And.intro (o2 a2) (And.intro (fun a3 => (o3 a2 a3)) (fun a4 => (o4 a2 (Classical.byContradiction a4)))))))))
theorem zb80_4 (hT : zRules T) {D : Nat} {κ : Option zA → zM → Prop} {m : zM} {c : Nat} {a : Nat} {lo : zL} (hlo : z_keep [0, 1, 2] lo = [(0, zr 52), (1, zi (c : Int)), (2, zi (a : Int))])  (hB : zB m) (h_c : c ≤ 109) (h_a : a ≤ 109) 
    (k1 : 108 < (a : Int) → κ (some (zi (c : Int))) m)
    (k2 : ¬ 108 < (a : Int) → ¬ 0 < wr (m 54 a) → T (D + 1) 80 (4, [(0, zr 52), (1, zi (c : Int)), (2, zi ((a : Int) + 1))], [], m) κ)
    (k3 : ¬ 108 < (a : Int) → 0 < wr (m 54 a) → T (D + 1) 80 (4, [(0, zr 52), (1, zi ((c : Int) + 1)), (2, zi ((a : Int) + 1))], [], m) κ) :
    T (D + 1) 80 (4, lo, [], m) κ := by
  have hb2 : (-2147483648) ≤ wr (m 54 a) ∧ wr (m 54 a) ≤ 2147483647 := wrB (m 54 a)
  have he0 : wr (a : Int) = (a : Int) := wr_id (by omega) (by omega)
  have he1 : wr (c : Int) = (c : Int) := wr_id (by omega) (by omega)
  have he2 : (a : Int).toNat = a := by omega
  have key := @zb80_4r T hT D κ m c a lo hlo
  simp only [he0, he1, he2, Int.toNat_natCast] at key
  exact key
    k1
    (fun x0 => by refine ⟨?_, ?_⟩ <;> omega)
    k2
    k3
theorem zb82_0r (hT : zRules T) {D : Nat} {κ : Option zA → zM → Prop} {m : zM} {l : Int} {h : Int} 
    (o1 : T (D + 2) 82 (5, [(0, zr 52), (1, zi l), (2, zi h), (3, zi 0), (4, zi 0)], [], m) κ) :
    T (D + 2) 82 (0, [(0, zr 52), (1, zi l), (2, zi h)], [], m) κ :=
  hT.1 [(5, [0, 1, 2, 3, 4])] 6 (D + 2) 82 _ κ (o1)
theorem zb82_0 (hT : zRules T) {D : Nat} {κ : Option zA → zM → Prop} {m : zM} {l : Int} {h : Int}  (hB : zB m) (h_l : (-2) ≤ l ∧ l ≤ 108) (h_h : 0 ≤ h ∧ h ≤ 9) 
    (k1 : T (D + 2) 82 (5, [(0, zr 52), (1, zi l), (2, zi h), (3, zi 0), (4, zi 0)], [], m) κ) :
    T (D + 2) 82 (0, [(0, zr 52), (1, zi l), (2, zi h)], [], m) κ := by
  exact zb82_0r hT
    k1
theorem zb82_5r (hT : zRules T) {D : Nat} {κ : Option zA → zM → Prop} {m : zM} {l : Int} {h : Int} {c : Nat} {k : Nat} {lo : zL} (hlo : z_keep [0, 1, 2, 3, 4] lo = [(0, zr 52), (1, zi l), (2, zi h), (3, zi (c : Int)), (4, zi (k : Int))]) 
    (o1 : ¬ wr (k : Int) < wr (m 52 1) → κ (some (zi (wr (c : Int)))) m)
    (o2 : wr (k : Int) < wr (m 52 1) → (0 ≤ wr (k : Int) ∧ wr (k : Int) < 60))
    (o3 : wr (k : Int) < wr (m 52 1) → wr l < wr (m 53 ((wr (k : Int)).toNat)) → T (D + 2) 82 (5, [(0, zr 52), (1, zi l), (2, zi h), (3, zi (c : Int)), (4, zi ((k : Int) + 1))], [], m) κ)
    (o4 : wr (k : Int) < wr (m 52 1) → ¬ wr l < wr (m 53 ((wr (k : Int)).toNat)) → wr ((m 53 ((wr (k : Int)).toNat)) + h) < wr l → T (D + 2) 82 (5, [(0, zr 52), (1, zi l), (2, zi h), (3, zi (c : Int)), (4, zi ((k : Int) + 1))], [], m) κ)
    (o5 : wr (k : Int) < wr (m 52 1) → ¬ wr l < wr (m 53 ((wr (k : Int)).toNat)) → ¬ wr ((m 53 ((wr (k : Int)).toNat)) + h) < wr l → T (D + 2) 82 (5, [(0, zr 52), (1, zi l), (2, zi h), (3, zi ((c : Int) + 1)), (4, zi ((k : Int) + 1))], [], m) κ) :
    T (D + 2) 82 (5, lo, [], m) κ :=
  zkeep hT hlo (hT.1 [(5, [0, 1, 2, 3, 4])] 6 (D + 2) 82 _ κ (And.intro (fun a1 => (o1 a1)) (fun a2 => (hT.1 [(5, [0, 1, 2, 3, 4])] 6 (D + 2) 82 (16, [(0, zr 52), (1, zi l), (2, zi h), (3, zi (c : Int)), (4, zi (k : Int))], [zr 52, zi l], m) _ (And.intro (o2 (Classical.byContradiction a2)) (hT.1 [] 6 (D + 1) 81 _ _ (And.intro (fun a3 => (And.intro (z_b01L rfl) (hT.1 [(5, [0, 1, 2, 3, 4])] 6 (D + 2) 82 _ _ (And.intro (fun _ => (o3 (Classical.byContradiction a2) a3)) (fun a5 => (a5 (z_litT rfl)).elim))))) (fun a4 => (hT.1 [] 6 (D + 1) 81 (8, [(0, zi l), (1, zi (m 53 ((wr (k : Int)).toNat))), (2, zi h)], [zi h, zi (m 53 ((wr (k : Int)).toNat)), zi l], m) _ (And.intro (fun a6 => (And.intro (z_b01L rfl) (hT.1 [(5, [0, 1, 2, 3, 4])] 6 (D + 2) 82 _ _ (And.intro (fun _ => (o4 (Classical.byContradiction a2) a4 a6)) (fun a8 => (a8 (z_litT rfl)).elim))))) (fun a7 => (And.intro (z_b01L rfl) (hT.1 [(5, [0, 1, 2, 3, 4])] 6 (D + 2) 82 _ _ (And.intro (fun a9 => (z_litF a9 rfl).elim) (fun _ => (o5 (Classical.byContradiction a2) a4 a7))))))))))))))))
theorem zb82_5 (hT : zRules T) {D : Nat} {κ : Option zA → zM → Prop} {m : zM} {l : Int} {h : Int} {c : Nat} {k : Nat} {lo : zL} (hlo : z_keep [0, 1, 2, 3, 4] lo = [(0, zr 52), (1, zi l), (2, zi h), (3, zi (c : Int)), (4, zi (k : Int))])  (hB : zB m) (h_l : (-2) ≤ l ∧ l ≤ 108) (h_h : 0 ≤ h ∧ h ≤ 9) (h_c : c ≤ 60) (h_k : k ≤ 60) 
    (k1 : ¬ (k : Int) < (m 52 1) → κ (some (zi (c : Int))) m)
    (k2 : (k : Int) < (m 52 1) → l < (m 53 k) → T (D + 2) 82 (5, [(0, zr 52), (1, zi l), (2, zi h), (3, zi (c : Int)), (4, zi ((k : Int) + 1))], [], m) κ)
    (k3 : (k : Int) < (m 52 1) → ¬ l < (m 53 k) → ((m 53 k) + h) < l → T (D + 2) 82 (5, [(0, zr 52), (1, zi l), (2, zi h), (3, zi (c : Int)), (4, zi ((k : Int) + 1))], [], m) κ)
    (k4 : (k : Int) < (m 52 1) → ¬ l < (m 53 k) → ¬ ((m 53 k) + h) < l → T (D + 2) 82 (5, [(0, zr 52), (1, zi l), (2, zi h), (3, zi ((c : Int) + 1)), (4, zi ((k : Int) + 1))], [], m) κ) :
    T (D + 2) 82 (5, lo, [], m) κ := by
  have hb4 : 0 ≤ (m 52 1) ∧ (m 52 1) ≤ 60 := hB 52 1
  have hb5 : 0 ≤ (m 53 k) ∧ (m 53 k) ≤ 99 := hB 53 k
  have he0 : wr (k : Int) = (k : Int) := wr_id (by omega) (by omega)
  have he1 : wr (m 52 1) = (m 52 1) := wr_id (by omega) (by omega)
  have he2 : (k : Int).toNat = k := by omega
  have he3 : wr l = l := wr_id (by omega) (by omega)
  have he4 : wr (m 53 k) = (m 53 k) := wr_id (by omega) (by omega)
  have he5 : wr ((m 53 k) + h) = ((m 53 k) + h) := wr_id (by omega) (by omega)
  have he6 : wr (c : Int) = (c : Int) := wr_id (by omega) (by omega)
  have key := @zb82_5r T hT D κ m l h c k lo hlo
  simp only [he0, he1, he2, he3, he4, he5, he6, Int.toNat_natCast] at key
  exact key
    k1
    (fun x0 => by refine ⟨?_, ?_⟩ <;> omega)
    k2
    k3
    k4
theorem zb83_0r (hT : zRules T) {D : Nat} {κ : Option zA → zM → Prop} {m : zM} {l : Int} {h : Int} 
    (o1 : T (D + 2) 83 (2, [(0, zr 52), (1, zi l), (2, zi h), (3, zi 0)], [], m) κ) :
    T (D + 2) 83 (0, [(0, zr 52), (1, zi l), (2, zi h)], [], m) κ :=
  hT.1 [(2, [0, 1, 2, 3])] 6 (D + 2) 83 _ κ (o1)
theorem zb83_0 (hT : zRules T) {D : Nat} {κ : Option zA → zM → Prop} {m : zM} {l : Int} {h : Int}  (hB : zB m) (h_l : (-2) ≤ l ∧ l ≤ 108) (h_h : 0 ≤ h ∧ h ≤ 9) 
    (k1 : T (D + 2) 83 (2, [(0, zr 52), (1, zi l), (2, zi h), (3, zi 0)], [], m) κ) :
    T (D + 2) 83 (0, [(0, zr 52), (1, zi l), (2, zi h)], [], m) κ := by
  exact zb83_0r hT
    k1
theorem zb83_2r (hT : zRules T) {D : Nat} {κ : Option zA → zM → Prop} {m : zM} {l : Int} {h : Int} {k : Nat} {lo : zL} (hlo : z_keep [0, 1, 2, 3] lo = [(0, zr 52), (1, zi l), (2, zi h), (3, zi (k : Int))]) 
    (o1 : ¬ wr (k : Int) < wr (m 52 1) → κ (some (zi (-1))) m)
    (o2 : wr (k : Int) < wr (m 52 1) → (0 ≤ wr (k : Int) ∧ wr (k : Int) < 60))
    (o3 : wr (k : Int) < wr (m 52 1) → wr l < wr (m 53 ((wr (k : Int)).toNat)) → κ (some (zi (wr (k : Int)))) m)
    (o4 : wr (k : Int) < wr (m 52 1) → ¬ wr l < wr (m 53 ((wr (k : Int)).toNat)) → wr ((m 53 ((wr (k : Int)).toNat)) + h) < wr l → κ (some (zi (wr (k : Int)))) m)
    (o5 : wr (k : Int) < wr (m 52 1) → ¬ wr l < wr (m 53 ((wr (k : Int)).toNat)) → ¬ wr ((m 53 ((wr (k : Int)).toNat)) + h) < wr l → T (D + 2) 83 (2, [(0, zr 52), (1, zi l), (2, zi h), (3, zi ((k : Int) + 1))], [], m) κ) :
    T (D + 2) 83 (2, lo, [], m) κ :=
  zkeep hT hlo (hT.1 [(2, [0, 1, 2, 3])] 6 (D + 2) 83 _ κ (And.intro (fun a1 => (o1 a1)) (fun a2 => (hT.1 [(2, [0, 1, 2, 3])] 6 (D + 2) 83 (12, [(0, zr 52), (1, zi l), (2, zi h), (3, zi (k : Int))], [zr 52, zi l], m) _ (And.intro (o2 (Classical.byContradiction a2)) (hT.1 [] 6 (D + 1) 81 _ _ (And.intro (fun a3 => (And.intro (z_b01L rfl) (hT.1 [(2, [0, 1, 2, 3])] 6 (D + 2) 83 _ _ (And.intro (fun a5 => (z_litF a5 rfl).elim) (fun _ => (o3 (Classical.byContradiction a2) a3)))))) (fun a4 => (hT.1 [] 6 (D + 1) 81 (8, [(0, zi l), (1, zi (m 53 ((wr (k : Int)).toNat))), (2, zi h)], [zi h, zi (m 53 ((wr (k : Int)).toNat)), zi l], m) _ (And.intro (fun a6 => (And.intro (z_b01L rfl) (hT.1 [(2, [0, 1, 2, 3])] 6 (D + 2) 83 _ _ (And.intro (fun a8 => (z_litF a8 rfl).elim) (fun _ => (o4 (Classical.byContradiction a2) a4 a6)))))) (fun a7 => (And.intro (z_b01L rfl) (hT.1 [(2, [0, 1, 2, 3])] 6 (D + 2) 83 _ _ (And.intro (fun _ => (o5 (Classical.byContradiction a2) a4 a7)) (fun a9 => (a9 (z_litT rfl)).elim)))))))))))))))
theorem zb83_2 (hT : zRules T) {D : Nat} {κ : Option zA → zM → Prop} {m : zM} {l : Int} {h : Int} {k : Nat} {lo : zL} (hlo : z_keep [0, 1, 2, 3] lo = [(0, zr 52), (1, zi l), (2, zi h), (3, zi (k : Int))])  (hB : zB m) (h_l : (-2) ≤ l ∧ l ≤ 108) (h_h : 0 ≤ h ∧ h ≤ 9) (h_k : k ≤ 60) 
    (k1 : ¬ (k : Int) < (m 52 1) → κ (some (zi (-1))) m)
    (k2 : (k : Int) < (m 52 1) → l < (m 53 k) → κ (some (zi (k : Int))) m)
    (k3 : (k : Int) < (m 52 1) → ¬ l < (m 53 k) → ((m 53 k) + h) < l → κ (some (zi (k : Int))) m)
    (k4 : (k : Int) < (m 52 1) → ¬ l < (m 53 k) → ¬ ((m 53 k) + h) < l → T (D + 2) 83 (2, [(0, zr 52), (1, zi l), (2, zi h), (3, zi ((k : Int) + 1))], [], m) κ) :
    T (D + 2) 83 (2, lo, [], m) κ := by
  have hb3 : 0 ≤ (m 52 1) ∧ (m 52 1) ≤ 60 := hB 52 1
  have hb4 : 0 ≤ (m 53 k) ∧ (m 53 k) ≤ 99 := hB 53 k
  have he0 : wr (k : Int) = (k : Int) := wr_id (by omega) (by omega)
  have he1 : wr (m 52 1) = (m 52 1) := wr_id (by omega) (by omega)
  have he2 : (k : Int).toNat = k := by omega
  have he3 : wr l = l := wr_id (by omega) (by omega)
  have he4 : wr (m 53 k) = (m 53 k) := wr_id (by omega) (by omega)
  have he5 : wr ((m 53 k) + h) = ((m 53 k) + h) := wr_id (by omega) (by omega)
  have key := @zb83_2r T hT D κ m l h k lo hlo
  simp only [he0, he1, he2, he3, he4, he5, Int.toNat_natCast] at key
  exact key
    k1
    (fun x0 => by refine ⟨?_, ?_⟩ <;> omega)
    k2
    k3
    k4
theorem zb134_0r (hT : zRules T) {D : Nat} {κ : Option zA → zM → Prop} {m : zM} {n : Int} 
    (o1 : wr n < 0 → κ (some (zi (-1))) m)
    (o2 : ¬ wr n < 0 → ¬ 60 < wr n → T (D + 5) 16 (0, [(0, zr 28), (1, zr 17)], [], m) (fun r m1 => T (D + 6) 134 (23, [(0, zr 1), (1, zi n)], r.toList ++ [], m1) κ))
    (o3 : ¬ wr n < 0 → 60 < wr n → κ (some (zi (-1))) m) :
    T (D + 6) 134 (0, [(0, zr 1), (1, zi n)], [], m) κ :=
  hT.1 [] 6 (D + 6) 134 _ κ (And.intro (fun a1 => (o1 a1)) (fun a2 => (And.intro (fun a3 => (hT.1 [] 6 (D + 6) 134 (13, [(0, zr 1), (1, zi n)], [zr 1], m) _ (o2 a2 a3))) (fun a4 => (hT.1 [] 6 (D + 6) 134 (11, [(0, zr 1), (1, zi n)], [zi (-1)], m) _ (o3 a2 (Classical.byContradiction a4)))))))
theorem zb134_0 (hT : zRules T) {D : Nat} {κ : Option zA → zM → Prop} {m : zM} {n : Int}  (hB : zB m) (h_n : (-2147483648) ≤ n ∧ n ≤ 2147483647) 
    (k1 : n < 0 → κ (some (zi (-1))) m)
    (k2 : ¬ n < 0 → ¬ 60 < n → T (D + 5) 16 (0, [(0, zr 28), (1, zr 17)], [], m) (fun r m1 => T (D + 6) 134 (23, [(0, zr 1), (1, zi n)], r.toList ++ [], m1) κ))
    (k3 : ¬ n < 0 → 60 < n → κ (some (zi (-1))) m) :
    T (D + 6) 134 (0, [(0, zr 1), (1, zi n)], [], m) κ := by
  have he0 : wr n = n := wr_id (by omega) (by omega)
  have key := @zb134_0r T hT D κ m n
  simp only [he0, Int.toNat_natCast] at key
  exact key
    k1
    k2
    k3
theorem zb134_23r (hT : zRules T) {D : Nat} {κ : Option zA → zM → Prop} {m : zM} {n : Nat} {lo : zL} (hlo : z_keep [0, 1] lo = [(0, zr 1), (1, zi (n : Int))]) 
    (o1 : T (D + 5) 175 (0, [(0, zr 1), (1, zi (n : Int))], [], (zu (zu (zu m 17 12 0) 17 13 0) 17 14 0)) (fun r m1 => T (D + 6) 134 (35, [(0, zr 1), (1, zi (n : Int))], r.toList ++ [], m1) κ)) :
    T (D + 6) 134 (23, lo, [], m) κ :=
  zkeep hT hlo (hT.1 [] 6 (D + 6) 134 _ κ (hT.1 [] 6 (D + 5) 35 _ _ (And.intro trivial (And.intro trivial (hT.1 [] 6 (D + 5) 35 (10, [(0, zr 17)], [], (zu (zu m 17 12 0) 17 13 0)) _ (And.intro trivial (hT.1 [] 6 (D + 6) 134 _ _ (o1))))))))
theorem zb134_23 (hT : zRules T) {D : Nat} {κ : Option zA → zM → Prop} {m : zM} {n : Nat} {lo : zL} (hlo : z_keep [0, 1] lo = [(0, zr 1), (1, zi (n : Int))])  (hB : zB m) (h_n : n ≤ 60) 
    (k1 : zB (zu (zu (zu m 17 12 0) 17 13 0) 17 14 0) → T (D + 5) 175 (0, [(0, zr 1), (1, zi (n : Int))], [], (zu (zu (zu m 17 12 0) 17 13 0) 17 14 0)) (fun r m1 => T (D + 6) 134 (35, [(0, zr 1), (1, zi (n : Int))], r.toList ++ [], m1) κ)) :
    T (D + 6) 134 (23, lo, [], m) κ := by
  exact zb134_23r hT hlo
    (k1  (zB_u (zB_u (zB_u hB trivial) trivial) trivial))
theorem zb134_35r (hT : zRules T) {D : Nat} {κ : Option zA → zM → Prop} {m : zM} {lo : zL} (hlo : z_keep [0] lo = [(0, zr 1)]) 
    (o1 : T (D + 5) 19 (0, [(0, zr 28), (1, zr 17)], [], m) (fun r m1 => T (D + 6) 134 (46, [(0, zr 1)], r.toList ++ [], m1) κ)) :
    T (D + 6) 134 (35, lo, [], m) κ :=
  zkeep hT hlo (hT.1 [] 6 (D + 6) 134 _ κ (o1))
theorem zb134_35 (hT : zRules T) {D : Nat} {κ : Option zA → zM → Prop} {m : zM} {lo : zL} (hlo : z_keep [0] lo = [(0, zr 1)])  (hB : zB m) 
    (k1 : T (D + 5) 19 (0, [(0, zr 28), (1, zr 17)], [], m) (fun r m1 => T (D + 6) 134 (46, [(0, zr 1)], r.toList ++ [], m1) κ)) :
    T (D + 6) 134 (35, lo, [], m) κ := by
  exact zb134_35r hT hlo
    k1
theorem zb134_46r (hT : zRules T) {D : Nat} {κ : Option zA → zM → Prop} {m : zM} {lo : zL} (hlo : z_keep [0] lo = [(0, zr 1)]) 
    (o1 : κ (some (zi (wr (wr (wr (((m 17 12) * (m 24 1)) + ((m 17 13) * (m 24 2)))))))) (zu (zu (zu (zu m 72 1 3) 73 0 (m 17 12)) 73 1 (m 17 13)) 73 2 (m 17 14))) :
    T (D + 6) 134 (46, lo, [], m) κ :=
  zkeep hT hlo (hT.1 [] 6 (D + 6) 134 _ κ (hT.1 [] 6 (D + 5) 177 _ _ (hT.1 [] 6 (D + 5) 177 (12, [(0, zr 1)], [zr 1, zi (m 17 12), zr 72], m) _ (hT.1 [] 6 (D + 4) 47 _ _ (And.intro trivial (hT.1 [] 6 (D + 4) 47 (10, [(0, zr 72), (1, zi (m 17 12)), (2, zi (m 17 13)), (3, zi (m 17 14))], [zi 0, zr 73], (zu m 72 1 3)) _ (And.intro (And.intro (z_ixL rfl) trivial) (hT.1 [] 6 (D + 4) 47 (18, [(0, zr 72), (1, zi (m 17 12)), (2, zi (m 17 13)), (3, zi (m 17 14))], [zi (m 17 13), zi 1, zr 73], (zu (zu m 72 1 3) 73 0 (m 17 12))) _ (And.intro (And.intro (z_ixL rfl) trivial) (And.intro (And.intro (z_ixL rfl) trivial) (hT.1 [] 6 (D + 4) 47 (26, [(0, zr 72), (1, zi (m 17 12)), (2, zi (m 17 13)), (3, zi (m 17 14))], [], (zu (zu (zu (zu m 72 1 3) 73 0 (m 17 12)) 73 1 (m 17 13)) 73 2 (m 17 14))) _ (hT.1 [] 6 (D + 5) 177 _ _ (hT.1 [] 6 (D + 6) 134 _ _ (hT.1 [] 6 (D + 5) 36 _ _ (hT.1 [] 6 (D + 4) 33 _ _ (And.intro (z_ixL rfl) (hT.1 [] 6 (D + 4) 33 (8, [(0, zr 17), (1, zi (m 17 12)), (2, zi (m 17 13))], [zi ((m 17 12) * (m 24 1))], (zu (zu (zu (zu m 72 1 3) 73 0 (m 17 12)) 73 1 (m 17 13)) 73 2 (m 17 14))) _ (And.intro (z_ixL rfl) (hT.1 [] 6 (D + 4) 33 (16, [(0, zr 17), (1, zi (m 17 12)), (2, zi (m 17 13))], [zi ((m 17 13) * (m 24 2)), zi ((m 17 12) * (m 24 1))], (zu (zu (zu (zu m 72 1 3) 73 0 (m 17 12)) 73 1 (m 17 13)) 73 2 (m 17 14))) _ (hT.1 [] 6 (D + 5) 36 _ _ (hT.1 [] 6 (D + 6) 134 _ _ (o1))))))))))))))))))))))
theorem zb134_46 (hT : zRules T) {D : Nat} {κ : Option zA → zM → Prop} {m : zM} {lo : zL} (hlo : z_keep [0] lo = [(0, zr 1)])  (hB : zB m) 
    (k1 : zB (zu (zu (zu (zu m 72 1 3) 73 0 (m 17 12)) 73 1 (m 17 13)) 73 2 (m 17 14)) → κ (some (zi (wr (((m 17 12) * (m 24 1)) + ((m 17 13) * (m 24 2)))))) (zu (zu (zu (zu m 72 1 3) 73 0 (m 17 12)) 73 1 (m 17 13)) 73 2 (m 17 14))) :
    T (D + 6) 134 (46, lo, [], m) κ := by
  have hb0 : 0 ≤ (m 24 1) ∧ (m 24 1) ≤ 9 := hB 24 1
  have hb1 : 0 ≤ (m 24 2) ∧ (m 24 2) ≤ 9 := hB 24 2
  have hb2 : (-2147483648) ≤ wr (((m 17 12) * (m 24 1)) + ((m 17 13) * (m 24 2))) ∧ wr (((m 17 12) * (m 24 1)) + ((m 17 13) * (m 24 2))) ≤ 2147483647 := wrB (((m 17 12) * (m 24 1)) + ((m 17 13) * (m 24 2)))
  have he0 : wr (wr (((m 17 12) * (m 24 1)) + ((m 17 13) * (m 24 2)))) = wr (((m 17 12) * (m 24 1)) + ((m 17 13) * (m 24 2))) := wr_id (by omega) (by omega)
  have key := @zb134_46r T hT D κ m  lo hlo
  simp only [he0, Int.toNat_natCast] at key
  exact key
    (k1  (zB_u (zB_u (zB_u (zB_u hB (show 0 ≤ 3 ∧ 3 ≤ 26 from ⟨by omega, by omega⟩)) trivial) trivial) trivial))
theorem zb249_0r (hT : zRules T) {D : Nat} {κ : Option zA → zM → Prop} {m : zM} {n : Int} 
    (o1 : wr n < 0 → κ (some (zi (-1))) (zu m 74 12 0))
    (o2 : ¬ wr n < 0 → 60 < wr n → κ (some (zi (-1))) (zu m 74 12 0))
    (o3 : ¬ wr n < 0 → ¬ 60 < wr n → T (D + 2) 228 (0, [(0, zr 75), (1, zr 91), (2, zi 0)], [], (zu m 74 12 0)) (fun r m1 => T (D + 3) 249 (29, [(0, zr 74), (1, zi n)], r.toList ++ [], m1) κ)) :
    T (D + 3) 249 (0, [(0, zr 74), (1, zi n)], [], m) κ :=
  hT.1 [(35, [0, 1, 2])] 6 (D + 3) 249 _ κ (And.intro trivial (hT.1 [(35, [0, 1, 2])] 6 (D + 3) 249 (9, [(0, zr 74), (1, zi n)], [zi 60, zi 0, zi n], (zu m 74 12 0)) _ (hT.1 [] 6 (D + 2) 186 _ _ (And.intro (fun a1 => (And.intro (z_b01L rfl) (hT.1 [(35, [0, 1, 2])] 6 (D + 3) 249 _ _ (And.intro (fun a3 => (z_litF a3 rfl).elim) (fun _ => (o1 a1)))))) (fun a2 => (And.intro (fun a4 => (hT.1 [] 6 (D + 2) 186 (14, [(0, zi n), (1, zi 0), (2, zi 60)], [], (zu m 74 12 0)) _ (And.intro (z_b01L rfl) (hT.1 [(35, [0, 1, 2])] 6 (D + 3) 249 _ _ (And.intro (fun a6 => (z_litF a6 rfl).elim) (fun _ => (o2 a2 a4))))))) (fun a5 => (hT.1 [] 6 (D + 2) 186 (10, [(0, zi n), (1, zi 0), (2, zi 60)], [], (zu m 74 12 0)) _ (And.intro (z_b01L rfl) (hT.1 [(35, [0, 1, 2])] 6 (D + 3) 249 _ _ (And.intro (fun _ => (hT.1 [(35, [0, 1, 2])] 6 (D + 3) 249 (26, [(0, zr 74), (1, zi n)], [zi 0, zr 91, zr 75], (zu m 74 12 0)) _ (o3 a2 a5))) (fun a7 => (a7 (z_litT rfl)).elim))))))))))))
theorem zb249_0 (hT : zRules T) {D : Nat} {κ : Option zA → zM → Prop} {m : zM} {n : Int}  (hB : zB m) (h_n : (-2147483648) ≤ n ∧ n ≤ 2147483647) 
    (k1 : n < 0 → zB (zu m 74 12 0) → κ (some (zi (-1))) (zu m 74 12 0))
    (k2 : ¬ n < 0 → 60 < n → zB (zu m 74 12 0) → κ (some (zi (-1))) (zu m 74 12 0))
    (k3 : ¬ n < 0 → ¬ 60 < n → zB (zu m 74 12 0) → T (D + 2) 228 (0, [(0, zr 75), (1, zr 91), (2, zi 0)], [], (zu m 74 12 0)) (fun r m1 => T (D + 3) 249 (29, [(0, zr 74), (1, zi n)], r.toList ++ [], m1) κ)) :
    T (D + 3) 249 (0, [(0, zr 74), (1, zi n)], [], m) κ := by
  have he0 : wr n = n := wr_id (by omega) (by omega)
  have key := @zb249_0r T hT D κ m n
  simp only [he0, Int.toNat_natCast] at key
  exact key
    (fun x0 => k1 x0 (zB_u hB trivial))
    (fun x0 x1 => k2 x0 x1 (zB_u hB trivial))
    (fun x0 x1 => k3 x0 x1 (zB_u hB trivial))
theorem zb249_29r (hT : zRules T) {D : Nat} {κ : Option zA → zM → Prop} {m : zM} {n : Nat} {lo : zL} (hlo : z_keep [0, 1] lo = [(0, zr 74), (1, zi (n : Int))]) 
    (o1 : T (D + 3) 249 (35, [(0, zr 74), (1, zi (n : Int)), (2, zi 0)], [], (zu (zu (zu m 74 31 0) 74 32 0) 74 33 0)) κ) :
    T (D + 3) 249 (29, lo, [], m) κ :=
  zkeep hT hlo (hT.1 [(35, [0, 1, 2])] 6 (D + 3) 249 _ κ (hT.1 [] 6 (D + 2) 224 _ _ (And.intro trivial (And.intro trivial (hT.1 [] 6 (D + 2) 224 (10, [(0, zr 74)], [], (zu (zu m 74 31 0) 74 32 0)) _ (And.intro trivial (hT.1 [(35, [0, 1, 2])] 6 (D + 3) 249 _ _ (o1))))))))
theorem zb249_29 (hT : zRules T) {D : Nat} {κ : Option zA → zM → Prop} {m : zM} {n : Nat} {lo : zL} (hlo : z_keep [0, 1] lo = [(0, zr 74), (1, zi (n : Int))])  (hB : zB m) (h_n : n ≤ 60) 
    (k1 : zB (zu (zu (zu m 74 31 0) 74 32 0) 74 33 0) → T (D + 3) 249 (35, [(0, zr 74), (1, zi (n : Int)), (2, zi 0)], [], (zu (zu (zu m 74 31 0) 74 32 0) 74 33 0)) κ) :
    T (D + 3) 249 (29, lo, [], m) κ := by
  exact zb249_29r hT hlo
    (k1  (zB_u (zB_u (zB_u hB trivial) trivial) trivial))
theorem zb249_35r (hT : zRules T) {D : Nat} {κ : Option zA → zM → Prop} {m : zM} {n : Nat} {k : Nat} {lo : zL} (hlo : z_keep [0, 1, 2] lo = [(0, zr 74), (1, zi (n : Int)), (2, zi (k : Int))]) 
    (o1 : ¬ wr (k : Int) < wr (n : Int) → κ (some (zi (wr (wr (((m 79 1) * (m 74 31)) + ((m 79 2) * (m 74 32))))))) (zu (zu (zu (zu (zu (zu (zu m 74 11 0) 81 0 (m 74 31)) 74 11 1) 81 1 (m 74 32)) 74 11 2) 81 2 (m 74 33)) 74 11 3))
    (o2 : wr (k : Int) < wr (n : Int) → T (D + 2) 235 (0, [(0, zr 74), (1, zr 91)], [], m) (fun r m1 => T (D + 3) 249 (48, [(0, zr 74), (1, zi (n : Int)), (2, zi (k : Int))], r.toList ++ [], m1) κ)) :
    T (D + 3) 249 (35, lo, [], m) κ :=
  zkeep hT hlo (hT.1 [(35, [0, 1, 2])] 6 (D + 3) 249 _ κ (And.intro (fun a1 => (hT.1 [] 6 (D + 2) 233 _ _ (And.intro trivial (hT.1 [] 6 (D + 2) 233 (10, [(0, zr 74)], [zi (m 74 31), zr 74], (zu m 74 11 0)) _ (hT.1 [] 6 (D + 1) 189 _ _ (And.intro (And.intro (z_ixL rfl) trivial) (hT.1 [] 6 (D + 1) 189 (10, [(0, zr 74), (1, zi (m 74 31))], [], (zu (zu m 74 11 0) 81 0 (m 74 31))) _ (And.intro trivial (hT.1 [] 6 (D + 1) 189 (20, [(0, zr 74), (1, zi (m 74 31))], [], (zu (zu (zu m 74 11 0) 81 0 (m 74 31)) 74 11 1)) _ (hT.1 [] 6 (D + 2) 233 _ _ (hT.1 [] 6 (D + 1) 189 _ _ (And.intro (And.intro (z_ixL rfl) trivial) (hT.1 [] 6 (D + 1) 189 (10, [(0, zr 74), (1, zi (m 74 32))], [], (zu (zu (zu (zu m 74 11 0) 81 0 (m 74 31)) 74 11 1) 81 1 (m 74 32))) _ (And.intro trivial (hT.1 [] 6 (D + 1) 189 (20, [(0, zr 74), (1, zi (m 74 32))], [], (zu (zu (zu (zu (zu m 74 11 0) 81 0 (m 74 31)) 74 11 1) 81 1 (m 74 32)) 74 11 2)) _ (hT.1 [] 6 (D + 2) 233 _ _ (hT.1 [] 6 (D + 1) 189 _ _ (And.intro (And.intro (z_ixL rfl) trivial) (hT.1 [] 6 (D + 1) 189 (10, [(0, zr 74), (1, zi (m 74 33))], [], (zu (zu (zu (zu (zu (zu m 74 11 0) 81 0 (m 74 31)) 74 11 1) 81 1 (m 74 32)) 74 11 2) 81 2 (m 74 33))) _ (And.intro trivial (hT.1 [] 6 (D + 1) 189 (20, [(0, zr 74), (1, zi (m 74 33))], [], (zu (zu (zu (zu (zu (zu (zu m 74 11 0) 81 0 (m 74 31)) 74 11 1) 81 1 (m 74 32)) 74 11 2) 81 2 (m 74 33)) 74 11 3)) _ (hT.1 [] 6 (D + 2) 233 _ _ (hT.1 [(35, [0, 1, 2])] 6 (D + 3) 249 _ _ (hT.1 [] 6 (D + 2) 225 _ _ (And.intro (z_ixL rfl) (hT.1 [] 6 (D + 2) 225 (10, [(0, zr 74)], [zi (m 74 31), zi (m 79 1)], (zu (zu (zu (zu (zu (zu (zu m 74 11 0) 81 0 (m 74 31)) 74 11 1) 81 1 (m 74 32)) 74 11 2) 81 2 (m 74 33)) 74 11 3)) _ (And.intro (z_ixL rfl) (hT.1 [] 6 (D + 2) 225 (18, [(0, zr 74)], [zr 74, zi (m 79 2), zi ((m 79 1) * (m 74 31))], (zu (zu (zu (zu (zu (zu (zu m 74 11 0) 81 0 (m 74 31)) 74 11 1) 81 1 (m 74 32)) 74 11 2) 81 2 (m 74 33)) 74 11 3)) _ (hT.1 [(35, [0, 1, 2])] 6 (D + 3) 249 _ _ (o1 a1)))))))))))))))))))))))))))))) (fun a2 => (hT.1 [(35, [0, 1, 2])] 6 (D + 3) 249 (45, [(0, zr 74), (1, zi (n : Int)), (2, zi (k : Int))], [zr 91, zr 74], m) _ (o2 (Classical.byContradiction a2))))))
theorem zb249_35 (hT : zRules T) {D : Nat} {κ : Option zA → zM → Prop} {m : zM} {n : Nat} {k : Nat} {lo : zL} (hlo : z_keep [0, 1, 2] lo = [(0, zr 74), (1, zi (n : Int)), (2, zi (k : Int))])  (hB : zB m) (h_n : n ≤ 60) (h_k : k ≤ 60) 
    (k1 : ¬ (k : Int) < (n : Int) → zB (zu (zu (zu (zu (zu (zu (zu m 74 11 0) 81 0 (m 74 31)) 74 11 1) 81 1 (m 74 32)) 74 11 2) 81 2 (m 74 33)) 74 11 3) → κ (some (zi (wr (((m 79 1) * (m 74 31)) + ((m 79 2) * (m 74 32)))))) (zu (zu (zu (zu (zu (zu (zu m 74 11 0) 81 0 (m 74 31)) 74 11 1) 81 1 (m 74 32)) 74 11 2) 81 2 (m 74 33)) 74 11 3))
    (k2 : (k : Int) < (n : Int) → T (D + 2) 235 (0, [(0, zr 74), (1, zr 91)], [], m) (fun r m1 => T (D + 3) 249 (48, [(0, zr 74), (1, zi (n : Int)), (2, zi (k : Int))], r.toList ++ [], m1) κ)) :
    T (D + 3) 249 (35, lo, [], m) κ := by
  have hb2 : 0 ≤ (m 79 1) ∧ (m 79 1) ≤ 9 := hB 79 1
  have hb3 : 0 ≤ (m 79 2) ∧ (m 79 2) ≤ 9 := hB 79 2
  have hb4 : (-2147483648) ≤ wr (((m 79 1) * (m 74 31)) + ((m 79 2) * (m 74 32))) ∧ wr (((m 79 1) * (m 74 31)) + ((m 79 2) * (m 74 32))) ≤ 2147483647 := wrB (((m 79 1) * (m 74 31)) + ((m 79 2) * (m 74 32)))
  have he0 : wr (k : Int) = (k : Int) := wr_id (by omega) (by omega)
  have he1 : wr (n : Int) = (n : Int) := wr_id (by omega) (by omega)
  have he2 : wr (wr (((m 79 1) * (m 74 31)) + ((m 79 2) * (m 74 32)))) = wr (((m 79 1) * (m 74 31)) + ((m 79 2) * (m 74 32))) := wr_id (by omega) (by omega)
  have key := @zb249_35r T hT D κ m n k lo hlo
  simp only [he0, he1, he2, Int.toNat_natCast] at key
  exact key
    (fun x0 => k1 x0 (zB_u (zB_u (zB_u (zB_u (zB_u (zB_u (zB_u hB (show 0 ≤ 0 ∧ 0 ≤ 32 from ⟨by omega, by omega⟩)) trivial) (show 0 ≤ 1 ∧ 1 ≤ 32 from ⟨by omega, by omega⟩)) trivial) (show 0 ≤ 2 ∧ 2 ≤ 32 from ⟨by omega, by omega⟩)) trivial) (show 0 ≤ 3 ∧ 3 ≤ 32 from ⟨by omega, by omega⟩)))
    k2
theorem zb249_48r (hT : zRules T) {D : Nat} {κ : Option zA → zM → Prop} {m : zM} {n : Nat} {k : Nat} {lo : zL} (hlo : z_keep [0, 1, 2] lo = [(0, zr 74), (1, zi (n : Int)), (2, zi (k : Int))]) 
    (o1 : T (D + 3) 249 (35, [(0, zr 74), (1, zi (n : Int)), (2, zi ((k : Int) + 1))], [], m) κ) :
    T (D + 3) 249 (48, lo, [], m) κ :=
  zkeep hT hlo (hT.1 [(35, [0, 1, 2])] 6 (D + 3) 249 _ κ (o1))
theorem zb249_48 (hT : zRules T) {D : Nat} {κ : Option zA → zM → Prop} {m : zM} {n : Nat} {k : Nat} {lo : zL} (hlo : z_keep [0, 1, 2] lo = [(0, zr 74), (1, zi (n : Int)), (2, zi (k : Int))])  (hB : zB m) (h_n : n ≤ 60) (h_k : k ≤ 60) 
    (k1 : T (D + 3) 249 (35, [(0, zr 74), (1, zi (n : Int)), (2, zi ((k : Int) + 1))], [], m) κ) :
    T (D + 3) 249 (48, lo, [], m) κ := by
  exact zb249_48r hT hlo
    k1
theorem zb135_0r (hT : zRules T) {D : Nat} {κ : Option zA → zM → Prop} {m : zM} {p : Int} {q : Int} {n : Int} 
    (o1 : wr p < 0 → κ (some (zi (-1))) m)
    (o2 : ¬ wr p < 0 → ¬ wr p < wr (m 17 0) → κ (some (zi (-1))) m)
    (o3 : ¬ wr p < 0 → wr p < wr (m 17 0) → wr q < 0 → κ (some (zi (-1))) m)
    (o4 : ¬ wr p < 0 → wr p < wr (m 17 0) → ¬ wr q < 0 → ¬ wr q < 4 → κ (some (zi (-1))) m)
    (o5 : ¬ wr p < 0 → wr p < wr (m 17 0) → ¬ wr q < 0 → wr q < 4 → wr n < 1 → κ (some (zi (-1))) m)
    (o6 : ¬ wr p < 0 → wr p < wr (m 17 0) → ¬ wr q < 0 → wr q < 4 → ¬ wr n < 1 → 60 < wr n → κ (some (zi (-1))) m)
    (o7 : ¬ wr p < 0 → wr p < wr (m 17 0) → ¬ wr q < 0 → wr q < 4 → ¬ wr n < 1 → ¬ 60 < wr n → T (D + 5) 180 (0, [(0, zr 1), (1, zi p), (2, zi q), (3, zi n)], [], m) (fun r m1 => T (D + 6) 135 (19, [(0, zr 1), (1, zi p), (2, zi q), (3, zi n)], r.toList ++ [], m1) κ)) :
    T (D + 6) 135 (0, [(0, zr 1), (1, zi p), (2, zi q), (3, zi n)], [], m) κ :=
  hT.1 [] 6 (D + 6) 135 _ κ (hT.1 [] 6 (D + 5) 179 _ _ (hT.1 [] 6 (D + 4) 25 _ _ (And.intro (fun a1 => (And.intro (z_b01L rfl) (hT.1 [] 6 (D + 5) 179 _ _ (And.intro (fun _ => (And.intro (z_b01L rfl) (hT.1 [] 6 (D + 6) 135 _ _ (And.intro (fun a4 => (z_litF a4 rfl).elim) (fun _ => (o1 a1)))))) (fun a3 => (a3 (z_litT rfl)).elim))))) (fun a2 => (And.intro (fun a5 => (hT.1 [] 6 (D + 4) 25 (16, [(0, zr 17), (1, zi p)], [], m) _ (And.intro (z_b01L rfl) (hT.1 [] 6 (D + 5) 179 _ _ (And.intro (fun _ => (And.intro (z_b01L rfl) (hT.1 [] 6 (D + 6) 135 _ _ (And.intro (fun a8 => (z_litF a8 rfl).elim) (fun _ => (o2 a2 a5)))))) (fun a7 => (a7 (z_litT rfl)).elim)))))) (fun a6 => (hT.1 [] 6 (D + 4) 25 (12, [(0, zr 17), (1, zi p)], [], m) _ (And.intro (z_b01L rfl) (hT.1 [] 6 (D + 5) 179 _ _ (And.intro (fun a9 => (z_litF a9 rfl).elim) (fun _ => (hT.1 [] 6 (D + 4) 163 _ _ (And.intro (fun a10 => (And.intro (z_b01L rfl) (hT.1 [] 6 (D + 5) 179 _ _ (And.intro (fun _ => (And.intro (z_b01L rfl) (hT.1 [] 6 (D + 6) 135 _ _ (And.intro (fun a13 => (z_litF a13 rfl).elim) (fun _ => (o3 a2 (Classical.byContradiction a6) a10)))))) (fun a12 => (a12 (z_litT rfl)).elim))))) (fun a11 => (And.intro (fun a14 => (hT.1 [] 6 (D + 4) 163 (14, [(0, zi q)], [zi 0], m) _ (And.intro (z_b01L rfl) (hT.1 [] 6 (D + 5) 179 _ _ (And.intro (fun _ => (And.intro (z_b01L rfl) (hT.1 [] 6 (D + 6) 135 _ _ (And.intro (fun a17 => (z_litF a17 rfl).elim) (fun _ => (o4 a2 (Classical.byContradiction a6) a11 a14)))))) (fun a16 => (a16 (z_litT rfl)).elim)))))) (fun a15 => (hT.1 [] 6 (D + 4) 163 (10, [(0, zi q)], [zi 1], m) _ (And.intro (z_b01L rfl) (hT.1 [] 6 (D + 5) 179 _ _ (And.intro (fun a18 => (z_litF a18 rfl).elim) (fun _ => (And.intro (fun a19 => (And.intro (z_b01L rfl) (hT.1 [] 6 (D + 6) 135 _ _ (And.intro (fun a21 => (z_litF a21 rfl).elim) (fun _ => (o5 a2 (Classical.byContradiction a6) a11 (Classical.byContradiction a15) a19)))))) (fun a20 => (hT.1 [] 6 (D + 5) 179 (26, [(0, zr 1), (1, zi p), (2, zi q), (3, zi n)], [zi 60, zi n], m) _ (And.intro (fun a22 => (And.intro (z_b01L rfl) (hT.1 [] 6 (D + 6) 135 _ _ (And.intro (fun a24 => (z_litF a24 rfl).elim) (fun _ => (o6 a2 (Classical.byContradiction a6) a11 (Classical.byContradiction a15) a20 a22)))))) (fun a23 => (And.intro (z_b01L rfl) (hT.1 [] 6 (D + 6) 135 _ _ (And.intro (fun _ => (o7 a2 (Classical.byContradiction a6) a11 (Classical.byContradiction a15) a20 a23)) (fun a25 => (a25 (z_litT rfl)).elim))))))))))))))))))))))))))))))
theorem zb135_0 (hT : zRules T) {D : Nat} {κ : Option zA → zM → Prop} {m : zM} {p : Int} {q : Int} {n : Int}  (hB : zB m) (h_p : (-2147483648) ≤ p ∧ p ≤ 2147483647) (h_q : (-2147483648) ≤ q ∧ q ≤ 2147483647) (h_n : (-2147483648) ≤ n ∧ n ≤ 2147483647) 
    (k1 : p < 0 → κ (some (zi (-1))) m)
    (k2 : ¬ p < 0 → ¬ p < (m 17 0) → κ (some (zi (-1))) m)
    (k3 : ¬ p < 0 → p < (m 17 0) → q < 0 → κ (some (zi (-1))) m)
    (k4 : ¬ p < 0 → p < (m 17 0) → ¬ q < 0 → ¬ q < 4 → κ (some (zi (-1))) m)
    (k5 : ¬ p < 0 → p < (m 17 0) → ¬ q < 0 → q < 4 → n < 1 → κ (some (zi (-1))) m)
    (k6 : ¬ p < 0 → p < (m 17 0) → ¬ q < 0 → q < 4 → ¬ n < 1 → 60 < n → κ (some (zi (-1))) m)
    (k7 : ¬ p < 0 → p < (m 17 0) → ¬ q < 0 → q < 4 → ¬ n < 1 → ¬ 60 < n → T (D + 5) 180 (0, [(0, zr 1), (1, zi p), (2, zi q), (3, zi n)], [], m) (fun r m1 => T (D + 6) 135 (19, [(0, zr 1), (1, zi p), (2, zi q), (3, zi n)], r.toList ++ [], m1) κ)) :
    T (D + 6) 135 (0, [(0, zr 1), (1, zi p), (2, zi q), (3, zi n)], [], m) κ := by
  have hb3 : 0 ≤ (m 17 0) ∧ (m 17 0) ≤ 6 := hB 17 0
  have he0 : wr p = p := wr_id (by omega) (by omega)
  have he1 : wr (m 17 0) = (m 17 0) := wr_id (by omega) (by omega)
  have he2 : wr q = q := wr_id (by omega) (by omega)
  have he3 : wr n = n := wr_id (by omega) (by omega)
  have key := @zb135_0r T hT D κ m p q n
  simp only [he0, he1, he2, he3, Int.toNat_natCast] at key
  exact key
    k1
    k2
    k3
    k4
    k5
    k6
    k7
theorem zb135_19r (hT : zRules T) {D : Nat} {κ : Option zA → zM → Prop} {m : zM} {lo : zL} (hlo : z_keep [0] lo = [(0, zr 1)]) 
    (o1 : T (D + 5) 76 (0, [(0, zr 52)], [], m) (fun r m1 => T (D + 6) 135 (26, [(0, zr 1)], r.toList ++ [], m1) κ)) :
    T (D + 6) 135 (19, lo, [], m) κ :=
  zkeep hT hlo (hT.1 [] 6 (D + 6) 135 _ κ (o1))
theorem zb135_19 (hT : zRules T) {D : Nat} {κ : Option zA → zM → Prop} {m : zM} {lo : zL} (hlo : z_keep [0] lo = [(0, zr 1)])  (hB : zB m) 
    (k1 : T (D + 5) 76 (0, [(0, zr 52)], [], m) (fun r m1 => T (D + 6) 135 (26, [(0, zr 1)], r.toList ++ [], m1) κ)) :
    T (D + 6) 135 (19, lo, [], m) κ := by
  exact zb135_19r hT hlo
    k1
theorem zb135_26r (hT : zRules T) {D : Nat} {κ : Option zA → zM → Prop} {m : zM} {f : Nat} {lo : zL} (hlo : z_keep [0] lo = [(0, zr 1)]) 
    (o1 : T (D + 5) 77 (0, [(0, zr 52)], [], m) (fun r m1 => T (D + 6) 135 (35, [(0, zr 1), (4, zi (f : Int))], r.toList ++ [], m1) κ)) :
    T (D + 6) 135 (26, lo, [zi (f : Int)], m) κ :=
  zkeep hT hlo (hT.1 [] 6 (D + 6) 135 _ κ (o1))
theorem zb135_26 (hT : zRules T) {D : Nat} {κ : Option zA → zM → Prop} {m : zM} {f : Nat} {lo : zL} (hlo : z_keep [0] lo = [(0, zr 1)])  (hB : zB m) (h_f : f ≤ 59) 
    (k1 : T (D + 5) 77 (0, [(0, zr 52)], [], m) (fun r m1 => T (D + 6) 135 (35, [(0, zr 1), (4, zi (f : Int))], r.toList ++ [], m1) κ)) :
    T (D + 6) 135 (26, lo, [zi (f : Int)], m) κ := by
  exact zb135_26r hT hlo
    k1
theorem zb135_35r (hT : zRules T) {D : Nat} {κ : Option zA → zM → Prop} {m : zM} {f : Nat} {g : Nat} {lo : zL} (hlo : z_keep [0, 4] lo = [(0, zr 1), (4, zi (f : Int))]) 
    (o1 : (0 ≤ wr (g : Int) ∧ wr (g : Int) < 60))
    (o2 : (0 ≤ wr (f : Int) ∧ wr (f : Int) < 60))
    (o3 : κ (some (zi (wr (m 53 ((wr (f : Int)).toNat))))) (zu (zu (zu (zu m 72 1 3) 73 0 (f : Int)) 73 1 (m 53 ((wr (g : Int)).toNat))) 73 2 (g : Int))) :
    T (D + 6) 135 (35, lo, [zi (g : Int)], m) κ :=
  zkeep hT hlo (hT.1 [] 6 (D + 6) 135 _ κ (hT.1 [] 6 (D + 6) 135 (47, [(0, zr 1), (4, zi (f : Int)), (5, zi (g : Int))], [zr 52, zi (f : Int), zr 72], m) _ (And.intro (o1) (hT.1 [] 6 (D + 5) 47 _ _ (And.intro trivial (hT.1 [] 6 (D + 5) 47 (10, [(0, zr 72), (1, zi (f : Int)), (2, zi (m 53 ((wr (g : Int)).toNat))), (3, zi (g : Int))], [zi 0, zr 73], (zu m 72 1 3)) _ (And.intro (And.intro (z_ixL rfl) trivial) (hT.1 [] 6 (D + 5) 47 (18, [(0, zr 72), (1, zi (f : Int)), (2, zi (m 53 ((wr (g : Int)).toNat))), (3, zi (g : Int))], [zi (m 53 ((wr (g : Int)).toNat)), zi 1, zr 73], (zu (zu m 72 1 3) 73 0 (f : Int))) _ (And.intro (And.intro (z_ixL rfl) trivial) (And.intro (And.intro (z_ixL rfl) trivial) (hT.1 [] 6 (D + 5) 47 (26, [(0, zr 72), (1, zi (f : Int)), (2, zi (m 53 ((wr (g : Int)).toNat))), (3, zi (g : Int))], [], (zu (zu (zu (zu m 72 1 3) 73 0 (f : Int)) 73 1 (m 53 ((wr (g : Int)).toNat))) 73 2 (g : Int))) _ (hT.1 [] 6 (D + 6) 135 _ _ (And.intro (o2) (o3))))))))))))))
theorem zb135_35 (hT : zRules T) {D : Nat} {κ : Option zA → zM → Prop} {m : zM} {f : Nat} {g : Nat} {lo : zL} (hlo : z_keep [0, 4] lo = [(0, zr 1), (4, zi (f : Int))])  (hB : zB m) (h_f : f ≤ 59) (h_g : g ≤ 59) 
    (k1 : zB (zu (zu (zu (zu m 72 1 3) 73 0 (f : Int)) 73 1 (m 53 g)) 73 2 (g : Int)) → κ (some (zi (m 53 f))) (zu (zu (zu (zu m 72 1 3) 73 0 (f : Int)) 73 1 (m 53 g)) 73 2 (g : Int))) :
    T (D + 6) 135 (35, lo, [zi (g : Int)], m) κ := by
  have hb2 : 0 ≤ (m 53 g) ∧ (m 53 g) ≤ 99 := hB 53 g
  have hb3 : 0 ≤ (m 53 f) ∧ (m 53 f) ≤ 99 := hB 53 f
  have he0 : wr (g : Int) = (g : Int) := wr_id (by omega) (by omega)
  have he1 : (g : Int).toNat = g := by omega
  have he2 : wr (f : Int) = (f : Int) := wr_id (by omega) (by omega)
  have he3 : (f : Int).toNat = f := by omega
  have he4 : wr (m 53 f) = (m 53 f) := wr_id (by omega) (by omega)
  have key := @zb135_35r T hT D κ m f g lo hlo
  simp only [he0, he1, he2, he3, he4, Int.toNat_natCast] at key
  exact key
    (by refine ⟨?_, ?_⟩ <;> omega)
    (by refine ⟨?_, ?_⟩ <;> omega)
    (k1  (zB_u (zB_u (zB_u (zB_u hB (show 0 ≤ 3 ∧ 3 ≤ 26 from ⟨by omega, by omega⟩)) trivial) trivial) trivial))
theorem zb250_0r (hT : zRules T) {D : Nat} {κ : Option zA → zM → Prop} {m : zM} {p : Int} {q : Int} {n : Int} 
    (o1 : wr p < 0 → κ (some (zi (-1))) (zu m 74 12 0))
    (o2 : ¬ wr p < 0 → wr ((m 74 4) - 1) < wr p → κ (some (zi (-1))) (zu m 74 12 0))
    (o3 : ¬ wr p < 0 → ¬ wr ((m 74 4) - 1) < wr p → wr q < 0 → κ (some (zi (-1))) (zu m 74 12 0))
    (o4 : ¬ wr p < 0 → ¬ wr ((m 74 4) - 1) < wr p → ¬ wr q < 0 → 3 < wr q → κ (some (zi (-1))) (zu m 74 12 0))
    (o5 : ¬ wr p < 0 → ¬ wr ((m 74 4) - 1) < wr p → ¬ wr q < 0 → ¬ 3 < wr q → wr n < 1 → κ (some (zi (-1))) (zu m 74 12 0))
    (o6 : ¬ wr p < 0 → ¬ wr ((m 74 4) - 1) < wr p → ¬ wr q < 0 → ¬ 3 < wr q → ¬ wr n < 1 → 60 < wr n → κ (some (zi (-1))) (zu m 74 12 0))
    (o7 : ¬ wr p < 0 → ¬ wr ((m 74 4) - 1) < wr p → ¬ wr q < 0 → ¬ 3 < wr q → ¬ wr n < 1 → ¬ 60 < wr n → T (D + 4) 250 (46, [(0, zr 74), (1, zi p), (2, zi q), (3, zi n), (4, zi (-1)), (5, zi 0), (6, zi 100000000), (7, zi 0), (8, zi 0)], [], (zu m 74 12 0)) κ) :
    T (D + 4) 250 (0, [(0, zr 74), (1, zi p), (2, zi q), (3, zi n)], [], m) κ :=
  hT.1 [(46, [0, 1, 2, 3, 4, 5, 6, 7, 8])] 6 (D + 4) 250 _ κ (And.intro trivial (hT.1 [] 6 (D + 3) 190 _ _ (hT.1 [] 6 (D + 3) 190 (8, [(0, zr 74), (1, zi p)], [zi ((m 74 4) - 1), zi 0, zi p], (zu m 74 12 0)) _ (hT.1 [] 6 (D + 2) 186 _ _ (And.intro (fun a1 => (And.intro (z_b01L rfl) (hT.1 [] 6 (D + 3) 190 _ _ (And.intro (z_b01L rfl) (hT.1 [(46, [0, 1, 2, 3, 4, 5, 6, 7, 8])] 6 (D + 4) 250 _ _ (And.intro (fun _ => (o1 a1)) (fun a3 => (a3 (z_litT rfl)).elim))))))) (fun a2 => (And.intro (fun a4 => (hT.1 [] 6 (D + 2) 186 (14, [(0, zi p), (1, zi 0), (2, zi ((m 74 4) - 1))], [], (zu m 74 12 0)) _ (And.intro (z_b01L rfl) (hT.1 [] 6 (D + 3) 190 _ _ (And.intro (z_b01L rfl) (hT.1 [(46, [0, 1, 2, 3, 4, 5, 6, 7, 8])] 6 (D + 4) 250 _ _ (And.intro (fun _ => (o2 a2 a4)) (fun a6 => (a6 (z_litT rfl)).elim)))))))) (fun a5 => (hT.1 [] 6 (D + 2) 186 (10, [(0, zi p), (1, zi 0), (2, zi ((m 74 4) - 1))], [], (zu m 74 12 0)) _ (And.intro (z_b01L rfl) (hT.1 [] 6 (D + 3) 190 _ _ (And.intro (z_b01L rfl) (hT.1 [(46, [0, 1, 2, 3, 4, 5, 6, 7, 8])] 6 (D + 4) 250 _ _ (And.intro (fun a7 => (z_litF a7 rfl).elim) (fun _ => (hT.1 [] 6 (D + 3) 192 _ _ (hT.1 [] 6 (D + 2) 186 _ _ (And.intro (fun a8 => (And.intro (z_b01L rfl) (hT.1 [] 6 (D + 3) 192 _ _ (And.intro (z_b01L rfl) (hT.1 [(46, [0, 1, 2, 3, 4, 5, 6, 7, 8])] 6 (D + 4) 250 _ _ (And.intro (fun _ => (o3 a2 a5 a8)) (fun a10 => (a10 (z_litT rfl)).elim))))))) (fun a9 => (And.intro (fun a11 => (hT.1 [] 6 (D + 2) 186 (14, [(0, zi q), (1, zi 0), (2, zi 3)], [], (zu m 74 12 0)) _ (And.intro (z_b01L rfl) (hT.1 [] 6 (D + 3) 192 _ _ (And.intro (z_b01L rfl) (hT.1 [(46, [0, 1, 2, 3, 4, 5, 6, 7, 8])] 6 (D + 4) 250 _ _ (And.intro (fun _ => (o4 a2 a5 a9 a11)) (fun a13 => (a13 (z_litT rfl)).elim)))))))) (fun a12 => (hT.1 [] 6 (D + 2) 186 (10, [(0, zi q), (1, zi 0), (2, zi 3)], [], (zu m 74 12 0)) _ (And.intro (z_b01L rfl) (hT.1 [] 6 (D + 3) 192 _ _ (And.intro (z_b01L rfl) (hT.1 [(46, [0, 1, 2, 3, 4, 5, 6, 7, 8])] 6 (D + 4) 250 _ _ (And.intro (fun a14 => (z_litF a14 rfl).elim) (fun _ => (hT.1 [] 6 (D + 3) 194 _ _ (hT.1 [] 6 (D + 2) 186 _ _ (And.intro (fun a15 => (And.intro (z_b01L rfl) (hT.1 [] 6 (D + 3) 194 _ _ (And.intro (z_b01L rfl) (hT.1 [(46, [0, 1, 2, 3, 4, 5, 6, 7, 8])] 6 (D + 4) 250 _ _ (And.intro (fun a17 => (z_litF a17 rfl).elim) (fun _ => (o5 a2 a5 a9 a12 a15)))))))) (fun a16 => (And.intro (fun a18 => (hT.1 [] 6 (D + 2) 186 (14, [(0, zi n), (1, zi 1), (2, zi 60)], [], (zu m 74 12 0)) _ (And.intro (z_b01L rfl) (hT.1 [] 6 (D + 3) 194 _ _ (And.intro (z_b01L rfl) (hT.1 [(46, [0, 1, 2, 3, 4, 5, 6, 7, 8])] 6 (D + 4) 250 _ _ (And.intro (fun a20 => (z_litF a20 rfl).elim) (fun _ => (o6 a2 a5 a9 a12 a16 a18))))))))) (fun a19 => (hT.1 [] 6 (D + 2) 186 (10, [(0, zi n), (1, zi 1), (2, zi 60)], [], (zu m 74 12 0)) _ (And.intro (z_b01L rfl) (hT.1 [] 6 (D + 3) 194 _ _ (And.intro (z_b01L rfl) (hT.1 [(46, [0, 1, 2, 3, 4, 5, 6, 7, 8])] 6 (D + 4) 250 _ _ (And.intro (fun _ => (hT.1 [(46, [0, 1, 2, 3, 4, 5, 6, 7, 8])] 6 (D + 4) 250 (38, [(0, zr 74), (1, zi p), (2, zi q), (3, zi n), (4, zi (-1)), (5, zi 0)], [zi 100000000], (zu m 74 12 0)) _ (o7 a2 a5 a9 a12 a16 a19))) (fun a21 => (a21 (z_litT rfl)).elim)))))))))))))))))))))))))))))))))))))))))
theorem zb250_0 (hT : zRules T) {D : Nat} {κ : Option zA → zM → Prop} {m : zM} {p : Int} {q : Int} {n : Int}  (hB : zB m) (h_p : (-2147483648) ≤ p ∧ p ≤ 2147483647) (h_q : (-2147483648) ≤ q ∧ q ≤ 2147483647) (h_n : (-2147483648) ≤ n ∧ n ≤ 2147483647) 
    (k1 : p < 0 → zB (zu m 74 12 0) → κ (some (zi (-1))) (zu m 74 12 0))
    (k2 : ¬ p < 0 → ((m 74 4) - 1) < p → zB (zu m 74 12 0) → κ (some (zi (-1))) (zu m 74 12 0))
    (k3 : ¬ p < 0 → ¬ ((m 74 4) - 1) < p → q < 0 → zB (zu m 74 12 0) → κ (some (zi (-1))) (zu m 74 12 0))
    (k4 : ¬ p < 0 → ¬ ((m 74 4) - 1) < p → ¬ q < 0 → 3 < q → zB (zu m 74 12 0) → κ (some (zi (-1))) (zu m 74 12 0))
    (k5 : ¬ p < 0 → ¬ ((m 74 4) - 1) < p → ¬ q < 0 → ¬ 3 < q → n < 1 → zB (zu m 74 12 0) → κ (some (zi (-1))) (zu m 74 12 0))
    (k6 : ¬ p < 0 → ¬ ((m 74 4) - 1) < p → ¬ q < 0 → ¬ 3 < q → ¬ n < 1 → 60 < n → zB (zu m 74 12 0) → κ (some (zi (-1))) (zu m 74 12 0))
    (k7 : ¬ p < 0 → ¬ ((m 74 4) - 1) < p → ¬ q < 0 → ¬ 3 < q → ¬ n < 1 → ¬ 60 < n → zB (zu m 74 12 0) → T (D + 4) 250 (46, [(0, zr 74), (1, zi p), (2, zi q), (3, zi n), (4, zi (-1)), (5, zi 0), (6, zi 100000000), (7, zi 0), (8, zi 0)], [], (zu m 74 12 0)) κ) :
    T (D + 4) 250 (0, [(0, zr 74), (1, zi p), (2, zi q), (3, zi n)], [], m) κ := by
  have hb3 : 0 ≤ (m 74 4) ∧ (m 74 4) ≤ 6 := hB 74 4
  have he0 : wr p = p := wr_id (by omega) (by omega)
  have he1 : wr ((m 74 4) - 1) = ((m 74 4) - 1) := wr_id (by omega) (by omega)
  have he2 : wr q = q := wr_id (by omega) (by omega)
  have he3 : wr n = n := wr_id (by omega) (by omega)
  have key := @zb250_0r T hT D κ m p q n
  simp only [he0, he1, he2, he3, Int.toNat_natCast] at key
  exact key
    (fun x0 => k1 x0 (zB_u hB trivial))
    (fun x0 x1 => k2 x0 x1 (zB_u hB trivial))
    (fun x0 x1 x2 => k3 x0 x1 x2 (zB_u hB trivial))
    (fun x0 x1 x2 x3 => k4 x0 x1 x2 x3 (zB_u hB trivial))
    (fun x0 x1 x2 x3 x4 => k5 x0 x1 x2 x3 x4 (zB_u hB trivial))
    (fun x0 x1 x2 x3 x4 x5 => k6 x0 x1 x2 x3 x4 x5 (zB_u hB trivial))
    (fun x0 x1 x2 x3 x4 x5 => k7 x0 x1 x2 x3 x4 x5 (zB_u hB trivial))
theorem zb250_46r (hT : zRules T) {D : Nat} {κ : Option zA → zM → Prop} {m : zM} {p : Nat} {q : Nat} {n : Nat} {k : Nat} {a : Int} {b : Nat} {c : Int} {d : Nat} {lo : zL} (hlo : z_keep [0, 1, 2, 3, 4, 5, 6, 7, 8] lo = [(0, zr 74), (1, zi (p : Int)), (2, zi (q : Int)), (3, zi (n : Int)), (4, zi a), (5, zi (b : Int)), (6, zi c), (7, zi (d : Int)), (8, zi (k : Int))]) 
    (o1 : ¬ wr (k : Int) < wr (n : Int) → κ (some (zi (wr a))) (zu (zu (zu (zu (zu (zu (zu m 74 11 0) 81 0 (b : Int)) 74 11 1) 81 1 c) 74 11 2) 81 2 (d : Int)) 74 11 3))
    (o2 : wr (k : Int) < wr (n : Int) → T (D + 3) 215 (0, [(0, zr 74), (1, zi (p : Int)), (2, zi (q : Int)), (3, zi ((m 75 57) + (k : Int)))], [], m) (fun r m1 => T (D + 4) 250 (68, [(0, zr 74), (1, zi (p : Int)), (2, zi (q : Int)), (3, zi (n : Int)), (4, zi a), (5, zi (b : Int)), (6, zi c), (7, zi (d : Int)), (8, zi (k : Int))], r.toList ++ [], m1) κ)) :
    T (D + 4) 250 (46, lo, [], m) κ :=
  zkeep hT hlo (hT.1 [(46, [0, 1, 2, 3, 4, 5, 6, 7, 8])] 6 (D + 4) 250 _ κ (And.intro (fun a1 => (And.intro trivial (hT.1 [(46, [0, 1, 2, 3, 4, 5, 6, 7, 8])] 6 (D + 4) 250 (111, [(0, zr 74), (1, zi (p : Int)), (2, zi (q : Int)), (3, zi (n : Int)), (4, zi a), (5, zi (b : Int)), (6, zi c), (7, zi (d : Int)), (8, zi (k : Int))], [], (zu m 74 11 0)) _ (hT.1 [] 6 (D + 3) 189 _ _ (And.intro (And.intro (z_ixL rfl) trivial) (hT.1 [] 6 (D + 3) 189 (10, [(0, zr 74), (1, zi (b : Int))], [], (zu (zu m 74 11 0) 81 0 (b : Int))) _ (And.intro trivial (hT.1 [] 6 (D + 3) 189 (20, [(0, zr 74), (1, zi (b : Int))], [], (zu (zu (zu m 74 11 0) 81 0 (b : Int)) 74 11 1)) _ (hT.1 [(46, [0, 1, 2, 3, 4, 5, 6, 7, 8])] 6 (D + 4) 250 _ _ (hT.1 [] 6 (D + 3) 189 _ _ (And.intro (And.intro (z_ixL rfl) trivial) (hT.1 [] 6 (D + 3) 189 (10, [(0, zr 74), (1, zi c)], [], (zu (zu (zu (zu m 74 11 0) 81 0 (b : Int)) 74 11 1) 81 1 c)) _ (And.intro trivial (hT.1 [] 6 (D + 3) 189 (20, [(0, zr 74), (1, zi c)], [], (zu (zu (zu (zu (zu m 74 11 0) 81 0 (b : Int)) 74 11 1) 81 1 c) 74 11 2)) _ (hT.1 [(46, [0, 1, 2, 3, 4, 5, 6, 7, 8])] 6 (D + 4) 250 _ _ (hT.1 [] 6 (D + 3) 189 _ _ (And.intro (And.intro (z_ixL rfl) trivial) (hT.1 [] 6 (D + 3) 189 (10, [(0, zr 74), (1, zi (d : Int))], [], (zu (zu (zu (zu (zu (zu m 74 11 0) 81 0 (b : Int)) 74 11 1) 81 1 c) 74 11 2) 81 2 (d : Int))) _ (And.intro trivial (hT.1 [] 6 (D + 3) 189 (20, [(0, zr 74), (1, zi (d : Int))], [], (zu (zu (zu (zu (zu (zu (zu m 74 11 0) 81 0 (b : Int)) 74 11 1) 81 1 c) 74 11 2) 81 2 (d : Int)) 74 11 3)) _ (hT.1 [(46, [0, 1, 2, 3, 4, 5, 6, 7, 8])] 6 (D + 4) 250 _ _ (o1 a1)))))))))))))))))))))) (fun a2 => (hT.1 [(46, [0, 1, 2, 3, 4, 5, 6, 7, 8])] 6 (D + 4) 250 (55, [(0, zr 74), (1, zi (p : Int)), (2, zi (q : Int)), (3, zi (n : Int)), (4, zi a), (5, zi (b : Int)), (6, zi c), (7, zi (d : Int)), (8, zi (k : Int))], [zi (q : Int), zi (p : Int), zr 74], m) _ (And.intro (z_ixL rfl) (hT.1 [(46, [0, 1, 2, 3, 4, 5, 6, 7, 8])] 6 (D + 4) 250 (65, [(0, zr 74), (1, zi (p : Int)), (2, zi (q : Int)), (3, zi (n : Int)), (4, zi a), (5, zi (b : Int)), (6, zi c), (7, zi (d : Int)), (8, zi (k : Int))], [zi ((m 75 57) + (k : Int)), zi (q : Int), zi (p : Int), zr 74], m) _ (o2 (Classical.byContradiction a2))))))))
theorem zb250_46 (hT : zRules T) {D : Nat} {κ : Option zA → zM → Prop} {m : zM} {p : Nat} {q : Nat} {n : Nat} {k : Nat} {a : Int} {b : Nat} {c : Int} {d : Nat} {lo : zL} (hlo : z_keep [0, 1, 2, 3, 4, 5, 6, 7, 8] lo = [(0, zr 74), (1, zi (p : Int)), (2, zi (q : Int)), (3, zi (n : Int)), (4, zi a), (5, zi (b : Int)), (6, zi c), (7, zi (d : Int)), (8, zi (k : Int))])  (hB : zB m) (h_p : p ≤ 5) (h_q : q ≤ 3) (h_n : n ≤ 60) (h_k : k ≤ 60) (h_a : (-1) ≤ a ∧ a ≤ 99) (h_b : b ≤ 60) (h_c : 0 ≤ c ∧ c ≤ 100000000) (h_d : d ≤ 60) 
    (k1 : ¬ (k : Int) < (n : Int) → zB (zu (zu (zu (zu (zu (zu (zu m 74 11 0) 81 0 (b : Int)) 74 11 1) 81 1 c) 74 11 2) 81 2 (d : Int)) 74 11 3) → κ (some (zi a)) (zu (zu (zu (zu (zu (zu (zu m 74 11 0) 81 0 (b : Int)) 74 11 1) 81 1 c) 74 11 2) 81 2 (d : Int)) 74 11 3))
    (k2 : (k : Int) < (n : Int) → T (D + 3) 215 (0, [(0, zr 74), (1, zi (p : Int)), (2, zi (q : Int)), (3, zi ((m 75 57) + (k : Int)))], [], m) (fun r m1 => T (D + 4) 250 (68, [(0, zr 74), (1, zi (p : Int)), (2, zi (q : Int)), (3, zi (n : Int)), (4, zi a), (5, zi (b : Int)), (6, zi c), (7, zi (d : Int)), (8, zi (k : Int))], r.toList ++ [], m1) κ)) :
    T (D + 4) 250 (46, lo, [], m) κ := by
  have hb8 : 0 ≤ (m 75 57) ∧ (m 75 57) ≤ 400000 := hB 75 57
  have he0 : wr (k : Int) = (k : Int) := wr_id (by omega) (by omega)
  have he1 : wr (n : Int) = (n : Int) := wr_id (by omega) (by omega)
  have he2 : wr a = a := wr_id (by omega) (by omega)
  have key := @zb250_46r T hT D κ m p q n k a b c d lo hlo
  simp only [he0, he1, he2, Int.toNat_natCast] at key
  exact key
    (fun x0 => k1 x0 (zB_u (zB_u (zB_u (zB_u (zB_u (zB_u (zB_u hB (show 0 ≤ 0 ∧ 0 ≤ 32 from ⟨by omega, by omega⟩)) trivial) (show 0 ≤ 1 ∧ 1 ≤ 32 from ⟨by omega, by omega⟩)) trivial) (show 0 ≤ 2 ∧ 2 ≤ 32 from ⟨by omega, by omega⟩)) trivial) (show 0 ≤ 3 ∧ 3 ≤ 32 from ⟨by omega, by omega⟩)))
    k2
theorem zb250_68r (hT : zRules T) {D : Nat} {κ : Option zA → zM → Prop} {m : zM} {p : Nat} {q : Nat} {n : Nat} {k : Nat} {a : Int} {b : Nat} {c : Int} {d : Nat} {v : Int} {lo : zL} (hlo : z_keep [0, 1, 2, 3, 4, 5, 6, 7, 8] lo = [(0, zr 74), (1, zi (p : Int)), (2, zi (q : Int)), (3, zi (n : Int)), (4, zi a), (5, zi (b : Int)), (6, zi c), (7, zi (d : Int)), (8, zi (k : Int))]) 
    (o1 : ¬ wr a < wr v → ¬ wr v < wr c → T (D + 4) 250 (46, [(0, zr 74), (1, zi (p : Int)), (2, zi (q : Int)), (3, zi (n : Int)), (4, zi a), (5, zi (b : Int)), (6, zi c), (7, zi (d : Int)), (8, zi ((k : Int) + 1))], [], m) κ)
    (o2 : ¬ wr a < wr v → wr v < wr c → T (D + 4) 250 (46, [(0, zr 74), (1, zi (p : Int)), (2, zi (q : Int)), (3, zi (n : Int)), (4, zi a), (5, zi (b : Int)), (6, zi v), (7, zi (k : Int)), (8, zi ((k : Int) + 1))], [], m) κ)
    (o3 : wr a < wr v → ¬ wr v < wr c → T (D + 4) 250 (46, [(0, zr 74), (1, zi (p : Int)), (2, zi (q : Int)), (3, zi (n : Int)), (4, zi v), (5, zi (k : Int)), (6, zi c), (7, zi (d : Int)), (8, zi ((k : Int) + 1))], [], m) κ)
    (o4 : wr a < wr v → wr v < wr c → T (D + 4) 250 (46, [(0, zr 74), (1, zi (p : Int)), (2, zi (q : Int)), (3, zi (n : Int)), (4, zi v), (5, zi (k : Int)), (6, zi v), (7, zi (k : Int)), (8, zi ((k : Int) + 1))], [], m) κ) :
    T (D + 4) 250 (68, lo, [zi v], m) κ :=
  zkeep hT hlo (hT.1 [(46, [0, 1, 2, 3, 4, 5, 6, 7, 8])] 6 (D + 4) 250 _ κ (And.intro (fun a1 => (hT.1 [(46, [0, 1, 2, 3, 4, 5, 6, 7, 8])] 6 (D + 4) 250 (89, [(0, zr 74), (1, zi (p : Int)), (2, zi (q : Int)), (3, zi (n : Int)), (4, zi a), (5, zi (b : Int)), (6, zi c), (7, zi (d : Int)), (8, zi (k : Int)), (9, zi v)], [zi c, zi v], m) _ (And.intro (fun a3 => (o1 a1 a3)) (fun a4 => (hT.1 [(46, [0, 1, 2, 3, 4, 5, 6, 7, 8])] 6 (D + 4) 250 (103, [(0, zr 74), (1, zi (p : Int)), (2, zi (q : Int)), (3, zi (n : Int)), (4, zi a), (5, zi (b : Int)), (6, zi v), (7, zi (k : Int)), (8, zi ((k : Int) + 1)), (9, zi v)], [], m) _ (o2 a1 (Classical.byContradiction a4))))))) (fun a2 => (hT.1 [(46, [0, 1, 2, 3, 4, 5, 6, 7, 8])] 6 (D + 4) 250 (81, [(0, zr 74), (1, zi (p : Int)), (2, zi (q : Int)), (3, zi (n : Int)), (4, zi v), (5, zi (b : Int)), (6, zi c), (7, zi (d : Int)), (8, zi (k : Int)), (9, zi v)], [], m) _ (And.intro (fun a5 => (hT.1 [(46, [0, 1, 2, 3, 4, 5, 6, 7, 8])] 6 (D + 4) 250 (103, [(0, zr 74), (1, zi (p : Int)), (2, zi (q : Int)), (3, zi (n : Int)), (4, zi v), (5, zi (k : Int)), (6, zi c), (7, zi (d : Int)), (8, zi ((k : Int) + 1)), (9, zi v)], [], m) _ (o3 (Classical.byContradiction a2) a5))) (fun a6 => (hT.1 [(46, [0, 1, 2, 3, 4, 5, 6, 7, 8])] 6 (D + 4) 250 (94, [(0, zr 74), (1, zi (p : Int)), (2, zi (q : Int)), (3, zi (n : Int)), (4, zi v), (5, zi (k : Int)), (6, zi c), (7, zi (d : Int)), (8, zi (k : Int)), (9, zi v)], [zi v], m) _ (o4 (Classical.byContradiction a2) (Classical.byContradiction a6)))))))))
theorem zb250_68 (hT : zRules T) {D : Nat} {κ : Option zA → zM → Prop} {m : zM} {p : Nat} {q : Nat} {n : Nat} {k : Nat} {a : Int} {b : Nat} {c : Int} {d : Nat} {v : Int} {lo : zL} (hlo : z_keep [0, 1, 2, 3, 4, 5, 6, 7, 8] lo = [(0, zr 74), (1, zi (p : Int)), (2, zi (q : Int)), (3, zi (n : Int)), (4, zi a), (5, zi (b : Int)), (6, zi c), (7, zi (d : Int)), (8, zi (k : Int))])  (hB : zB m) (h_p : p ≤ 5) (h_q : q ≤ 3) (h_n : n ≤ 60) (h_k : k ≤ 60) (h_a : (-1) ≤ a ∧ a ≤ 99) (h_b : b ≤ 60) (h_c : 0 ≤ c ∧ c ≤ 100000000) (h_d : d ≤ 60) (h_v : 0 ≤ v ∧ v ≤ 99) 
    (k1 : ¬ a < v → ¬ v < c → T (D + 4) 250 (46, [(0, zr 74), (1, zi (p : Int)), (2, zi (q : Int)), (3, zi (n : Int)), (4, zi a), (5, zi (b : Int)), (6, zi c), (7, zi (d : Int)), (8, zi ((k : Int) + 1))], [], m) κ)
    (k2 : ¬ a < v → v < c → T (D + 4) 250 (46, [(0, zr 74), (1, zi (p : Int)), (2, zi (q : Int)), (3, zi (n : Int)), (4, zi a), (5, zi (b : Int)), (6, zi v), (7, zi (k : Int)), (8, zi ((k : Int) + 1))], [], m) κ)
    (k3 : a < v → ¬ v < c → T (D + 4) 250 (46, [(0, zr 74), (1, zi (p : Int)), (2, zi (q : Int)), (3, zi (n : Int)), (4, zi v), (5, zi (k : Int)), (6, zi c), (7, zi (d : Int)), (8, zi ((k : Int) + 1))], [], m) κ)
    (k4 : a < v → v < c → T (D + 4) 250 (46, [(0, zr 74), (1, zi (p : Int)), (2, zi (q : Int)), (3, zi (n : Int)), (4, zi v), (5, zi (k : Int)), (6, zi v), (7, zi (k : Int)), (8, zi ((k : Int) + 1))], [], m) κ) :
    T (D + 4) 250 (68, lo, [zi v], m) κ := by
  have he0 : wr a = a := wr_id (by omega) (by omega)
  have he1 : wr v = v := wr_id (by omega) (by omega)
  have he2 : wr c = c := wr_id (by omega) (by omega)
  have key := @zb250_68r T hT D κ m p q n k a b c d v lo hlo
  simp only [he0, he1, he2, Int.toNat_natCast] at key
  exact key
    k1
    k2
    k3
    k4
theorem zb136_0r (hT : zRules T) {D : Nat} {κ : Option zA → zM → Prop} {m : zM} {p : Int} {q : Int} {n : Int} 
    (o1 : wr p < 0 → κ (some (zi (-1))) m)
    (o2 : ¬ wr p < 0 → ¬ wr p < wr (m 17 0) → κ (some (zi (-1))) m)
    (o3 : ¬ wr p < 0 → wr p < wr (m 17 0) → wr q < 0 → κ (some (zi (-1))) m)
    (o4 : ¬ wr p < 0 → wr p < wr (m 17 0) → ¬ wr q < 0 → ¬ wr q < 4 → κ (some (zi (-1))) m)
    (o5 : ¬ wr p < 0 → wr p < wr (m 17 0) → ¬ wr q < 0 → wr q < 4 → wr n < 1 → κ (some (zi (-1))) m)
    (o6 : ¬ wr p < 0 → wr p < wr (m 17 0) → ¬ wr q < 0 → wr q < 4 → ¬ wr n < 1 → 60 < wr n → κ (some (zi (-1))) m)
    (o7 : ¬ wr p < 0 → wr p < wr (m 17 0) → ¬ wr q < 0 → wr q < 4 → ¬ wr n < 1 → ¬ 60 < wr n → T (D + 5) 180 (0, [(0, zr 1), (1, zi p), (2, zi q), (3, zi n)], [], m) (fun r m1 => T (D + 6) 136 (19, [(0, zr 1), (1, zi p), (2, zi q), (3, zi n)], r.toList ++ [], m1) κ)) :
    T (D + 6) 136 (0, [(0, zr 1), (1, zi p), (2, zi q), (3, zi n)], [], m) κ :=
  hT.1 [] 6 (D + 6) 136 _ κ (hT.1 [] 6 (D + 5) 179 _ _ (hT.1 [] 6 (D + 4) 25 _ _ (And.intro (fun a1 => (And.intro (z_b01L rfl) (hT.1 [] 6 (D + 5) 179 _ _ (And.intro (fun _ => (And.intro (z_b01L rfl) (hT.1 [] 6 (D + 6) 136 _ _ (And.intro (fun a4 => (z_litF a4 rfl).elim) (fun _ => (o1 a1)))))) (fun a3 => (a3 (z_litT rfl)).elim))))) (fun a2 => (And.intro (fun a5 => (hT.1 [] 6 (D + 4) 25 (16, [(0, zr 17), (1, zi p)], [], m) _ (And.intro (z_b01L rfl) (hT.1 [] 6 (D + 5) 179 _ _ (And.intro (fun _ => (And.intro (z_b01L rfl) (hT.1 [] 6 (D + 6) 136 _ _ (And.intro (fun a8 => (z_litF a8 rfl).elim) (fun _ => (o2 a2 a5)))))) (fun a7 => (a7 (z_litT rfl)).elim)))))) (fun a6 => (hT.1 [] 6 (D + 4) 25 (12, [(0, zr 17), (1, zi p)], [], m) _ (And.intro (z_b01L rfl) (hT.1 [] 6 (D + 5) 179 _ _ (And.intro (fun a9 => (z_litF a9 rfl).elim) (fun _ => (hT.1 [] 6 (D + 4) 163 _ _ (And.intro (fun a10 => (And.intro (z_b01L rfl) (hT.1 [] 6 (D + 5) 179 _ _ (And.intro (fun _ => (And.intro (z_b01L rfl) (hT.1 [] 6 (D + 6) 136 _ _ (And.intro (fun a13 => (z_litF a13 rfl).elim) (fun _ => (o3 a2 (Classical.byContradiction a6) a10)))))) (fun a12 => (a12 (z_litT rfl)).elim))))) (fun a11 => (And.intro (fun a14 => (hT.1 [] 6 (D + 4) 163 (14, [(0, zi q)], [zi 0], m) _ (And.intro (z_b01L rfl) (hT.1 [] 6 (D + 5) 179 _ _ (And.intro (fun _ => (And.intro (z_b01L rfl) (hT.1 [] 6 (D + 6) 136 _ _ (And.intro (fun a17 => (z_litF a17 rfl).elim) (fun _ => (o4 a2 (Classical.byContradiction a6) a11 a14)))))) (fun a16 => (a16 (z_litT rfl)).elim)))))) (fun a15 => (hT.1 [] 6 (D + 4) 163 (10, [(0, zi q)], [zi 1], m) _ (And.intro (z_b01L rfl) (hT.1 [] 6 (D + 5) 179 _ _ (And.intro (fun a18 => (z_litF a18 rfl).elim) (fun _ => (And.intro (fun a19 => (And.intro (z_b01L rfl) (hT.1 [] 6 (D + 6) 136 _ _ (And.intro (fun a21 => (z_litF a21 rfl).elim) (fun _ => (o5 a2 (Classical.byContradiction a6) a11 (Classical.byContradiction a15) a19)))))) (fun a20 => (hT.1 [] 6 (D + 5) 179 (26, [(0, zr 1), (1, zi p), (2, zi q), (3, zi n)], [zi 60, zi n], m) _ (And.intro (fun a22 => (And.intro (z_b01L rfl) (hT.1 [] 6 (D + 6) 136 _ _ (And.intro (fun a24 => (z_litF a24 rfl).elim) (fun _ => (o6 a2 (Classical.byContradiction a6) a11 (Classical.byContradiction a15) a20 a22)))))) (fun a23 => (And.intro (z_b01L rfl) (hT.1 [] 6 (D + 6) 136 _ _ (And.intro (fun _ => (o7 a2 (Classical.byContradiction a6) a11 (Classical.byContradiction a15) a20 a23)) (fun a25 => (a25 (z_litT rfl)).elim))))))))))))))))))))))))))))))
theorem zb136_0 (hT : zRules T) {D : Nat} {κ : Option zA → zM → Prop} {m : zM} {p : Int} {q : Int} {n : Int}  (hB : zB m) (h_p : (-2147483648) ≤ p ∧ p ≤ 2147483647) (h_q : (-2147483648) ≤ q ∧ q ≤ 2147483647) (h_n : (-2147483648) ≤ n ∧ n ≤ 2147483647) 
    (k1 : p < 0 → κ (some (zi (-1))) m)
    (k2 : ¬ p < 0 → ¬ p < (m 17 0) → κ (some (zi (-1))) m)
    (k3 : ¬ p < 0 → p < (m 17 0) → q < 0 → κ (some (zi (-1))) m)
    (k4 : ¬ p < 0 → p < (m 17 0) → ¬ q < 0 → ¬ q < 4 → κ (some (zi (-1))) m)
    (k5 : ¬ p < 0 → p < (m 17 0) → ¬ q < 0 → q < 4 → n < 1 → κ (some (zi (-1))) m)
    (k6 : ¬ p < 0 → p < (m 17 0) → ¬ q < 0 → q < 4 → ¬ n < 1 → 60 < n → κ (some (zi (-1))) m)
    (k7 : ¬ p < 0 → p < (m 17 0) → ¬ q < 0 → q < 4 → ¬ n < 1 → ¬ 60 < n → T (D + 5) 180 (0, [(0, zr 1), (1, zi p), (2, zi q), (3, zi n)], [], m) (fun r m1 => T (D + 6) 136 (19, [(0, zr 1), (1, zi p), (2, zi q), (3, zi n)], r.toList ++ [], m1) κ)) :
    T (D + 6) 136 (0, [(0, zr 1), (1, zi p), (2, zi q), (3, zi n)], [], m) κ := by
  have hb3 : 0 ≤ (m 17 0) ∧ (m 17 0) ≤ 6 := hB 17 0
  have he0 : wr p = p := wr_id (by omega) (by omega)
  have he1 : wr (m 17 0) = (m 17 0) := wr_id (by omega) (by omega)
  have he2 : wr q = q := wr_id (by omega) (by omega)
  have he3 : wr n = n := wr_id (by omega) (by omega)
  have key := @zb136_0r T hT D κ m p q n
  simp only [he0, he1, he2, he3, Int.toNat_natCast] at key
  exact key
    k1
    k2
    k3
    k4
    k5
    k6
    k7
theorem zb136_19r (hT : zRules T) {D : Nat} {κ : Option zA → zM → Prop} {m : zM} {lo : zL} (hlo : z_keep [0] lo = [(0, zr 1)]) 
    (o1 : T (D + 5) 78 (0, [(0, zr 52), (1, zi 0)], [], m) (fun r m1 => T (D + 6) 136 (27, [(0, zr 1)], r.toList ++ [], m1) κ)) :
    T (D + 6) 136 (19, lo, [], m) κ :=
  zkeep hT hlo (hT.1 [] 6 (D + 6) 136 _ κ (o1))
theorem zb136_19 (hT : zRules T) {D : Nat} {κ : Option zA → zM → Prop} {m : zM} {lo : zL} (hlo : z_keep [0] lo = [(0, zr 1)])  (hB : zB m) 
    (k1 : T (D + 5) 78 (0, [(0, zr 52), (1, zi 0)], [], m) (fun r m1 => T (D + 6) 136 (27, [(0, zr 1)], r.toList ++ [], m1) κ)) :
    T (D + 6) 136 (19, lo, [], m) κ := by
  exact zb136_19r hT hlo
    k1
theorem zb136_27r (hT : zRules T) {D : Nat} {κ : Option zA → zM → Prop} {m : zM} {lo : zL} (hlo : z_keep [0] lo = [(0, zr 1)]) 
    (o1 : T (D + 5) 79 (0, [(0, zr 52)], [], m) (fun r m1 => T (D + 6) 136 (34, [(0, zr 1)], r.toList ++ [], m1) κ)) :
    T (D + 6) 136 (27, lo, [], m) κ :=
  zkeep hT hlo (hT.1 [] 6 (D + 6) 136 _ κ (o1))
theorem zb136_27 (hT : zRules T) {D : Nat} {κ : Option zA → zM → Prop} {m : zM} {lo : zL} (hlo : z_keep [0] lo = [(0, zr 1)])  (hB : zB m) 
    (k1 : T (D + 5) 79 (0, [(0, zr 52)], [], m) (fun r m1 => T (D + 6) 136 (34, [(0, zr 1)], r.toList ++ [], m1) κ)) :
    T (D + 6) 136 (27, lo, [], m) κ := by
  exact zb136_27r hT hlo
    k1
theorem zb136_34r (hT : zRules T) {D : Nat} {κ : Option zA → zM → Prop} {m : zM} {f : Nat} {lo : zL} (hlo : z_keep [0] lo = [(0, zr 1)]) 
    (o1 : (0 ≤ wr (f : Int) ∧ wr (f : Int) < 109))
    (o2 : T (D + 5) 80 (0, [(0, zr 52)], [], (zu (zu (zu m 72 1 2) 73 0 (f : Int)) 73 1 (m 54 ((wr (f : Int)).toNat)))) (fun r m1 => T (D + 6) 136 (62, [(0, zr 1), (4, zi (f : Int))], r.toList ++ [], m1) κ)) :
    T (D + 6) 136 (34, lo, [zi (f : Int)], m) κ :=
  zkeep hT hlo (hT.1 [] 6 (D + 6) 136 _ κ (hT.1 [] 6 (D + 6) 136 (46, [(0, zr 1), (4, zi (f : Int))], [zr 52, zi (f : Int), zr 72], m) _ (And.intro (o1) (hT.1 [] 6 (D + 5) 46 _ _ (And.intro trivial (hT.1 [] 6 (D + 5) 46 (10, [(0, zr 72), (1, zi (f : Int)), (2, zi (m 54 ((wr (f : Int)).toNat)))], [zi 0, zr 73], (zu m 72 1 2)) _ (And.intro (And.intro (z_ixL rfl) trivial) (hT.1 [] 6 (D + 5) 46 (18, [(0, zr 72), (1, zi (f : Int)), (2, zi (m 54 ((wr (f : Int)).toNat)))], [zi (m 54 ((wr (f : Int)).toNat)), zi 1, zr 73], (zu (zu m 72 1 2) 73 0 (f : Int))) _ (And.intro (And.intro (z_ixL rfl) trivial) (hT.1 [] 6 (D + 6) 136 _ _ (o2)))))))))))
theorem zb136_34 (hT : zRules T) {D : Nat} {κ : Option zA → zM → Prop} {m : zM} {f : Nat} {lo : zL} (hlo : z_keep [0] lo = [(0, zr 1)])  (hB : zB m) (h_f : f ≤ 108) 
    (k1 : zB (zu (zu (zu m 72 1 2) 73 0 (f : Int)) 73 1 (m 54 f)) → T (D + 5) 80 (0, [(0, zr 52)], [], (zu (zu (zu m 72 1 2) 73 0 (f : Int)) 73 1 (m 54 f))) (fun r m1 => T (D + 6) 136 (62, [(0, zr 1), (4, zi (f : Int))], r.toList ++ [], m1) κ)) :
    T (D + 6) 136 (34, lo, [zi (f : Int)], m) κ := by
  have he0 : wr (f : Int) = (f : Int) := wr_id (by omega) (by omega)
  have he1 : (f : Int).toNat = f := by omega
  have key := @zb136_34r T hT D κ m f lo hlo
  simp only [he0, he1, Int.toNat_natCast] at key
  exact key
    (by refine ⟨?_, ?_⟩ <;> omega)
    (k1  (zB_u (zB_u (zB_u hB (show 0 ≤ 2 ∧ 2 ≤ 26 from ⟨by omega, by omega⟩)) trivial) trivial))
theorem zb136_62r (hT : zRules T) {D : Nat} {κ : Option zA → zM → Prop} {m : zM} {v : Int} {lo : zL} (hlo : z_keep [] lo = []) 
    (o1 : κ (some (zi (wr v))) m) :
    T (D + 6) 136 (62, lo, [zi v], m) κ :=
  zkeep hT hlo (hT.1 [] 6 (D + 6) 136 _ κ (o1))
theorem zb136_62 (hT : zRules T) {D : Nat} {κ : Option zA → zM → Prop} {m : zM} {v : Int} {lo : zL} (hlo : z_keep [] lo = [])  (h_v : 0 ≤ v ∧ v ≤ 109) 
    (k1 : κ (some (zi v)) m) :
    T (D + 6) 136 (62, lo, [zi v], m) κ := by
  have he0 : wr v = v := wr_id (by omega) (by omega)
  have key := @zb136_62r T hT D κ m v lo hlo
  simp only [he0, Int.toNat_natCast] at key
  exact key
    k1
theorem zb251_0r (hT : zRules T) {D : Nat} {κ : Option zA → zM → Prop} {m : zM} {p : Int} {q : Int} {n : Int} 
    (o1 : wr p < 0 → κ (some (zi (-1))) (zu m 74 12 0))
    (o2 : ¬ wr p < 0 → wr ((m 74 4) - 1) < wr p → κ (some (zi (-1))) (zu m 74 12 0))
    (o3 : ¬ wr p < 0 → ¬ wr ((m 74 4) - 1) < wr p → wr q < 0 → κ (some (zi (-1))) (zu m 74 12 0))
    (o4 : ¬ wr p < 0 → ¬ wr ((m 74 4) - 1) < wr p → ¬ wr q < 0 → 3 < wr q → κ (some (zi (-1))) (zu m 74 12 0))
    (o5 : ¬ wr p < 0 → ¬ wr ((m 74 4) - 1) < wr p → ¬ wr q < 0 → ¬ 3 < wr q → wr n < 1 → κ (some (zi (-1))) (zu m 74 12 0))
    (o6 : ¬ wr p < 0 → ¬ wr ((m 74 4) - 1) < wr p → ¬ wr q < 0 → ¬ 3 < wr q → ¬ wr n < 1 → 60 < wr n → κ (some (zi (-1))) (zu m 74 12 0))
    (o7 : ¬ wr p < 0 → ¬ wr ((m 74 4) - 1) < wr p → ¬ wr q < 0 → ¬ 3 < wr q → ¬ wr n < 1 → ¬ 60 < wr n → T (D + 4) 251 (32, [(0, zr 74), (1, zi p), (2, zi q), (3, zi n), (4, zi 0)], [], (zu m 74 12 0)) κ) :
    T (D + 4) 251 (0, [(0, zr 74), (1, zi p), (2, zi q), (3, zi n)], [], m) κ :=
  hT.1 [(32, [0, 1, 2, 3, 4]), (56, [0, 1, 2, 3, 4]), (102, [0, 4, 5, 6])] 6 (D + 4) 251 _ κ (And.intro trivial (hT.1 [] 6 (D + 3) 190 _ _ (hT.1 [] 6 (D + 3) 190 (8, [(0, zr 74), (1, zi p)], [zi ((m 74 4) - 1), zi 0, zi p], (zu m 74 12 0)) _ (hT.1 [] 6 (D + 2) 186 _ _ (And.intro (fun a1 => (And.intro (z_b01L rfl) (hT.1 [] 6 (D + 3) 190 _ _ (And.intro (z_b01L rfl) (hT.1 [(32, [0, 1, 2, 3, 4]), (56, [0, 1, 2, 3, 4]), (102, [0, 4, 5, 6])] 6 (D + 4) 251 _ _ (And.intro (fun _ => (o1 a1)) (fun a3 => (a3 (z_litT rfl)).elim))))))) (fun a2 => (And.intro (fun a4 => (hT.1 [] 6 (D + 2) 186 (14, [(0, zi p), (1, zi 0), (2, zi ((m 74 4) - 1))], [], (zu m 74 12 0)) _ (And.intro (z_b01L rfl) (hT.1 [] 6 (D + 3) 190 _ _ (And.intro (z_b01L rfl) (hT.1 [(32, [0, 1, 2, 3, 4]), (56, [0, 1, 2, 3, 4]), (102, [0, 4, 5, 6])] 6 (D + 4) 251 _ _ (And.intro (fun _ => (o2 a2 a4)) (fun a6 => (a6 (z_litT rfl)).elim)))))))) (fun a5 => (hT.1 [] 6 (D + 2) 186 (10, [(0, zi p), (1, zi 0), (2, zi ((m 74 4) - 1))], [], (zu m 74 12 0)) _ (And.intro (z_b01L rfl) (hT.1 [] 6 (D + 3) 190 _ _ (And.intro (z_b01L rfl) (hT.1 [(32, [0, 1, 2, 3, 4]), (56, [0, 1, 2, 3, 4]), (102, [0, 4, 5, 6])] 6 (D + 4) 251 _ _ (And.intro (fun a7 => (z_litF a7 rfl).elim) (fun _ => (hT.1 [] 6 (D + 3) 192 _ _ (hT.1 [] 6 (D + 2) 186 _ _ (And.intro (fun a8 => (And.intro (z_b01L rfl) (hT.1 [] 6 (D + 3) 192 _ _ (And.intro (z_b01L rfl) (hT.1 [(32, [0, 1, 2, 3, 4]), (56, [0, 1, 2, 3, 4]), (102, [0, 4, 5, 6])] 6 (D + 4) 251 _ _ (And.intro (fun _ => (o3 a2 a5 a8)) (fun a10 => (a10 (z_litT rfl)).elim))))))) (fun a9 => (And.intro (fun a11 => (hT.1 [] 6 (D + 2) 186 (14, [(0, zi q), (1, zi 0), (2, zi 3)], [], (zu m 74 12 0)) _ (And.intro (z_b01L rfl) (hT.1 [] 6 (D + 3) 192 _ _ (And.intro (z_b01L rfl) (hT.1 [(32, [0, 1, 2, 3, 4]), (56, [0, 1, 2, 3, 4]), (102, [0, 4, 5, 6])] 6 (D + 4) 251 _ _ (And.intro (fun _ => (o4 a2 a5 a9 a11)) (fun a13 => (a13 (z_litT rfl)).elim)))))))) (fun a12 => (hT.1 [] 6 (D + 2) 186 (10, [(0, zi q), (1, zi 0), (2, zi 3)], [], (zu m 74 12 0)) _ (And.intro (z_b01L rfl) (hT.1 [] 6 (D + 3) 192 _ _ (And.intro (z_b01L rfl) (hT.1 [(32, [0, 1, 2, 3, 4]), (56, [0, 1, 2, 3, 4]), (102, [0, 4, 5, 6])] 6 (D + 4) 251 _ _ (And.intro (fun a14 => (z_litF a14 rfl).elim) (fun _ => (hT.1 [] 6 (D + 3) 194 _ _ (hT.1 [] 6 (D + 2) 186 _ _ (And.intro (fun a15 => (And.intro (z_b01L rfl) (hT.1 [] 6 (D + 3) 194 _ _ (And.intro (z_b01L rfl) (hT.1 [(32, [0, 1, 2, 3, 4]), (56, [0, 1, 2, 3, 4]), (102, [0, 4, 5, 6])] 6 (D + 4) 251 _ _ (And.intro (fun a17 => (z_litF a17 rfl).elim) (fun _ => (o5 a2 a5 a9 a12 a15)))))))) (fun a16 => (And.intro (fun a18 => (hT.1 [] 6 (D + 2) 186 (14, [(0, zi n), (1, zi 1), (2, zi 60)], [], (zu m 74 12 0)) _ (And.intro (z_b01L rfl) (hT.1 [] 6 (D + 3) 194 _ _ (And.intro (z_b01L rfl) (hT.1 [(32, [0, 1, 2, 3, 4]), (56, [0, 1, 2, 3, 4]), (102, [0, 4, 5, 6])] 6 (D + 4) 251 _ _ (And.intro (fun a20 => (z_litF a20 rfl).elim) (fun _ => (o6 a2 a5 a9 a12 a16 a18))))))))) (fun a19 => (hT.1 [] 6 (D + 2) 186 (10, [(0, zi n), (1, zi 1), (2, zi 60)], [], (zu m 74 12 0)) _ (And.intro (z_b01L rfl) (hT.1 [] 6 (D + 3) 194 _ _ (And.intro (z_b01L rfl) (hT.1 [(32, [0, 1, 2, 3, 4]), (56, [0, 1, 2, 3, 4]), (102, [0, 4, 5, 6])] 6 (D + 4) 251 _ _ (And.intro (fun _ => (o7 a2 a5 a9 a12 a16 a19)) (fun a21 => (a21 (z_litT rfl)).elim)))))))))))))))))))))))))))))))))))))))))
theorem zb251_0 (hT : zRules T) {D : Nat} {κ : Option zA → zM → Prop} {m : zM} {p : Int} {q : Int} {n : Int}  (hB : zB m) (h_p : (-2147483648) ≤ p ∧ p ≤ 2147483647) (h_q : (-2147483648) ≤ q ∧ q ≤ 2147483647) (h_n : (-2147483648) ≤ n ∧ n ≤ 2147483647) 
    (k1 : p < 0 → zB (zu m 74 12 0) → κ (some (zi (-1))) (zu m 74 12 0))
    (k2 : ¬ p < 0 → ((m 74 4) - 1) < p → zB (zu m 74 12 0) → κ (some (zi (-1))) (zu m 74 12 0))
    (k3 : ¬ p < 0 → ¬ ((m 74 4) - 1) < p → q < 0 → zB (zu m 74 12 0) → κ (some (zi (-1))) (zu m 74 12 0))
    (k4 : ¬ p < 0 → ¬ ((m 74 4) - 1) < p → ¬ q < 0 → 3 < q → zB (zu m 74 12 0) → κ (some (zi (-1))) (zu m 74 12 0))
    (k5 : ¬ p < 0 → ¬ ((m 74 4) - 1) < p → ¬ q < 0 → ¬ 3 < q → n < 1 → zB (zu m 74 12 0) → κ (some (zi (-1))) (zu m 74 12 0))
    (k6 : ¬ p < 0 → ¬ ((m 74 4) - 1) < p → ¬ q < 0 → ¬ 3 < q → ¬ n < 1 → 60 < n → zB (zu m 74 12 0) → κ (some (zi (-1))) (zu m 74 12 0))
    (k7 : ¬ p < 0 → ¬ ((m 74 4) - 1) < p → ¬ q < 0 → ¬ 3 < q → ¬ n < 1 → ¬ 60 < n → zB (zu m 74 12 0) → T (D + 4) 251 (32, [(0, zr 74), (1, zi p), (2, zi q), (3, zi n), (4, zi 0)], [], (zu m 74 12 0)) κ) :
    T (D + 4) 251 (0, [(0, zr 74), (1, zi p), (2, zi q), (3, zi n)], [], m) κ := by
  have hb3 : 0 ≤ (m 74 4) ∧ (m 74 4) ≤ 6 := hB 74 4
  have he0 : wr p = p := wr_id (by omega) (by omega)
  have he1 : wr ((m 74 4) - 1) = ((m 74 4) - 1) := wr_id (by omega) (by omega)
  have he2 : wr q = q := wr_id (by omega) (by omega)
  have he3 : wr n = n := wr_id (by omega) (by omega)
  have key := @zb251_0r T hT D κ m p q n
  simp only [he0, he1, he2, he3, Int.toNat_natCast] at key
  exact key
    (fun x0 => k1 x0 (zB_u hB trivial))
    (fun x0 x1 => k2 x0 x1 (zB_u hB trivial))
    (fun x0 x1 x2 => k3 x0 x1 x2 (zB_u hB trivial))
    (fun x0 x1 x2 x3 => k4 x0 x1 x2 x3 (zB_u hB trivial))
    (fun x0 x1 x2 x3 x4 => k5 x0 x1 x2 x3 x4 (zB_u hB trivial))
    (fun x0 x1 x2 x3 x4 x5 => k6 x0 x1 x2 x3 x4 x5 (zB_u hB trivial))
    (fun x0 x1 x2 x3 x4 x5 => k7 x0 x1 x2 x3 x4 x5 (zB_u hB trivial))
theorem zb251_32r (hT : zRules T) {D : Nat} {κ : Option zA → zM → Prop} {m : zM} {p : Nat} {q : Nat} {n : Nat} {v : Nat} {lo : zL} (hlo : z_keep [0, 1, 2, 3, 4] lo = [(0, zr 74), (1, zi (p : Int)), (2, zi (q : Int)), (3, zi (n : Int)), (4, zi (v : Int))]) 
    (o1 : 99 < wr (v : Int) → T (D + 4) 251 (56, [(0, zr 74), (1, zi (p : Int)), (2, zi (q : Int)), (3, zi (n : Int)), (4, zi 0)], [], m) κ)
    (o2 : ¬ 99 < wr (v : Int) → (0 ≤ wr (v : Int) ∧ wr (v : Int) < 100))
    (o3 : ¬ 99 < wr (v : Int) → T (D + 4) 251 (32, [(0, zr 74), (1, zi (p : Int)), (2, zi (q : Int)), (3, zi (n : Int)), (4, zi ((v : Int) + 1))], [], (zu m 92 ((wr (v : Int)).toNat) 0)) κ) :
    T (D + 4) 251 (32, lo, [], m) κ :=
  zkeep hT hlo (hT.1 [(32, [0, 1, 2, 3, 4]), (56, [0, 1, 2, 3, 4]), (102, [0, 4, 5, 6])] 6 (D + 4) 251 _ κ (And.intro (fun a1 => (o1 a1)) (fun a2 => (hT.1 [(32, [0, 1, 2, 3, 4]), (56, [0, 1, 2, 3, 4]), (102, [0, 4, 5, 6])] 6 (D + 4) 251 (45, [(0, zr 74), (1, zi (p : Int)), (2, zi (q : Int)), (3, zi (n : Int)), (4, zi (v : Int))], [zi (v : Int), zr 92], m) _ (And.intro (And.intro (o2 a2) trivial) (o3 a2))))))
theorem zb251_32 (hT : zRules T) {D : Nat} {κ : Option zA → zM → Prop} {m : zM} {p : Nat} {q : Nat} {n : Nat} {v : Nat} {lo : zL} (hlo : z_keep [0, 1, 2, 3, 4] lo = [(0, zr 74), (1, zi (p : Int)), (2, zi (q : Int)), (3, zi (n : Int)), (4, zi (v : Int))])  (hB : zB m) (h_p : p ≤ 5) (h_q : q ≤ 3) (h_n : n ≤ 60) (h_v : v ≤ 100) 
    (k1 : 99 < (v : Int) → T (D + 4) 251 (56, [(0, zr 74), (1, zi (p : Int)), (2, zi (q : Int)), (3, zi (n : Int)), (4, zi 0)], [], m) κ)
    (k2 : ¬ 99 < (v : Int) → zB (zu m 92 v 0) → T (D + 4) 251 (32, [(0, zr 74), (1, zi (p : Int)), (2, zi (q : Int)), (3, zi (n : Int)), (4, zi ((v : Int) + 1))], [], (zu m 92 v 0)) κ) :
    T (D + 4) 251 (32, lo, [], m) κ := by
  have he0 : wr (v : Int) = (v : Int) := wr_id (by omega) (by omega)
  have he1 : (v : Int).toNat = v := by omega
  have key := @zb251_32r T hT D κ m p q n v lo hlo
  simp only [he0, he1, Int.toNat_natCast] at key
  exact key
    k1
    (fun x0 => by refine ⟨?_, ?_⟩ <;> omega)
    (fun x0 => k2 x0 (zB_u hB trivial))
theorem zb251_56r (hT : zRules T) {D : Nat} {κ : Option zA → zM → Prop} {m : zM} {p : Nat} {q : Nat} {n : Nat} {k : Nat} {lo : zL} (hlo : z_keep [0, 1, 2, 3, 4] lo = [(0, zr 74), (1, zi (p : Int)), (2, zi (q : Int)), (3, zi (n : Int)), (4, zi (k : Int))]) 
    (o1 : ¬ wr (k : Int) < wr (n : Int) → T (D + 4) 251 (102, [(0, zr 74), (4, zi 0), (5, zi 0), (6, zi 0)], [], m) κ)
    (o2 : wr (k : Int) < wr (n : Int) → T (D + 3) 215 (0, [(0, zr 74), (1, zi (p : Int)), (2, zi (q : Int)), (3, zi ((m 75 57) + (k : Int)))], [], m) (fun r m1 => T (D + 4) 251 (82, [(0, zr 74), (1, zi (p : Int)), (2, zi (q : Int)), (3, zi (n : Int)), (4, zi (k : Int))], r.toList ++ [zr 92], m1) κ)) :
    T (D + 4) 251 (56, lo, [], m) κ :=
  zkeep hT hlo (hT.1 [(32, [0, 1, 2, 3, 4]), (56, [0, 1, 2, 3, 4]), (102, [0, 4, 5, 6])] 6 (D + 4) 251 _ κ (And.intro (fun a1 => (hT.1 [(32, [0, 1, 2, 3, 4]), (56, [0, 1, 2, 3, 4]), (102, [0, 4, 5, 6])] 6 (D + 4) 251 (97, [(0, zr 74), (1, zi (p : Int)), (2, zi (q : Int)), (3, zi (n : Int)), (4, zi 0)], [zi 0], m) _ (o1 a1))) (fun a2 => (hT.1 [(32, [0, 1, 2, 3, 4]), (56, [0, 1, 2, 3, 4]), (102, [0, 4, 5, 6])] 6 (D + 4) 251 (67, [(0, zr 74), (1, zi (p : Int)), (2, zi (q : Int)), (3, zi (n : Int)), (4, zi (k : Int))], [zr 74, zr 92], m) _ (And.intro (z_ixL rfl) (hT.1 [(32, [0, 1, 2, 3, 4]), (56, [0, 1, 2, 3, 4]), (102, [0, 4, 5, 6])] 6 (D + 4) 251 (76, [(0, zr 74), (1, zi (p : Int)), (2, zi (q : Int)), (3, zi (n : Int)), (4, zi (k : Int))], [zi (m 75 57), zi (q : Int), zi (p : Int), zr 74, zr 92], m) _ (o2 (Classical.byContradiction a2))))))))
theorem zb251_56 (hT : zRules T) {D : Nat} {κ : Option zA → zM → Prop} {m : zM} {p : Nat} {q : Nat} {n : Nat} {k : Nat} {lo : zL} (hlo : z_keep [0, 1, 2, 3, 4] lo = [(0, zr 74), (1, zi (p : Int)), (2, zi (q : Int)), (3, zi (n : Int)), (4, zi (k : Int))])  (hB : zB m) (h_p : p ≤ 5) (h_q : q ≤ 3) (h_n : n ≤ 60) (h_k : k ≤ 60) 
    (k1 : ¬ (k : Int) < (n : Int) → T (D + 4) 251 (102, [(0, zr 74), (4, zi 0), (5, zi 0), (6, zi 0)], [], m) κ)
    (k2 : (k : Int) < (n : Int) → T (D + 3) 215 (0, [(0, zr 74), (1, zi (p : Int)), (2, zi (q : Int)), (3, zi ((m 75 57) + (k : Int)))], [], m) (fun r m1 => T (D + 4) 251 (82, [(0, zr 74), (1, zi (p : Int)), (2, zi (q : Int)), (3, zi (n : Int)), (4, zi (k : Int))], r.toList ++ [zr 92], m1) κ)) :
    T (D + 4) 251 (56, lo, [], m) κ := by
  have hb4 : 0 ≤ (m 75 57) ∧ (m 75 57) ≤ 400000 := hB 75 57
  have he0 : wr (k : Int) = (k : Int) := wr_id (by omega) (by omega)
  have he1 : wr (n : Int) = (n : Int) := wr_id (by omega) (by omega)
  have key := @zb251_56r T hT D κ m p q n k lo hlo
  simp only [he0, he1, Int.toNat_natCast] at key
  exact key
    k1
    k2
theorem zb251_82r (hT : zRules T) {D : Nat} {κ : Option zA → zM → Prop} {m : zM} {p : Nat} {q : Nat} {n : Nat} {k : Nat} {v : Nat} {lo : zL} (hlo : z_keep [0, 1, 2, 3, 4] lo = [(0, zr 74), (1, zi (p : Int)), (2, zi (q : Int)), (3, zi (n : Int)), (4, zi (k : Int))]) 
    (o1 : (0 ≤ wr (v : Int) ∧ wr (v : Int) < 100))
    (o2 : (0 ≤ wr (v : Int) ∧ wr (v : Int) < 100))
    (o3 : T (D + 4) 251 (56, [(0, zr 74), (1, zi (p : Int)), (2, zi (q : Int)), (3, zi (n : Int)), (4, zi ((k : Int) + 1))], [], (zu m 92 ((wr (v : Int)).toNat) ((m 92 ((wr (v : Int)).toNat)) + 1))) κ) :
    T (D + 4) 251 (82, lo, [zi (v : Int), zr 92], m) κ :=
  zkeep hT hlo (hT.1 [(32, [0, 1, 2, 3, 4]), (56, [0, 1, 2, 3, 4]), (102, [0, 4, 5, 6])] 6 (D + 4) 251 _ κ (And.intro (o1) (And.intro (And.intro (o2) trivial) (hT.1 [(32, [0, 1, 2, 3, 4]), (56, [0, 1, 2, 3, 4]), (102, [0, 4, 5, 6])] 6 (D + 4) 251 (90, [(0, zr 74), (1, zi (p : Int)), (2, zi (q : Int)), (3, zi (n : Int)), (4, zi ((k : Int) + 1))], [], (zu m 92 ((wr (v : Int)).toNat) ((m 92 ((wr (v : Int)).toNat)) + 1))) _ (o3)))))
theorem zb251_82 (hT : zRules T) {D : Nat} {κ : Option zA → zM → Prop} {m : zM} {p : Nat} {q : Nat} {n : Nat} {k : Nat} {v : Nat} {lo : zL} (hlo : z_keep [0, 1, 2, 3, 4] lo = [(0, zr 74), (1, zi (p : Int)), (2, zi (q : Int)), (3, zi (n : Int)), (4, zi (k : Int))])  (hB : zB m) (h_p : p ≤ 5) (h_q : q ≤ 3) (h_n : n ≤ 60) (h_k : k ≤ 60) (h_v : v ≤ 99) 
    (k1 : zB (zu m 92 v ((m 92 v) + 1)) → T (D + 4) 251 (56, [(0, zr 74), (1, zi (p : Int)), (2, zi (q : Int)), (3, zi (n : Int)), (4, zi ((k : Int) + 1))], [], (zu m 92 v ((m 92 v) + 1))) κ) :
    T (D + 4) 251 (82, lo, [zi (v : Int), zr 92], m) κ := by
  have he0 : wr (v : Int) = (v : Int) := wr_id (by omega) (by omega)
  have he1 : (v : Int).toNat = v := by omega
  have key := @zb251_82r T hT D κ m p q n k v lo hlo
  simp only [he0, he1, Int.toNat_natCast] at key
  exact key
    (by refine ⟨?_, ?_⟩ <;> omega)
    (by refine ⟨?_, ?_⟩ <;> omega)
    (k1  (zB_u hB trivial))
theorem zb251_102r (hT : zRules T) {D : Nat} {κ : Option zA → zM → Prop} {m : zM} {c : Nat} {b : Nat} {v : Nat} {lo : zL} (hlo : z_keep [0, 4, 5, 6] lo = [(0, zr 74), (4, zi (c : Int)), (5, zi (b : Int)), (6, zi (v : Int))]) 
    (o1 : 99 < wr (v : Int) → (0 ≤ wr (b : Int) ∧ wr (b : Int) < 100))
    (o2 : 99 < wr (v : Int) → κ (some (zi (wr (c : Int)))) (zu (zu (zu (zu (zu m 74 11 0) 81 0 (b : Int)) 74 11 1) 81 1 (m 92 ((wr (b : Int)).toNat))) 74 11 2))
    (o3 : ¬ 99 < wr (v : Int) → (0 ≤ wr (v : Int) ∧ wr (v : Int) < 100))
    (o4 : ¬ 99 < wr (v : Int) → ¬ 0 < wr (m 92 ((wr (v : Int)).toNat)) → (0 ≤ wr (v : Int) ∧ wr (v : Int) < 100))
    (o5 : ¬ 99 < wr (v : Int) → ¬ 0 < wr (m 92 ((wr (v : Int)).toNat)) → (0 ≤ wr (b : Int) ∧ wr (b : Int) < 100))
    (o6 : ¬ 99 < wr (v : Int) → ¬ 0 < wr (m 92 ((wr (v : Int)).toNat)) → ¬ wr (m 92 ((wr (b : Int)).toNat)) < wr (m 92 ((wr (v : Int)).toNat)) → T (D + 4) 251 (102, [(0, zr 74), (4, zi ((c : Int) + 0)), (5, zi (b : Int)), (6, zi ((v : Int) + 1))], [], m) κ)
    (o7 : ¬ 99 < wr (v : Int) → ¬ 0 < wr (m 92 ((wr (v : Int)).toNat)) → wr (m 92 ((wr (b : Int)).toNat)) < wr (m 92 ((wr (v : Int)).toNat)) → T (D + 4) 251 (102, [(0, zr 74), (4, zi ((c : Int) + 0)), (5, zi (v : Int)), (6, zi ((v : Int) + 1))], [], m) κ)
    (o8 : ¬ 99 < wr (v : Int) → 0 < wr (m 92 ((wr (v : Int)).toNat)) → (0 ≤ wr (v : Int) ∧ wr (v : Int) < 100))
    (o9 : ¬ 99 < wr (v : Int) → 0 < wr (m 92 ((wr (v : Int)).toNat)) → (0 ≤ wr (b : Int) ∧ wr (b : Int) < 100))
    (o10 : ¬ 99 < wr (v : Int) → 0 < wr (m 92 ((wr (v : Int)).toNat)) → ¬ wr (m 92 ((wr (b : Int)).toNat)) < wr (m 92 ((wr (v : Int)).toNat)) → T (D + 4) 251 (102, [(0, zr 74), (4, zi ((c : Int) + 1)), (5, zi (b : Int)), (6, zi ((v : Int) + 1))], [], m) κ)
    (o11 : ¬ 99 < wr (v : Int) → 0 < wr (m 92 ((wr (v : Int)).toNat)) → wr (m 92 ((wr (b : Int)).toNat)) < wr (m 92 ((wr (v : Int)).toNat)) → T (D + 4) 251 (102, [(0, zr 74), (4, zi ((c : Int) + 1)), (5, zi (v : Int)), (6, zi ((v : Int) + 1))], [], m) κ) :
    T (D + 4) 251 (102, lo, [], m) κ :=
  zkeep hT hlo (hT.1 [(32, [0, 1, 2, 3, 4]), (56, [0, 1, 2, 3, 4]), (102, [0, 4, 5, 6])] 6 (D + 4) 251 _ κ (And.intro (fun a1 => (And.intro trivial (hT.1 [(32, [0, 1, 2, 3, 4]), (56, [0, 1, 2, 3, 4]), (102, [0, 4, 5, 6])] 6 (D + 4) 251 (161, [(0, zr 74), (4, zi (c : Int)), (5, zi (b : Int)), (6, zi (v : Int))], [], (zu m 74 11 0)) _ (hT.1 [] 6 (D + 3) 189 _ _ (And.intro (And.intro (z_ixL rfl) trivial) (hT.1 [] 6 (D + 3) 189 (10, [(0, zr 74), (1, zi (b : Int))], [], (zu (zu m 74 11 0) 81 0 (b : Int))) _ (And.intro trivial (hT.1 [] 6 (D + 3) 189 (20, [(0, zr 74), (1, zi (b : Int))], [], (zu (zu (zu m 74 11 0) 81 0 (b : Int)) 74 11 1)) _ (hT.1 [(32, [0, 1, 2, 3, 4]), (56, [0, 1, 2, 3, 4]), (102, [0, 4, 5, 6])] 6 (D + 4) 251 _ _ (And.intro (o1 a1) (hT.1 [] 6 (D + 3) 189 _ _ (And.intro (And.intro (z_ixL rfl) trivial) (hT.1 [] 6 (D + 3) 189 (10, [(0, zr 74), (1, zi (m 92 ((wr (b : Int)).toNat)))], [], (zu (zu (zu (zu m 74 11 0) 81 0 (b : Int)) 74 11 1) 81 1 (m 92 ((wr (b : Int)).toNat)))) _ (And.intro trivial (hT.1 [] 6 (D + 3) 189 (20, [(0, zr 74), (1, zi (m 92 ((wr (b : Int)).toNat)))], [], (zu (zu (zu (zu (zu m 74 11 0) 81 0 (b : Int)) 74 11 1) 81 1 (m 92 ((wr (b : Int)).toNat))) 74 11 2)) _ (hT.1 [(32, [0, 1, 2, 3, 4]), (56, [0, 1, 2, 3, 4]), (102, [0, 4, 5, 6])] 6 (D + 4) 251 _ _ (o2 a1))))))))))))))))) (fun a2 => (hT.1 [(32, [0, 1, 2, 3, 4]), (56, [0, 1, 2, 3, 4]), (102, [0, 4, 5, 6])] 6 (D + 4) 251 (115, [(0, zr 74), (4, zi (c : Int)), (5, zi (b : Int)), (6, zi (v : Int))], [zr 92, zi (c : Int)], m) _ (And.intro (o3 a2) (And.intro (fun a3 => (hT.1 [(32, [0, 1, 2, 3, 4]), (56, [0, 1, 2, 3, 4]), (102, [0, 4, 5, 6])] 6 (D + 4) 251 (129, [(0, zr 74), (4, zi ((c : Int) + 0)), (5, zi (b : Int)), (6, zi (v : Int))], [], m) _ (And.intro (o4 a2 a3) (hT.1 [(32, [0, 1, 2, 3, 4]), (56, [0, 1, 2, 3, 4]), (102, [0, 4, 5, 6])] 6 (D + 4) 251 (140, [(0, zr 74), (4, zi ((c : Int) + 0)), (5, zi (b : Int)), (6, zi (v : Int))], [zr 92, zi (m 92 ((wr (v : Int)).toNat))], m) _ (And.intro (o5 a2 a3) (And.intro (fun a5 => (o6 a2 a3 a5)) (fun a6 => (hT.1 [(32, [0, 1, 2, 3, 4]), (56, [0, 1, 2, 3, 4]), (102, [0, 4, 5, 6])] 6 (D + 4) 251 (153, [(0, zr 74), (4, zi ((c : Int) + 0)), (5, zi (v : Int)), (6, zi ((v : Int) + 1))], [], m) _ (o7 a2 a3 (Classical.byContradiction a6)))))))))) (fun a4 => (hT.1 [(32, [0, 1, 2, 3, 4]), (56, [0, 1, 2, 3, 4]), (102, [0, 4, 5, 6])] 6 (D + 4) 251 (127, [(0, zr 74), (4, zi (c : Int)), (5, zi (b : Int)), (6, zi (v : Int))], [zi ((c : Int) + 1)], m) _ (And.intro (o8 a2 (Classical.byContradiction a4)) (hT.1 [(32, [0, 1, 2, 3, 4]), (56, [0, 1, 2, 3, 4]), (102, [0, 4, 5, 6])] 6 (D + 4) 251 (137, [(0, zr 74), (4, zi ((c : Int) + 1)), (5, zi (b : Int)), (6, zi (v : Int))], [zr 74, zi (m 92 ((wr (v : Int)).toNat))], m) _ (And.intro (o9 a2 (Classical.byContradiction a4)) (And.intro (fun a7 => (o10 a2 (Classical.byContradiction a4) a7)) (fun a8 => (hT.1 [(32, [0, 1, 2, 3, 4]), (56, [0, 1, 2, 3, 4]), (102, [0, 4, 5, 6])] 6 (D + 4) 251 (150, [(0, zr 74), (4, zi ((c : Int) + 1)), (5, zi (v : Int)), (6, zi (v : Int))], [], m) _ (o11 a2 (Classical.byContradiction a4) (Classical.byContradiction a8))))))))))))))))
theorem zb251_102 (hT : zRules T) {D : Nat} {κ : Option zA → zM → Prop} {m : zM} {c : Nat} {b : Nat} {v : Nat} {lo : zL} (hlo : z_keep [0, 4, 5, 6] lo = [(0, zr 74), (4, zi (c : Int)), (5, zi (b : Int)), (6, zi (v : Int))])  (hB : zB m) (h_c : c ≤ 100) (h_b : b ≤ 99) (h_v : v ≤ 100) 
    (k1 : 99 < (v : Int) → zB (zu (zu (zu (zu (zu m 74 11 0) 81 0 (b : Int)) 74 11 1) 81 1 (m 92 b)) 74 11 2) → κ (some (zi (c : Int))) (zu (zu (zu (zu (zu m 74 11 0) 81 0 (b : Int)) 74 11 1) 81 1 (m 92 b)) 74 11 2))
    (k2 : ¬ 99 < (v : Int) → ¬ 0 < wr (m 92 v) → ¬ wr (m 92 b) < wr (m 92 v) → T (D + 4) 251 (102, [(0, zr 74), (4, zi ((c : Int) + 0)), (5, zi (b : Int)), (6, zi ((v : Int) + 1))], [], m) κ)
    (k3 : ¬ 99 < (v : Int) → ¬ 0 < wr (m 92 v) → wr (m 92 b) < wr (m 92 v) → T (D + 4) 251 (102, [(0, zr 74), (4, zi ((c : Int) + 0)), (5, zi (v : Int)), (6, zi ((v : Int) + 1))], [], m) κ)
    (k4 : ¬ 99 < (v : Int) → 0 < wr (m 92 v) → ¬ wr (m 92 b) < wr (m 92 v) → T (D + 4) 251 (102, [(0, zr 74), (4, zi ((c : Int) + 1)), (5, zi (b : Int)), (6, zi ((v : Int) + 1))], [], m) κ)
    (k5 : ¬ 99 < (v : Int) → 0 < wr (m 92 v) → wr (m 92 b) < wr (m 92 v) → T (D + 4) 251 (102, [(0, zr 74), (4, zi ((c : Int) + 1)), (5, zi (v : Int)), (6, zi ((v : Int) + 1))], [], m) κ) :
    T (D + 4) 251 (102, lo, [], m) κ := by
  have hb3 : (-2147483648) ≤ wr (m 92 v) ∧ wr (m 92 v) ≤ 2147483647 := wrB (m 92 v)
  have hb4 : (-2147483648) ≤ wr (m 92 b) ∧ wr (m 92 b) ≤ 2147483647 := wrB (m 92 b)
  have he0 : wr (v : Int) = (v : Int) := wr_id (by omega) (by omega)
  have he1 : wr (b : Int) = (b : Int) := wr_id (by omega) (by omega)
  have he2 : (b : Int).toNat = b := by omega
  have he3 : wr (c : Int) = (c : Int) := wr_id (by omega) (by omega)
  have he4 : (v : Int).toNat = v := by omega
  have key := @zb251_102r T hT D κ m c b v lo hlo
  simp only [he0, he1, he2, he3, he4, Int.toNat_natCast] at key
  exact key
    (fun x0 => by refine ⟨?_, ?_⟩ <;> omega)
    (fun x0 => k1 x0 (zB_u (zB_u (zB_u (zB_u (zB_u hB (show 0 ≤ 0 ∧ 0 ≤ 32 from ⟨by omega, by omega⟩)) trivial) (show 0 ≤ 1 ∧ 1 ≤ 32 from ⟨by omega, by omega⟩)) trivial) (show 0 ≤ 2 ∧ 2 ≤ 32 from ⟨by omega, by omega⟩)))
    (fun x0 => by refine ⟨?_, ?_⟩ <;> omega)
    (fun x0 x1 => by refine ⟨?_, ?_⟩ <;> omega)
    (fun x0 x1 => by refine ⟨?_, ?_⟩ <;> omega)
    k2
    k3
    (fun x0 x1 => by refine ⟨?_, ?_⟩ <;> omega)
    (fun x0 x1 => by refine ⟨?_, ?_⟩ <;> omega)
    k4
    k5
theorem zb137_0r (hT : zRules T) {D : Nat} {κ : Option zA → zM → Prop} {m : zM} {c : Int} {p : Int} {n : Int} 
    (o1 : wr c < 0 → κ (some (zi (-1))) m)
    (o2 : ¬ wr c < 0 → ¬ wr c < wr (m 17 1) → κ (some (zi (-1))) m)
    (o3 : ¬ wr c < 0 → wr c < wr (m 17 1) → wr p < 0 → κ (some (zi (-1))) m)
    (o4 : ¬ wr c < 0 → wr c < wr (m 17 1) → ¬ wr p < 0 → ¬ wr p < wr (m 17 0) → κ (some (zi (-1))) m)
    (o5 : ¬ wr c < 0 → wr c < wr (m 17 1) → ¬ wr p < 0 → wr p < wr (m 17 0) → wr n < 0 → κ (some (zi (-1))) m)
    (o6 : ¬ wr c < 0 → wr c < wr (m 17 1) → ¬ wr p < 0 → wr p < wr (m 17 0) → ¬ wr n < 0 → ¬ 60 < wr n → (0 ≤ wr p ∧ wr p < 6))
    (o7 : ¬ wr c < 0 → wr c < wr (m 17 1) → ¬ wr p < 0 → wr p < wr (m 17 0) → ¬ wr n < 0 → ¬ 60 < wr n → T (D + 5) 180 (0, [(0, zr 1), (1, zi p), (2, zi (m 19 ((wr p).toNat))), (3, zi n)], [], m) (fun r m1 => T (D + 6) 137 (49, [(0, zr 1), (1, zi c), (2, zi p), (3, zi n)], r.toList ++ [], m1) κ))
    (o8 : ¬ wr c < 0 → wr c < wr (m 17 1) → ¬ wr p < 0 → wr p < wr (m 17 0) → ¬ wr n < 0 → 60 < wr n → κ (some (zi (-1))) m) :
    T (D + 6) 137 (0, [(0, zr 1), (1, zi c), (2, zi p), (3, zi n)], [], m) κ :=
  hT.1 [] 6 (D + 6) 137 _ κ (hT.1 [] 6 (D + 5) 26 _ _ (And.intro (fun a1 => (And.intro (z_b01L rfl) (hT.1 [] 6 (D + 6) 137 _ _ (And.intro (fun _ => (o1 a1)) (fun a3 => (a3 (z_litT rfl)).elim))))) (fun a2 => (And.intro (fun a4 => (hT.1 [] 6 (D + 5) 26 (16, [(0, zr 17), (1, zi c)], [], m) _ (And.intro (z_b01L rfl) (hT.1 [] 6 (D + 6) 137 _ _ (And.intro (fun _ => (o2 a2 a4)) (fun a6 => (a6 (z_litT rfl)).elim)))))) (fun a5 => (hT.1 [] 6 (D + 5) 26 (12, [(0, zr 17), (1, zi c)], [], m) _ (And.intro (z_b01L rfl) (hT.1 [] 6 (D + 6) 137 _ _ (And.intro (fun a7 => (z_litF a7 rfl).elim) (fun _ => (hT.1 [] 6 (D + 5) 25 _ _ (And.intro (fun a8 => (And.intro (z_b01L rfl) (hT.1 [] 6 (D + 6) 137 _ _ (And.intro (fun _ => (o3 a2 (Classical.byContradiction a5) a8)) (fun a10 => (a10 (z_litT rfl)).elim))))) (fun a9 => (And.intro (fun a11 => (hT.1 [] 6 (D + 5) 25 (16, [(0, zr 17), (1, zi p)], [], m) _ (And.intro (z_b01L rfl) (hT.1 [] 6 (D + 6) 137 _ _ (And.intro (fun _ => (o4 a2 (Classical.byContradiction a5) a9 a11)) (fun a13 => (a13 (z_litT rfl)).elim)))))) (fun a12 => (hT.1 [] 6 (D + 5) 25 (12, [(0, zr 17), (1, zi p)], [], m) _ (And.intro (z_b01L rfl) (hT.1 [] 6 (D + 6) 137 _ _ (And.intro (fun a14 => (z_litF a14 rfl).elim) (fun _ => (And.intro (fun a15 => (o5 a2 (Classical.byContradiction a5) a9 (Classical.byContradiction a12) a15)) (fun a16 => (And.intro (fun a17 => (hT.1 [] 6 (D + 6) 137 (34, [(0, zr 1), (1, zi c), (2, zi p), (3, zi n)], [], m) _ (hT.1 [] 6 (D + 6) 137 (44, [(0, zr 1), (1, zi c), (2, zi p), (3, zi n)], [zi p, zr 19, zi p, zr 1], m) _ (And.intro (o6 a2 (Classical.byContradiction a5) a9 (Classical.byContradiction a12) a16 a17) (o7 a2 (Classical.byContradiction a5) a9 (Classical.byContradiction a12) a16 a17))))) (fun a18 => (hT.1 [] 6 (D + 6) 137 (32, [(0, zr 1), (1, zi c), (2, zi p), (3, zi n)], [], m) _ (o8 a2 (Classical.byContradiction a5) a9 (Classical.byContradiction a12) a16 (Classical.byContradiction a18)))))))))))))))))))))))))))
theorem zb137_0 (hT : zRules T) {D : Nat} {κ : Option zA → zM → Prop} {m : zM} {c : Int} {p : Int} {n : Int}  (hB : zB m) (h_c : (-2147483648) ≤ c ∧ c ≤ 2147483647) (h_p : (-2147483648) ≤ p ∧ p ≤ 2147483647) (h_n : (-2147483648) ≤ n ∧ n ≤ 2147483647) 
    (k1 : c < 0 → κ (some (zi (-1))) m)
    (k2 : ¬ c < 0 → ¬ c < (m 17 1) → κ (some (zi (-1))) m)
    (k3 : ¬ c < 0 → c < (m 17 1) → p < 0 → κ (some (zi (-1))) m)
    (k4 : ¬ c < 0 → c < (m 17 1) → ¬ p < 0 → ¬ p < (m 17 0) → κ (some (zi (-1))) m)
    (k5 : ¬ c < 0 → c < (m 17 1) → ¬ p < 0 → p < (m 17 0) → n < 0 → κ (some (zi (-1))) m)
    (k6 : ¬ c < 0 → c < (m 17 1) → ¬ p < 0 → p < (m 17 0) → ¬ n < 0 → ¬ 60 < n → T (D + 5) 180 (0, [(0, zr 1), (1, zi p), (2, zi (m 19 (p.toNat))), (3, zi n)], [], m) (fun r m1 => T (D + 6) 137 (49, [(0, zr 1), (1, zi c), (2, zi p), (3, zi n)], r.toList ++ [], m1) κ))
    (k7 : ¬ c < 0 → c < (m 17 1) → ¬ p < 0 → p < (m 17 0) → ¬ n < 0 → 60 < n → κ (some (zi (-1))) m) :
    T (D + 6) 137 (0, [(0, zr 1), (1, zi c), (2, zi p), (3, zi n)], [], m) κ := by
  have hb3 : 0 ≤ (m 17 1) ∧ (m 17 1) ≤ 8 := hB 17 1
  have hb4 : 0 ≤ (m 17 0) ∧ (m 17 0) ≤ 6 := hB 17 0
  have hb5 : (-1) ≤ (m 19 (p.toNat)) ∧ (m 19 (p.toNat)) ≤ 3 := hB 19 (p.toNat)
  have he0 : wr c = c := wr_id (by omega) (by omega)
  have he1 : wr (m 17 1) = (m 17 1) := wr_id (by omega) (by omega)
  have he2 : wr p = p := wr_id (by omega) (by omega)
  have he3 : wr (m 17 0) = (m 17 0) := wr_id (by omega) (by omega)
  have he4 : wr n = n := wr_id (by omega) (by omega)
  have key := @zb137_0r T hT D κ m c p n
  simp only [he0, he1, he2, he3, he4, Int.toNat_natCast] at key
  exact key
    k1
    k2
    k3
    k4
    k5
    (fun x0 x1 x2 x3 x4 x5 => by refine ⟨?_, ?_⟩ <;> omega)
    k6
    k7
theorem zb137_49r (hT : zRules T) {D : Nat} {κ : Option zA → zM → Prop} {m : zM} {c : Nat} {lo : zL} (hlo : z_keep [0, 1] lo = [(0, zr 1), (1, zi (c : Int))]) 
    (o1 : (0 ≤ wr (c : Int) ∧ wr (c : Int) < 8))
    (o2 : (0 ≤ wr (c : Int) ∧ wr (c : Int) < 8))
    (o3 : T (D + 5) 83 (0, [(0, zr 52), (1, zi (wr ((m 21 ((wr (c : Int)).toNat)) + (m 22 ((wr (c : Int)).toNat))))), (2, zi (wr (m 24 0)))], [], m) (fun r m1 => T (D + 6) 137 (79, [(0, zr 1), (1, zi (c : Int)), (4, zi (wr ((m 21 ((wr (c : Int)).toNat)) + (m 22 ((wr (c : Int)).toNat)))))], r.toList ++ [zr 72], m1) κ)) :
    T (D + 6) 137 (49, lo, [], m) κ :=
  zkeep hT hlo (hT.1 [] 6 (D + 6) 137 _ κ (hT.1 [] 6 (D + 5) 28 _ _ (And.intro (o1) (hT.1 [] 6 (D + 5) 28 (10, [(0, zr 17), (1, zi (c : Int))], [zr 22, zi (m 21 ((wr (c : Int)).toNat))], m) _ (And.intro (o2) (hT.1 [] 6 (D + 6) 137 _ _ (hT.1 [] 6 (D + 6) 137 (69, [(0, zr 1), (1, zi (c : Int)), (4, zi (wr ((m 21 ((wr (c : Int)).toNat)) + (m 22 ((wr (c : Int)).toNat)))))], [zi (wr ((m 21 ((wr (c : Int)).toNat)) + (m 22 ((wr (c : Int)).toNat)))), zr 52, zr 72], m) _ (hT.1 [] 6 (D + 5) 27 _ _ (And.intro (z_ixL rfl) (hT.1 [] 6 (D + 6) 137 _ _ (o3)))))))))))
theorem zb137_49 (hT : zRules T) {D : Nat} {κ : Option zA → zM → Prop} {m : zM} {c : Nat} {lo : zL} (hlo : z_keep [0, 1] lo = [(0, zr 1), (1, zi (c : Int))])  (hB : zB m) (h_c : c ≤ 7) 
    (k1 : T (D + 5) 83 (0, [(0, zr 52), (1, zi ((m 21 c) + (m 22 c))), (2, zi (m 24 0))], [], m) (fun r m1 => T (D + 6) 137 (79, [(0, zr 1), (1, zi (c : Int)), (4, zi ((m 21 c) + (m 22 c)))], r.toList ++ [zr 72], m1) κ)) :
    T (D + 6) 137 (49, lo, [], m) κ := by
  have hb1 : (-1) ≤ (m 21 c) ∧ (m 21 c) ≤ 99 := hB 21 c
  have hb2 : (-1) ≤ (m 22 c) ∧ (m 22 c) ≤ 9 := hB 22 c
  have hb3 : 0 ≤ (m 24 0) ∧ (m 24 0) ≤ 9 := hB 24 0
  have he0 : wr (c : Int) = (c : Int) := wr_id (by omega) (by omega)
  have he1 : (c : Int).toNat = c := by omega
  have he2 : wr ((m 21 c) + (m 22 c)) = ((m 21 c) + (m 22 c)) := wr_id (by omega) (by omega)
  have he3 : wr (m 24 0) = (m 24 0) := wr_id (by omega) (by omega)
  have key := @zb137_49r T hT D κ m c lo hlo
  simp only [he0, he1, he2, he3, Int.toNat_natCast] at key
  exact key
    (by refine ⟨?_, ?_⟩ <;> omega)
    (by refine ⟨?_, ?_⟩ <;> omega)
    k1
theorem zb137_79r (hT : zRules T) {D : Nat} {κ : Option zA → zM → Prop} {m : zM} {l : Int} {v : Int} {lo : zL} (hlo : z_keep [0, 4] lo = [(0, zr 1), (4, zi l)]) 
    (o1 : T (D + 5) 82 (0, [(0, zr 52), (1, zi l), (2, zi (wr (m 24 0)))], [], (zu (zu m 72 1 1) 73 0 v)) (fun r m1 => T (D + 6) 137 (98, [(0, zr 1), (4, zi l)], r.toList ++ [], m1) κ)) :
    T (D + 6) 137 (79, lo, [zi v, zr 72], m) κ :=
  zkeep hT hlo (hT.1 [] 6 (D + 6) 137 _ κ (hT.1 [] 6 (D + 5) 45 _ _ (And.intro trivial (hT.1 [] 6 (D + 5) 45 (10, [(0, zr 72), (1, zi v)], [zi 0, zr 73], (zu m 72 1 1)) _ (And.intro (And.intro (z_ixL rfl) trivial) (hT.1 [] 6 (D + 6) 137 _ _ (hT.1 [] 6 (D + 5) 27 _ _ (And.intro (z_ixL rfl) (hT.1 [] 6 (D + 6) 137 _ _ (o1))))))))))
theorem zb137_79 (hT : zRules T) {D : Nat} {κ : Option zA → zM → Prop} {m : zM} {l : Int} {v : Int} {lo : zL} (hlo : z_keep [0, 4] lo = [(0, zr 1), (4, zi l)])  (hB : zB m) (h_l : (-2) ≤ l ∧ l ≤ 108) (h_v : (-1) ≤ v ∧ v ≤ 60) 
    (k1 : zB (zu (zu m 72 1 1) 73 0 v) → T (D + 5) 82 (0, [(0, zr 52), (1, zi l), (2, zi (m 24 0))], [], (zu (zu m 72 1 1) 73 0 v)) (fun r m1 => T (D + 6) 137 (98, [(0, zr 1), (4, zi l)], r.toList ++ [], m1) κ)) :
    T (D + 6) 137 (79, lo, [zi v, zr 72], m) κ := by
  have hb2 : 0 ≤ (m 24 0) ∧ (m 24 0) ≤ 9 := hB 24 0
  have he0 : wr (m 24 0) = (m 24 0) := wr_id (by omega) (by omega)
  have key := @zb137_79r T hT D κ m l v lo hlo
  simp only [he0, Int.toNat_natCast] at key
  exact key
    (k1  (zB_u (zB_u hB (show 0 ≤ 1 ∧ 1 ≤ 26 from ⟨by omega, by omega⟩)) trivial))
theorem zb137_98r (hT : zRules T) {D : Nat} {κ : Option zA → zM → Prop} {m : zM} {v : Int} {lo : zL} (hlo : z_keep [] lo = []) 
    (o1 : κ (some (zi (wr v))) m) :
    T (D + 6) 137 (98, lo, [zi v], m) κ :=
  zkeep hT hlo (hT.1 [] 6 (D + 6) 137 _ κ (o1))
theorem zb137_98 (hT : zRules T) {D : Nat} {κ : Option zA → zM → Prop} {m : zM} {v : Int} {lo : zL} (hlo : z_keep [] lo = [])  (h_v : 0 ≤ v ∧ v ≤ 60) 
    (k1 : κ (some (zi v)) m) :
    T (D + 6) 137 (98, lo, [zi v], m) κ := by
  have he0 : wr v = v := wr_id (by omega) (by omega)
  have key := @zb137_98r T hT D κ m v lo hlo
  simp only [he0, Int.toNat_natCast] at key
  exact key
    k1
theorem zb253_0r (hT : zRules T) {D : Nat} {κ : Option zA → zM → Prop} {m : zM} {c : Int} {p : Int} {n : Int} 
    (o1 : wr c < 0 → κ (some (zi (-1))) (zu m 74 12 0))
    (o2 : ¬ wr c < 0 → wr ((m 74 6) - 1) < wr c → κ (some (zi (-1))) (zu m 74 12 0))
    (o3 : ¬ wr c < 0 → ¬ wr ((m 74 6) - 1) < wr c → wr p < 0 → κ (some (zi (-1))) (zu m 74 12 0))
    (o4 : ¬ wr c < 0 → ¬ wr ((m 74 6) - 1) < wr c → ¬ wr p < 0 → wr ((m 74 4) - 1) < wr p → κ (some (zi (-1))) (zu m 74 12 0))
    (o5 : ¬ wr c < 0 → ¬ wr ((m 74 6) - 1) < wr c → ¬ wr p < 0 → ¬ wr ((m 74 4) - 1) < wr p → wr n < 0 → κ (some (zi (-1))) (zu m 74 12 0))
    (o6 : ¬ wr c < 0 → ¬ wr ((m 74 6) - 1) < wr c → ¬ wr p < 0 → ¬ wr ((m 74 4) - 1) < wr p → ¬ wr n < 0 → 60 < wr n → κ (some (zi (-1))) (zu m 74 12 0))
    (o7 : ¬ wr c < 0 → ¬ wr ((m 74 6) - 1) < wr c → ¬ wr p < 0 → ¬ wr ((m 74 4) - 1) < wr p → ¬ wr n < 0 → ¬ 60 < wr n → (0 ≤ wr (12 + c) ∧ wr (12 + c) < 59))
    (o8 : ¬ wr c < 0 → ¬ wr ((m 74 6) - 1) < wr c → ¬ wr p < 0 → ¬ wr ((m 74 4) - 1) < wr p → ¬ wr n < 0 → ¬ 60 < wr n → (0 ≤ wr (20 + c) ∧ wr (20 + c) < 59))
    (o9 : ¬ wr c < 0 → ¬ wr ((m 74 6) - 1) < wr c → ¬ wr p < 0 → ¬ wr ((m 74 4) - 1) < wr p → ¬ wr n < 0 → ¬ 60 < wr n → T (D + 4) 253 (63, [(0, zr 74), (2, zi p), (3, zi n), (4, zi ((m 75 ((wr (12 + c)).toNat)) + (m 75 ((wr (20 + c)).toNat)))), (5, zi 0), (6, zi (-1)), (7, zi 0)], [], (zu m 74 12 0)) κ) :
    T (D + 4) 253 (0, [(0, zr 74), (1, zi c), (2, zi p), (3, zi n)], [], m) κ :=
  hT.1 [(63, [0, 2, 3, 4, 5, 6, 7])] 6 (D + 4) 253 _ κ (And.intro trivial (hT.1 [] 6 (D + 3) 191 _ _ (hT.1 [] 6 (D + 3) 191 (8, [(0, zr 74), (1, zi c)], [zi ((m 74 6) - 1), zi 0, zi c], (zu m 74 12 0)) _ (hT.1 [] 6 (D + 2) 186 _ _ (And.intro (fun a1 => (And.intro (z_b01L rfl) (hT.1 [] 6 (D + 3) 191 _ _ (And.intro (z_b01L rfl) (hT.1 [(63, [0, 2, 3, 4, 5, 6, 7])] 6 (D + 4) 253 _ _ (And.intro (fun _ => (o1 a1)) (fun a3 => (a3 (z_litT rfl)).elim))))))) (fun a2 => (And.intro (fun a4 => (hT.1 [] 6 (D + 2) 186 (14, [(0, zi c), (1, zi 0), (2, zi ((m 74 6) - 1))], [], (zu m 74 12 0)) _ (And.intro (z_b01L rfl) (hT.1 [] 6 (D + 3) 191 _ _ (And.intro (z_b01L rfl) (hT.1 [(63, [0, 2, 3, 4, 5, 6, 7])] 6 (D + 4) 253 _ _ (And.intro (fun _ => (o2 a2 a4)) (fun a6 => (a6 (z_litT rfl)).elim)))))))) (fun a5 => (hT.1 [] 6 (D + 2) 186 (10, [(0, zi c), (1, zi 0), (2, zi ((m 74 6) - 1))], [], (zu m 74 12 0)) _ (And.intro (z_b01L rfl) (hT.1 [] 6 (D + 3) 191 _ _ (And.intro (z_b01L rfl) (hT.1 [(63, [0, 2, 3, 4, 5, 6, 7])] 6 (D + 4) 253 _ _ (And.intro (fun a7 => (z_litF a7 rfl).elim) (fun _ => (hT.1 [] 6 (D + 3) 190 _ _ (hT.1 [] 6 (D + 3) 190 (8, [(0, zr 74), (1, zi p)], [zi ((m 74 4) - 1), zi 0, zi p], (zu m 74 12 0)) _ (hT.1 [] 6 (D + 2) 186 _ _ (And.intro (fun a8 => (And.intro (z_b01L rfl) (hT.1 [] 6 (D + 3) 190 _ _ (And.intro (z_b01L rfl) (hT.1 [(63, [0, 2, 3, 4, 5, 6, 7])] 6 (D + 4) 253 _ _ (And.intro (fun _ => (o3 a2 a5 a8)) (fun a10 => (a10 (z_litT rfl)).elim))))))) (fun a9 => (And.intro (fun a11 => (hT.1 [] 6 (D + 2) 186 (14, [(0, zi p), (1, zi 0), (2, zi ((m 74 4) - 1))], [], (zu m 74 12 0)) _ (And.intro (z_b01L rfl) (hT.1 [] 6 (D + 3) 190 _ _ (And.intro (z_b01L rfl) (hT.1 [(63, [0, 2, 3, 4, 5, 6, 7])] 6 (D + 4) 253 _ _ (And.intro (fun _ => (o4 a2 a5 a9 a11)) (fun a13 => (a13 (z_litT rfl)).elim)))))))) (fun a12 => (hT.1 [] 6 (D + 2) 186 (10, [(0, zi p), (1, zi 0), (2, zi ((m 74 4) - 1))], [], (zu m 74 12 0)) _ (And.intro (z_b01L rfl) (hT.1 [] 6 (D + 3) 190 _ _ (And.intro (z_b01L rfl) (hT.1 [(63, [0, 2, 3, 4, 5, 6, 7])] 6 (D + 4) 253 _ _ (And.intro (fun a14 => (z_litF a14 rfl).elim) (fun _ => (hT.1 [] 6 (D + 3) 186 _ _ (And.intro (fun a15 => (And.intro (z_b01L rfl) (hT.1 [(63, [0, 2, 3, 4, 5, 6, 7])] 6 (D + 4) 253 _ _ (And.intro (fun a17 => (z_litF a17 rfl).elim) (fun _ => (o5 a2 a5 a9 a12 a15)))))) (fun a16 => (And.intro (fun a18 => (hT.1 [] 6 (D + 3) 186 (14, [(0, zi n), (1, zi 0), (2, zi 60)], [], (zu m 74 12 0)) _ (And.intro (z_b01L rfl) (hT.1 [(63, [0, 2, 3, 4, 5, 6, 7])] 6 (D + 4) 253 _ _ (And.intro (fun a20 => (z_litF a20 rfl).elim) (fun _ => (o6 a2 a5 a9 a12 a16 a18))))))) (fun a19 => (hT.1 [] 6 (D + 3) 186 (10, [(0, zi n), (1, zi 0), (2, zi 60)], [], (zu m 74 12 0)) _ (And.intro (z_b01L rfl) (hT.1 [(63, [0, 2, 3, 4, 5, 6, 7])] 6 (D + 4) 253 _ _ (And.intro (fun _ => (hT.1 [(63, [0, 2, 3, 4, 5, 6, 7])] 6 (D + 4) 253 (41, [(0, zr 74), (1, zi c), (2, zi p), (3, zi n)], [zi (12 + c), zr 75], (zu m 74 12 0)) _ (And.intro (o7 a2 a5 a9 a12 a16 a19) (hT.1 [(63, [0, 2, 3, 4, 5, 6, 7])] 6 (D + 4) 253 (50, [(0, zr 74), (1, zi c), (2, zi p), (3, zi n)], [zi (20 + c), zr 75, zi (m 75 ((wr (12 + c)).toNat))], (zu m 74 12 0)) _ (And.intro (o8 a2 a5 a9 a12 a16 a19) (hT.1 [(63, [0, 2, 3, 4, 5, 6, 7])] 6 (D + 4) 253 (58, [(0, zr 74), (1, zi c), (2, zi p), (3, zi n), (4, zi ((m 75 ((wr (12 + c)).toNat)) + (m 75 ((wr (20 + c)).toNat)))), (5, zi 0)], [zi (-1)], (zu m 74 12 0)) _ (o9 a2 a5 a9 a12 a16 a19))))))) (fun a21 => (a21 (z_litT rfl)).elim)))))))))))))))))))))))))))))))))))))))
theorem zb253_0 (hT : zRules T) {D : Nat} {κ : Option zA → zM → Prop} {m : zM} {c : Int} {p : Int} {n : Int}  (hB : zB m) (h_c : (-2147483648) ≤ c ∧ c ≤ 2147483647) (h_p : (-2147483648) ≤ p ∧ p ≤ 2147483647) (h_n : (-2147483648) ≤ n ∧ n ≤ 2147483647) 
    (k1 : c < 0 → zB (zu m 74 12 0) → κ (some (zi (-1))) (zu m 74 12 0))
    (k2 : ¬ c < 0 → ((m 74 6) - 1) < c → zB (zu m 74 12 0) → κ (some (zi (-1))) (zu m 74 12 0))
    (k3 : ¬ c < 0 → ¬ ((m 74 6) - 1) < c → p < 0 → zB (zu m 74 12 0) → κ (some (zi (-1))) (zu m 74 12 0))
    (k4 : ¬ c < 0 → ¬ ((m 74 6) - 1) < c → ¬ p < 0 → ((m 74 4) - 1) < p → zB (zu m 74 12 0) → κ (some (zi (-1))) (zu m 74 12 0))
    (k5 : ¬ c < 0 → ¬ ((m 74 6) - 1) < c → ¬ p < 0 → ¬ ((m 74 4) - 1) < p → n < 0 → zB (zu m 74 12 0) → κ (some (zi (-1))) (zu m 74 12 0))
    (k6 : ¬ c < 0 → ¬ ((m 74 6) - 1) < c → ¬ p < 0 → ¬ ((m 74 4) - 1) < p → ¬ n < 0 → 60 < n → zB (zu m 74 12 0) → κ (some (zi (-1))) (zu m 74 12 0))
    (k7 : ¬ c < 0 → ¬ ((m 74 6) - 1) < c → ¬ p < 0 → ¬ ((m 74 4) - 1) < p → ¬ n < 0 → ¬ 60 < n → (0 ≤ wr (12 + c) ∧ wr (12 + c) < 59))
    (k8 : ¬ c < 0 → ¬ ((m 74 6) - 1) < c → ¬ p < 0 → ¬ ((m 74 4) - 1) < p → ¬ n < 0 → ¬ 60 < n → (0 ≤ wr (20 + c) ∧ wr (20 + c) < 59))
    (k9 : ¬ c < 0 → ¬ ((m 74 6) - 1) < c → ¬ p < 0 → ¬ ((m 74 4) - 1) < p → ¬ n < 0 → ¬ 60 < n → zB (zu m 74 12 0) → T (D + 4) 253 (63, [(0, zr 74), (2, zi p), (3, zi n), (4, zi ((m 75 ((wr (12 + c)).toNat)) + (m 75 ((wr (20 + c)).toNat)))), (5, zi 0), (6, zi (-1)), (7, zi 0)], [], (zu m 74 12 0)) κ) :
    T (D + 4) 253 (0, [(0, zr 74), (1, zi c), (2, zi p), (3, zi n)], [], m) κ := by
  have hb3 : 0 ≤ (m 74 6) ∧ (m 74 6) ≤ 8 := hB 74 6
  have hb4 : 0 ≤ (m 74 4) ∧ (m 74 4) ≤ 6 := hB 74 4
  have hb5 : (-2147483648) ≤ wr (12 + c) ∧ wr (12 + c) ≤ 2147483647 := wrB (12 + c)
  have hb6 : (-2147483648) ≤ wr (20 + c) ∧ wr (20 + c) ≤ 2147483647 := wrB (20 + c)
  have he0 : wr c = c := wr_id (by omega) (by omega)
  have he1 : wr ((m 74 6) - 1) = ((m 74 6) - 1) := wr_id (by omega) (by omega)
  have he2 : wr p = p := wr_id (by omega) (by omega)
  have he3 : wr ((m 74 4) - 1) = ((m 74 4) - 1) := wr_id (by omega) (by omega)
  have he4 : wr n = n := wr_id (by omega) (by omega)
  have key := @zb253_0r T hT D κ m c p n
  simp only [he0, he1, he2, he3, he4, Int.toNat_natCast] at key
  exact key
    (fun x0 => k1 x0 (zB_u hB trivial))
    (fun x0 x1 => k2 x0 x1 (zB_u hB trivial))
    (fun x0 x1 x2 => k3 x0 x1 x2 (zB_u hB trivial))
    (fun x0 x1 x2 x3 => k4 x0 x1 x2 x3 (zB_u hB trivial))
    (fun x0 x1 x2 x3 x4 => k5 x0 x1 x2 x3 x4 (zB_u hB trivial))
    (fun x0 x1 x2 x3 x4 x5 => k6 x0 x1 x2 x3 x4 x5 (zB_u hB trivial))
    k7
    k8
    (fun x0 x1 x2 x3 x4 x5 => k9 x0 x1 x2 x3 x4 x5 (zB_u hB trivial))
theorem zb253_0nr (hT : zRules T) {D : Nat} {κ : Option zA → zM → Prop} {m : zM} {c : Nat} {p : Nat} {n : Nat} 
    (o1 : wr (c : Int) < 0 → False)
    (o2 : ¬ wr (c : Int) < 0 → wr ((m 74 6) - 1) < wr (c : Int) → κ (some (zi (-1))) (zu m 74 12 0))
    (o3 : ¬ wr (c : Int) < 0 → ¬ wr ((m 74 6) - 1) < wr (c : Int) → wr (p : Int) < 0 → False)
    (o4 : ¬ wr (c : Int) < 0 → ¬ wr ((m 74 6) - 1) < wr (c : Int) → ¬ wr (p : Int) < 0 → wr ((m 74 4) - 1) < wr (p : Int) → κ (some (zi (-1))) (zu m 74 12 0))
    (o5 : ¬ wr (c : Int) < 0 → ¬ wr ((m 74 6) - 1) < wr (c : Int) → ¬ wr (p : Int) < 0 → ¬ wr ((m 74 4) - 1) < wr (p : Int) → wr (n : Int) < 0 → False)
    (o6 : ¬ wr (c : Int) < 0 → ¬ wr ((m 74 6) - 1) < wr (c : Int) → ¬ wr (p : Int) < 0 → ¬ wr ((m 74 4) - 1) < wr (p : Int) → ¬ wr (n : Int) < 0 → 60 < wr (n : Int) → False)
    (o7 : ¬ wr (c : Int) < 0 → ¬ wr ((m 74 6) - 1) < wr (c : Int) → ¬ wr (p : Int) < 0 → ¬ wr ((m 74 4) - 1) < wr (p : Int) → ¬ wr (n : Int) < 0 → ¬ 60 < wr (n : Int) → (0 ≤ wr (12 + (c : Int)) ∧ wr (12 + (c : Int)) < 59))
    (o8 : ¬ wr (c : Int) < 0 → ¬ wr ((m 74 6) - 1) < wr (c : Int) → ¬ wr (p : Int) < 0 → ¬ wr ((m 74 4) - 1) < wr (p : Int) → ¬ wr (n : Int) < 0 → ¬ 60 < wr (n : Int) → (0 ≤ wr (20 + (c : Int)) ∧ wr (20 + (c : Int)) < 59))
    (o9 : ¬ wr (c : Int) < 0 → ¬ wr ((m 74 6) - 1) < wr (c : Int) → ¬ wr (p : Int) < 0 → ¬ wr ((m 74 4) - 1) < wr (p : Int) → ¬ wr (n : Int) < 0 → ¬ 60 < wr (n : Int) → T (D + 4) 253 (63, [(0, zr 74), (2, zi (p : Int)), (3, zi (n : Int)), (4, zi ((m 75 ((wr (12 + (c : Int))).toNat)) + (m 75 ((wr (20 + (c : Int))).toNat)))), (5, zi 0), (6, zi (-1)), (7, zi 0)], [], (zu m 74 12 0)) κ) :
    T (D + 4) 253 (0, [(0, zr 74), (1, zi (c : Int)), (2, zi (p : Int)), (3, zi (n : Int))], [], m) κ :=
  hT.1 [(63, [0, 2, 3, 4, 5, 6, 7])] 6 (D + 4) 253 _ κ (And.intro trivial (hT.1 [] 6 (D + 3) 191 _ _ (hT.1 [] 6 (D + 3) 191 (8, [(0, zr 74), (1, zi (c : Int))], [zi ((m 74 6) - 1), zi 0, zi (c : Int)], (zu m 74 12 0)) _ (hT.1 [] 6 (D + 2) 186 _ _ (And.intro (fun a1 => (o1 a1).elim) (fun a2 => (And.intro (fun a3 => (hT.1 [] 6 (D + 2) 186 (14, [(0, zi (c : Int)), (1, zi 0), (2, zi ((m 74 6) - 1))], [], (zu m 74 12 0)) _ (And.intro (z_b01L rfl) (hT.1 [] 6 (D + 3) 191 _ _ (And.intro (z_b01L rfl) (hT.1 [(63, [0, 2, 3, 4, 5, 6, 7])] 6 (D + 4) 253 _ _ (And.intro (fun _ => (o2 a2 a3)) (fun a5 => (a5 (z_litT rfl)).elim)))))))) (fun a4 => (hT.1 [] 6 (D + 2) 186 (10, [(0, zi (c : Int)), (1, zi 0), (2, zi ((m 74 6) - 1))], [], (zu m 74 12 0)) _ (And.intro (z_b01L rfl) (hT.1 [] 6 (D + 3) 191 _ _ (And.intro (z_b01L rfl) (hT.1 [(63, [0, 2, 3, 4, 5, 6, 7])] 6 (D + 4) 253 _ _ (And.intro (fun a6 => (z_litF a6 rfl).elim) (fun _ => (hT.1 [] 6 (D + 3) 190 _ _ (hT.1 [] 6 (D + 3) 190 (8, [(0, zr 74), (1, zi (p : Int))], [zi ((m 74 4) - 1), zi 0, zi (p : Int)], (zu m 74 12 0)) _ (hT.1 [] 6 (D + 2) 186 _ _ (And.intro (fun a7 => (o3 a2 a4 a7).elim) (fun a8 => (And.intro (fun a9 => (hT.1 [] 6 (D + 2) 186 (14, [(0, zi (p : Int)), (1, zi 0), (2, zi ((m 74 4) - 1))], [], (zu m 74 12 0)) _ (And.intro (z_b01L rfl) (hT.1 [] 6 (D + 3) 190 _ _ (And.intro (z_b01L rfl) (hT.1 [(63, [0, 2, 3, 4, 5, 6, 7])] 6 (D + 4) 253 _ _ (And.intro (fun _ => (o4 a2 a4 a8 a9)) (fun a11 => (a11 (z_litT rfl)).elim)))))))) (fun a10 => (hT.1 [] 6 (D + 2) 186 (10, [(0, zi (p : Int)), (1, zi 0), (2, zi ((m 74 4) - 1))], [], (zu m 74 12 0)) _ (And.intro (z_b01L rfl) (hT.1 [] 6 (D + 3) 190 _ _ (And.intro (z_b01L rfl) (hT.1 [(63, [0, 2, 3, 4, 5, 6, 7])] 6 (D + 4) 253 _ _ (And.intro (fun a12 => (z_litF a12 rfl).elim) (fun _ => (hT.1 [] 6 (D + 3) 186 _ _ (And.intro (fun a13 => (o5 a2 a4 a8 a10 a13).elim) (fun a14 => (And.intro (fun a15 => (o6 a2 a4 a8 a10 a14 a15).elim) (fun a16 => (hT.1 [] 6 (D + 3) 186 (10, [(0, zi (n : Int)), (1, zi 0), (2, zi 60)], [], (zu m 74 12 0)) _ (And.intro (z_b01L rfl) (hT.1 [(63, [0, 2, 3, 4, 5, 6, 7])] 6 (D + 4) 253 _ _ (And.intro (fun _ => (hT.1 [(63, [0, 2, 3, 4, 5, 6, 7])] 6 (D + 4) 253 (41, [(0, zr 74), (1, zi (c : Int)), (2, zi (p : Int)), (3, zi (n : Int))], [zi (12 + (c : Int)), zr 75], (zu m 74 12 0)) _ (And.intro (o7 a2 a4 a8 a10 a14 a16) (hT.1 [(63, [0, 2, 3, 4, 5, 6, 7])] 6 (D + 4) 253 (50, [(0, zr 74), (1, zi (c : Int)), (2, zi (p : Int)), (3, zi (n : Int))], [zi (20 + (c : Int)), zr 75, zi (m 75 ((wr (12 + (c : Int))).toNat))], (zu m 74 12 0)) _ (And.intro (o8 a2 a4 a8 a10 a14 a16) (hT.1 [(63, [0, 2, 3, 4, 5, 6, 7])] 6 (D + 4) 253 (58, [(0, zr 74), (1, zi (c : Int)), (2, zi (p : Int)), (3, zi (n : Int)), (4, zi ((m 75 ((wr (12 + (c : Int))).toNat)) + (m 75 ((wr (20 + (c : Int))).toNat)))), (5, zi 0)], [zi (-1)], (zu m 74 12 0)) _ (o9 a2 a4 a8 a10 a14 a16))))))) (fun a17 => (a17 (z_litT rfl)).elim)))))))))))))))))))))))))))))))))))))))
theorem zb253_0n (hT : zRules T) {D : Nat} {κ : Option zA → zM → Prop} {m : zM} {c : Nat} {p : Nat} {n : Nat}  (hB : zB m) (h_c : c ≤ 7) (h_p : p ≤ 5) (h_n : n ≤ 60) 
    (k1 : ((m 74 6) - 1) < (c : Int) → zB (zu m 74 12 0) → κ (some (zi (-1))) (zu m 74 12 0))
    (k2 : ¬ ((m 74 6) - 1) < (c : Int) → ((m 74 4) - 1) < (p : Int) → zB (zu m 74 12 0) → κ (some (zi (-1))) (zu m 74 12 0))
    (k3 : ¬ ((m 74 6) - 1) < (c : Int) → ¬ ((m 74 4) - 1) < (p : Int) → zB (zu m 74 12 0) → T (D + 4) 253 (63, [(0, zr 74), (2, zi (p : Int)), (3, zi (n : Int)), (4, zi ((m 75 (c + 12)) + (m 75 (c + 20)))), (5, zi 0), (6, zi (-1)), (7, zi 0)], [], (zu m 74 12 0)) κ) :
    T (D + 4) 253 (0, [(0, zr 74), (1, zi (c : Int)), (2, zi (p : Int)), (3, zi (n : Int))], [], m) κ := by
  have hb3 : 0 ≤ (m 74 6) ∧ (m 74 6) ≤ 8 := hB 74 6
  have hb4 : 0 ≤ (m 74 4) ∧ (m 74 4) ≤ 6 := hB 74 4
  have hb5 : (-1) ≤ (m 75 (c + 12)) ∧ (m 75 (c + 12)) ≤ 99 := zSg hB 75 12 20 (-1) 99 rfl (c + 12) (by omega) (by omega)
  have hb6 : (-1) ≤ (m 75 (c + 20)) ∧ (m 75 (c + 20)) ≤ 9 := zSg hB 75 20 28 (-1) 9 rfl (c + 20) (by omega) (by omega)
  have he0 : wr (c : Int) = (c : Int) := wr_id (by omega) (by omega)
  have he1 : wr ((m 74 6) - 1) = ((m 74 6) - 1) := wr_id (by omega) (by omega)
  have he2 : wr (p : Int) = (p : Int) := wr_id (by omega) (by omega)
  have he3 : wr ((m 74 4) - 1) = ((m 74 4) - 1) := wr_id (by omega) (by omega)
  have he4 : wr (n : Int) = (n : Int) := wr_id (by omega) (by omega)
  have he5 : wr (12 + (c : Int)) = (12 + (c : Int)) := wr_id (by omega) (by omega)
  have he6 : (12 + (c : Int)).toNat = c + 12 := by omega
  have he7 : wr (20 + (c : Int)) = (20 + (c : Int)) := wr_id (by omega) (by omega)
  have he8 : (20 + (c : Int)).toNat = c + 20 := by omega
  have key := @zb253_0nr T hT D κ m c p n
  simp only [he0, he1, he2, he3, he4, he5, he6, he7, he8, Int.toNat_natCast] at key
  exact key
    (fun x0 => by omega)
    (fun x0 x1 => k1 x1 (zB_u hB trivial))
    (fun x0 x1 x2 => by omega)
    (fun x0 x1 x2 x3 => k2 x1 x3 (zB_u hB trivial))
    (fun x0 x1 x2 x3 x4 => by omega)
    (fun x0 x1 x2 x3 x4 x5 => by omega)
    (fun x0 x1 x2 x3 x4 x5 => by refine ⟨?_, ?_⟩ <;> omega)
    (fun x0 x1 x2 x3 x4 x5 => by refine ⟨?_, ?_⟩ <;> omega)
    (fun x0 x1 x2 x3 x4 x5 => k3 x1 x3 (zB_u hB trivial))
theorem zb253_63r (hT : zRules T) {D : Nat} {κ : Option zA → zM → Prop} {m : zM} {p : Nat} {n : Nat} {l : Int} {s : Nat} {f : Int} {k : Nat} {lo : zL} (hlo : z_keep [0, 2, 3, 4, 5, 6, 7] lo = [(0, zr 74), (2, zi (p : Int)), (3, zi (n : Int)), (4, zi l), (5, zi (s : Int)), (6, zi f), (7, zi (k : Int))]) 
    (o1 : ¬ wr (k : Int) < wr (n : Int) → κ (some (zi (wr (s : Int)))) (zu (zu (zu m 74 11 0) 81 0 f) 74 11 1))
    (o2 : wr (k : Int) < wr (n : Int) → T (D + 3) 216 (0, [(0, zr 74), (1, zi (p : Int)), (2, zi (k : Int))], [], m) (fun r m1 => T (D + 4) 253 (76, [(0, zr 74), (2, zi (p : Int)), (3, zi (n : Int)), (4, zi l), (5, zi (s : Int)), (6, zi f), (7, zi (k : Int))], r.toList ++ [], m1) κ)) :
    T (D + 4) 253 (63, lo, [], m) κ :=
  zkeep hT hlo (hT.1 [(63, [0, 2, 3, 4, 5, 6, 7])] 6 (D + 4) 253 _ κ (And.intro (fun a1 => (And.intro trivial (hT.1 [(63, [0, 2, 3, 4, 5, 6, 7])] 6 (D + 4) 253 (129, [(0, zr 74), (2, zi (p : Int)), (3, zi (n : Int)), (4, zi l), (5, zi (s : Int)), (6, zi f), (7, zi (k : Int))], [], (zu m 74 11 0)) _ (hT.1 [] 6 (D + 3) 189 _ _ (And.intro (And.intro (z_ixL rfl) trivial) (hT.1 [] 6 (D + 3) 189 (10, [(0, zr 74), (1, zi f)], [], (zu (zu m 74 11 0) 81 0 f)) _ (And.intro trivial (hT.1 [] 6 (D + 3) 189 (20, [(0, zr 74), (1, zi f)], [], (zu (zu (zu m 74 11 0) 81 0 f) 74 11 1)) _ (hT.1 [(63, [0, 2, 3, 4, 5, 6, 7])] 6 (D + 4) 253 _ _ (o1 a1)))))))))) (fun a2 => (hT.1 [(63, [0, 2, 3, 4, 5, 6, 7])] 6 (D + 4) 253 (73, [(0, zr 74), (2, zi (p : Int)), (3, zi (n : Int)), (4, zi l), (5, zi (s : Int)), (6, zi f), (7, zi (k : Int))], [zi (k : Int), zi (p : Int), zr 74], m) _ (o2 (Classical.byContradiction a2))))))
theorem zb253_63 (hT : zRules T) {D : Nat} {κ : Option zA → zM → Prop} {m : zM} {p : Nat} {n : Nat} {l : Int} {s : Nat} {f : Int} {k : Nat} {lo : zL} (hlo : z_keep [0, 2, 3, 4, 5, 6, 7] lo = [(0, zr 74), (2, zi (p : Int)), (3, zi (n : Int)), (4, zi l), (5, zi (s : Int)), (6, zi f), (7, zi (k : Int))])  (hB : zB m) (h_p : p ≤ 5) (h_n : n ≤ 60) (h_l : (-2) ≤ l ∧ l ≤ 108) (h_s : s ≤ 60) (h_f : (-1) ≤ f ∧ f ≤ 60) (h_k : k ≤ 60) 
    (k1 : ¬ (k : Int) < (n : Int) → zB (zu (zu (zu m 74 11 0) 81 0 f) 74 11 1) → κ (some (zi (s : Int))) (zu (zu (zu m 74 11 0) 81 0 f) 74 11 1))
    (k2 : (k : Int) < (n : Int) → T (D + 3) 216 (0, [(0, zr 74), (1, zi (p : Int)), (2, zi (k : Int))], [], m) (fun r m1 => T (D + 4) 253 (76, [(0, zr 74), (2, zi (p : Int)), (3, zi (n : Int)), (4, zi l), (5, zi (s : Int)), (6, zi f), (7, zi (k : Int))], r.toList ++ [], m1) κ)) :
    T (D + 4) 253 (63, lo, [], m) κ := by
  have he0 : wr (k : Int) = (k : Int) := wr_id (by omega) (by omega)
  have he1 : wr (n : Int) = (n : Int) := wr_id (by omega) (by omega)
  have he2 : wr (s : Int) = (s : Int) := wr_id (by omega) (by omega)
  have key := @zb253_63r T hT D κ m p n l s f k lo hlo
  simp only [he0, he1, he2, Int.toNat_natCast] at key
  exact key
    (fun x0 => k1 x0 (zB_u (zB_u (zB_u hB (show 0 ≤ 0 ∧ 0 ≤ 32 from ⟨by omega, by omega⟩)) trivial) (show 0 ≤ 1 ∧ 1 ≤ 32 from ⟨by omega, by omega⟩)))
    k2
theorem zb253_76r (hT : zRules T) {D : Nat} {κ : Option zA → zM → Prop} {m : zM} {p : Nat} {n : Nat} {l : Int} {s : Nat} {f : Int} {k : Nat} {v : Int} {lo : zL} (hlo : z_keep [0, 2, 3, 4, 5, 6, 7] lo = [(0, zr 74), (2, zi (p : Int)), (3, zi (n : Int)), (4, zi l), (5, zi (s : Int)), (6, zi f), (7, zi (k : Int))]) 
    (o1 : wr l < wr v → ¬ wr f = (-1) → T (D + 4) 253 (63, [(0, zr 74), (2, zi (p : Int)), (3, zi (n : Int)), (4, zi l), (5, zi ((s : Int) + 0)), (6, zi f), (7, zi ((k : Int) + 1))], [], m) κ)
    (o2 : wr l < wr v → wr f = (-1) → T (D + 4) 253 (63, [(0, zr 74), (2, zi (p : Int)), (3, zi (n : Int)), (4, zi l), (5, zi ((s : Int) + 0)), (6, zi (k : Int)), (7, zi ((k : Int) + 1))], [], m) κ)
    (o3 : ¬ wr l < wr v → wr (v + (m 79 0)) < wr l → ¬ wr f = (-1) → T (D + 4) 253 (63, [(0, zr 74), (2, zi (p : Int)), (3, zi (n : Int)), (4, zi l), (5, zi ((s : Int) + 0)), (6, zi f), (7, zi ((k : Int) + 1))], [], m) κ)
    (o4 : ¬ wr l < wr v → wr (v + (m 79 0)) < wr l → wr f = (-1) → T (D + 4) 253 (63, [(0, zr 74), (2, zi (p : Int)), (3, zi (n : Int)), (4, zi l), (5, zi ((s : Int) + 0)), (6, zi (k : Int)), (7, zi ((k : Int) + 1))], [], m) κ)
    (o5 : ¬ wr l < wr v → ¬ wr (v + (m 79 0)) < wr l → T (D + 4) 253 (63, [(0, zr 74), (2, zi (p : Int)), (3, zi (n : Int)), (4, zi l), (5, zi ((s : Int) + 1)), (6, zi f), (7, zi ((k : Int) + 1))], [], m) κ) :
    T (D + 4) 253 (76, lo, [zi v], m) κ :=
  zkeep hT hlo (hT.1 [(63, [0, 2, 3, 4, 5, 6, 7])] 6 (D + 4) 253 _ κ (hT.1 [] 6 (D + 3) 252 _ _ (hT.1 [] 6 (D + 3) 252 (8, [(0, zr 74), (1, zi l), (2, zi v)], [zi 0, zr 79, zi v, zi v, zi l], m) _ (And.intro (z_ixL rfl) (hT.1 [] 6 (D + 2) 186 _ _ (And.intro (fun a1 => (And.intro (z_b01L rfl) (hT.1 [] 6 (D + 3) 252 _ _ (And.intro (z_b01L rfl) (hT.1 [(63, [0, 2, 3, 4, 5, 6, 7])] 6 (D + 4) 253 _ _ (And.intro (fun _ => (hT.1 [(63, [0, 2, 3, 4, 5, 6, 7])] 6 (D + 4) 253 (101, [(0, zr 74), (2, zi (p : Int)), (3, zi (n : Int)), (4, zi l), (5, zi (s : Int)), (6, zi f), (7, zi (k : Int)), (8, zi v), (9, zi 0)], [zi ((s : Int) + 0)], m) _ (And.intro (fun a4 => (z_litF a4 rfl).elim) (fun _ => (And.intro (fun a5 => (hT.1 [(63, [0, 2, 3, 4, 5, 6, 7])] 6 (D + 4) 253 (118, [(0, zr 74), (2, zi (p : Int)), (3, zi (n : Int)), (4, zi l), (5, zi ((s : Int) + 0)), (6, zi f), (7, zi (k : Int)), (8, zi v), (9, zi 0)], [], m) _ (o1 a1 a5))) (fun a6 => (hT.1 [(63, [0, 2, 3, 4, 5, 6, 7])] 6 (D + 4) 253 (114, [(0, zr 74), (2, zi (p : Int)), (3, zi (n : Int)), (4, zi l), (5, zi ((s : Int) + 0)), (6, zi f), (7, zi (k : Int)), (8, zi v), (9, zi 0)], [], m) _ (o2 a1 (Classical.byContradiction a6))))))))) (fun a3 => (a3 (z_litT rfl)).elim))))))) (fun a2 => (And.intro (fun a7 => (hT.1 [] 6 (D + 2) 186 (14, [(0, zi l), (1, zi v), (2, zi (v + (m 79 0)))], [], m) _ (And.intro (z_b01L rfl) (hT.1 [] 6 (D + 3) 252 _ _ (And.intro (z_b01L rfl) (hT.1 [(63, [0, 2, 3, 4, 5, 6, 7])] 6 (D + 4) 253 _ _ (And.intro (fun _ => (hT.1 [(63, [0, 2, 3, 4, 5, 6, 7])] 6 (D + 4) 253 (101, [(0, zr 74), (2, zi (p : Int)), (3, zi (n : Int)), (4, zi l), (5, zi (s : Int)), (6, zi f), (7, zi (k : Int)), (8, zi v), (9, zi 0)], [zi ((s : Int) + 0)], m) _ (And.intro (fun a10 => (z_litF a10 rfl).elim) (fun _ => (And.intro (fun a11 => (hT.1 [(63, [0, 2, 3, 4, 5, 6, 7])] 6 (D + 4) 253 (118, [(0, zr 74), (2, zi (p : Int)), (3, zi (n : Int)), (4, zi l), (5, zi ((s : Int) + 0)), (6, zi f), (7, zi (k : Int)), (8, zi v), (9, zi 0)], [], m) _ (o3 a2 a7 a11))) (fun a12 => (hT.1 [(63, [0, 2, 3, 4, 5, 6, 7])] 6 (D + 4) 253 (114, [(0, zr 74), (2, zi (p : Int)), (3, zi (n : Int)), (4, zi l), (5, zi ((s : Int) + 0)), (6, zi f), (7, zi (k : Int)), (8, zi v), (9, zi 0)], [], m) _ (o4 a2 a7 (Classical.byContradiction a12))))))))) (fun a9 => (a9 (z_litT rfl)).elim)))))))) (fun a8 => (hT.1 [] 6 (D + 2) 186 (10, [(0, zi l), (1, zi v), (2, zi (v + (m 79 0)))], [], m) _ (And.intro (z_b01L rfl) (hT.1 [] 6 (D + 3) 252 _ _ (And.intro (z_b01L rfl) (hT.1 [(63, [0, 2, 3, 4, 5, 6, 7])] 6 (D + 4) 253 _ _ (And.intro (fun a13 => (z_litF a13 rfl).elim) (fun _ => (hT.1 [(63, [0, 2, 3, 4, 5, 6, 7])] 6 (D + 4) 253 (100, [(0, zr 74), (2, zi (p : Int)), (3, zi (n : Int)), (4, zi l), (5, zi (s : Int)), (6, zi f), (7, zi (k : Int)), (8, zi v), (9, zi 1)], [zi 1, zi (s : Int)], m) _ (And.intro (fun _ => (o5 a2 a8)) (fun a14 => (a14 (z_litT rfl)).elim)))))))))))))))))))
theorem zb253_76 (hT : zRules T) {D : Nat} {κ : Option zA → zM → Prop} {m : zM} {p : Nat} {n : Nat} {l : Int} {s : Nat} {f : Int} {k : Nat} {v : Int} {lo : zL} (hlo : z_keep [0, 2, 3, 4, 5, 6, 7] lo = [(0, zr 74), (2, zi (p : Int)), (3, zi (n : Int)), (4, zi l), (5, zi (s : Int)), (6, zi f), (7, zi (k : Int))])  (hB : zB m) (h_p : p ≤ 5) (h_n : n ≤ 60) (h_l : (-2) ≤ l ∧ l ≤ 108) (h_s : s ≤ 60) (h_f : (-1) ≤ f ∧ f ≤ 60) (h_k : k ≤ 60) (h_v : 0 ≤ v ∧ v ≤ 99) 
    (k1 : l < v → ¬ f = (-1) → T (D + 4) 253 (63, [(0, zr 74), (2, zi (p : Int)), (3, zi (n : Int)), (4, zi l), (5, zi ((s : Int) + 0)), (6, zi f), (7, zi ((k : Int) + 1))], [], m) κ)
    (k2 : l < v → f = (-1) → T (D + 4) 253 (63, [(0, zr 74), (2, zi (p : Int)), (3, zi (n : Int)), (4, zi l), (5, zi ((s : Int) + 0)), (6, zi (k : Int)), (7, zi ((k : Int) + 1))], [], m) κ)
    (k3 : ¬ l < v → (v + (m 79 0)) < l → ¬ f = (-1) → T (D + 4) 253 (63, [(0, zr 74), (2, zi (p : Int)), (3, zi (n : Int)), (4, zi l), (5, zi ((s : Int) + 0)), (6, zi f), (7, zi ((k : Int) + 1))], [], m) κ)
    (k4 : ¬ l < v → (v + (m 79 0)) < l → f = (-1) → T (D + 4) 253 (63, [(0, zr 74), (2, zi (p : Int)), (3, zi (n : Int)), (4, zi l), (5, zi ((s : Int) + 0)), (6, zi (k : Int)), (7, zi ((k : Int) + 1))], [], m) κ)
    (k5 : ¬ l < v → ¬ (v + (m 79 0)) < l → T (D + 4) 253 (63, [(0, zr 74), (2, zi (p : Int)), (3, zi (n : Int)), (4, zi l), (5, zi ((s : Int) + 1)), (6, zi f), (7, zi ((k : Int) + 1))], [], m) κ) :
    T (D + 4) 253 (76, lo, [zi v], m) κ := by
  have hb7 : 0 ≤ (m 79 0) ∧ (m 79 0) ≤ 9 := hB 79 0
  have he0 : wr l = l := wr_id (by omega) (by omega)
  have he1 : wr v = v := wr_id (by omega) (by omega)
  have he2 : wr f = f := wr_id (by omega) (by omega)
  have he3 : wr (v + (m 79 0)) = (v + (m 79 0)) := wr_id (by omega) (by omega)
  have key := @zb253_76r T hT D κ m p n l s f k v lo hlo
  simp only [he0, he1, he2, he3, Int.toNat_natCast] at key
  exact key
    k1
    k2
    k3
    k4
    k5
theorem zb138_0r (hT : zRules T) {D : Nat} {κ : Option zA → zM → Prop} {m : zM} {p : Int} {n : Int} 
    (o1 : wr p < 0 → κ (some (zi (-1))) m)
    (o2 : ¬ wr p < 0 → ¬ wr p < wr (m 17 0) → κ (some (zi (-1))) m)
    (o3 : ¬ wr p < 0 → wr p < wr (m 17 0) → wr n < 1 → κ (some (zi (-1))) m)
    (o4 : ¬ wr p < 0 → wr p < wr (m 17 0) → ¬ wr n < 1 → ¬ 60 < wr n → (0 ≤ wr p ∧ wr p < 6))
    (o5 : ¬ wr p < 0 → wr p < wr (m 17 0) → ¬ wr n < 1 → ¬ 60 < wr n → T (D + 5) 180 (0, [(0, zr 1), (1, zi p), (2, zi (m 19 ((wr p).toNat))), (3, zi n)], [], m) (fun r m1 => T (D + 6) 138 (39, [(0, zr 1), (1, zi p), (2, zi n)], r.toList ++ [], m1) κ))
    (o6 : ¬ wr p < 0 → wr p < wr (m 17 0) → ¬ wr n < 1 → 60 < wr n → κ (some (zi (-1))) m) :
    T (D + 6) 138 (0, [(0, zr 1), (1, zi p), (2, zi n)], [], m) κ :=
  hT.1 [] 6 (D + 6) 138 _ κ (hT.1 [] 6 (D + 5) 25 _ _ (And.intro (fun a1 => (And.intro (z_b01L rfl) (hT.1 [] 6 (D + 6) 138 _ _ (And.intro (fun _ => (o1 a1)) (fun a3 => (a3 (z_litT rfl)).elim))))) (fun a2 => (And.intro (fun a4 => (hT.1 [] 6 (D + 5) 25 (16, [(0, zr 17), (1, zi p)], [], m) _ (And.intro (z_b01L rfl) (hT.1 [] 6 (D + 6) 138 _ _ (And.intro (fun _ => (o2 a2 a4)) (fun a6 => (a6 (z_litT rfl)).elim)))))) (fun a5 => (hT.1 [] 6 (D + 5) 25 (12, [(0, zr 17), (1, zi p)], [], m) _ (And.intro (z_b01L rfl) (hT.1 [] 6 (D + 6) 138 _ _ (And.intro (fun a7 => (z_litF a7 rfl).elim) (fun _ => (And.intro (fun a8 => (o3 a2 (Classical.byContradiction a5) a8)) (fun a9 => (hT.1 [] 6 (D + 6) 138 (19, [(0, zr 1), (1, zi p), (2, zi n)], [zi 60, zi n], m) _ (And.intro (fun a10 => (hT.1 [] 6 (D + 6) 138 (33, [(0, zr 1), (1, zi p), (2, zi n)], [zr 19, zi p, zr 1], m) _ (And.intro (o4 a2 (Classical.byContradiction a5) a9 a10) (o5 a2 (Classical.byContradiction a5) a9 a10)))) (fun a11 => (o6 a2 (Classical.byContradiction a5) a9 (Classical.byContradiction a11)))))))))))))))))
theorem zb138_0 (hT : zRules T) {D : Nat} {κ : Option zA → zM → Prop} {m : zM} {p : Int} {n : Int}  (hB : zB m) (h_p : (-2147483648) ≤ p ∧ p ≤ 2147483647) (h_n : (-2147483648) ≤ n ∧ n ≤ 2147483647) 
    (k1 : p < 0 → κ (some (zi (-1))) m)
    (k2 : ¬ p < 0 → ¬ p < (m 17 0) → κ (some (zi (-1))) m)
    (k3 : ¬ p < 0 → p < (m 17 0) → n < 1 → κ (some (zi (-1))) m)
    (k4 : ¬ p < 0 → p < (m 17 0) → ¬ n < 1 → ¬ 60 < n → T (D + 5) 180 (0, [(0, zr 1), (1, zi p), (2, zi (m 19 (p.toNat))), (3, zi n)], [], m) (fun r m1 => T (D + 6) 138 (39, [(0, zr 1), (1, zi p), (2, zi n)], r.toList ++ [], m1) κ))
    (k5 : ¬ p < 0 → p < (m 17 0) → ¬ n < 1 → 60 < n → κ (some (zi (-1))) m) :
    T (D + 6) 138 (0, [(0, zr 1), (1, zi p), (2, zi n)], [], m) κ := by
  have hb2 : 0 ≤ (m 17 0) ∧ (m 17 0) ≤ 6 := hB 17 0
  have hb3 : (-1) ≤ (m 19 (p.toNat)) ∧ (m 19 (p.toNat)) ≤ 3 := hB 19 (p.toNat)
  have he0 : wr p = p := wr_id (by omega) (by omega)
  have he1 : wr (m 17 0) = (m 17 0) := wr_id (by omega) (by omega)
  have he2 : wr n = n := wr_id (by omega) (by omega)
  have key := @zb138_0r T hT D κ m p n
  simp only [he0, he1, he2, Int.toNat_natCast] at key
  exact key
    k1
    k2
    k3
    (fun x0 x1 x2 x3 => by refine ⟨?_, ?_⟩ <;> omega)
    k4
    k5
theorem zb138_39r (hT : zRules T) {D : Nat} {κ : Option zA → zM → Prop} {m : zM} {lo : zL} (hlo : z_keep [0] lo = [(0, zr 1)]) 
    (o1 : T (D + 5) 78 (0, [(0, zr 52), (1, zi (wr (m 24 0)))], [], m) (fun r m1 => T (D + 6) 138 (53, [(0, zr 1)], r.toList ++ [], m1) κ)) :
    T (D + 6) 138 (39, lo, [], m) κ :=
  zkeep hT hlo (hT.1 [] 6 (D + 6) 138 _ κ (hT.1 [] 6 (D + 5) 27 _ _ (And.intro (z_ixL rfl) (hT.1 [] 6 (D + 6) 138 _ _ (o1)))))
theorem zb138_39 (hT : zRules T) {D : Nat} {κ : Option zA → zM → Prop} {m : zM} {lo : zL} (hlo : z_keep [0] lo = [(0, zr 1)])  (hB : zB m) 
    (k1 : T (D + 5) 78 (0, [(0, zr 52), (1, zi (m 24 0))], [], m) (fun r m1 => T (D + 6) 138 (53, [(0, zr 1)], r.toList ++ [], m1) κ)) :
    T (D + 6) 138 (39, lo, [], m) κ := by
  have hb0 : 0 ≤ (m 24 0) ∧ (m 24 0) ≤ 9 := hB 24 0
  have he0 : wr (m 24 0) = (m 24 0) := wr_id (by omega) (by omega)
  have key := @zb138_39r T hT D κ m  lo hlo
  simp only [he0, Int.toNat_natCast] at key
  exact key
    k1
theorem zb138_53r (hT : zRules T) {D : Nat} {κ : Option zA → zM → Prop} {m : zM} {lo : zL} (hlo : z_keep [0] lo = [(0, zr 1)]) 
    (o1 : T (D + 5) 79 (0, [(0, zr 52)], [], m) (fun r m1 => T (D + 6) 138 (60, [(0, zr 1)], r.toList ++ [], m1) κ)) :
    T (D + 6) 138 (53, lo, [], m) κ :=
  zkeep hT hlo (hT.1 [] 6 (D + 6) 138 _ κ (o1))
theorem zb138_53 (hT : zRules T) {D : Nat} {κ : Option zA → zM → Prop} {m : zM} {lo : zL} (hlo : z_keep [0] lo = [(0, zr 1)])  (hB : zB m) 
    (k1 : T (D + 5) 79 (0, [(0, zr 52)], [], m) (fun r m1 => T (D + 6) 138 (60, [(0, zr 1)], r.toList ++ [], m1) κ)) :
    T (D + 6) 138 (53, lo, [], m) κ := by
  exact zb138_53r hT hlo
    k1
theorem zb138_60r (hT : zRules T) {D : Nat} {κ : Option zA → zM → Prop} {m : zM} {f : Nat} {lo : zL} (hlo : z_keep [0] lo = [(0, zr 1)]) 
    (o1 : (0 ≤ wr (f : Int) ∧ wr (f : Int) < 109))
    (o2 : κ (some (zi (wr (f : Int)))) (zu (zu m 72 1 1) 73 0 (m 54 ((wr (f : Int)).toNat)))) :
    T (D + 6) 138 (60, lo, [zi (f : Int)], m) κ :=
  zkeep hT hlo (hT.1 [] 6 (D + 6) 138 _ κ (hT.1 [] 6 (D + 6) 138 (72, [(0, zr 1), (3, zi (f : Int))], [zr 54, zr 72], m) _ (And.intro (o1) (hT.1 [] 6 (D + 5) 45 _ _ (And.intro trivial (hT.1 [] 6 (D + 5) 45 (10, [(0, zr 72), (1, zi (m 54 ((wr (f : Int)).toNat)))], [zi 0, zr 73], (zu m 72 1 1)) _ (And.intro (And.intro (z_ixL rfl) trivial) (hT.1 [] 6 (D + 6) 138 _ _ (o2)))))))))
theorem zb138_60 (hT : zRules T) {D : Nat} {κ : Option zA → zM → Prop} {m : zM} {f : Nat} {lo : zL} (hlo : z_keep [0] lo = [(0, zr 1)])  (hB : zB m) (h_f : f ≤ 108) 
    (k1 : zB (zu (zu m 72 1 1) 73 0 (m 54 f)) → κ (some (zi (f : Int))) (zu (zu m 72 1 1) 73 0 (m 54 f))) :
    T (D + 6) 138 (60, lo, [zi (f : Int)], m) κ := by
  have he0 : wr (f : Int) = (f : Int) := wr_id (by omega) (by omega)
  have he1 : (f : Int).toNat = f := by omega
  have key := @zb138_60r T hT D κ m f lo hlo
  simp only [he0, he1, Int.toNat_natCast] at key
  exact key
    (by refine ⟨?_, ?_⟩ <;> omega)
    (k1  (zB_u (zB_u hB (show 0 ≤ 1 ∧ 1 ≤ 26 from ⟨by omega, by omega⟩)) trivial))
theorem zb254_0r (hT : zRules T) {D : Nat} {κ : Option zA → zM → Prop} {m : zM} {p : Int} {n : Int} 
    (o1 : wr p < 0 → κ (some (zi (-1))) (zu m 74 12 0))
    (o2 : ¬ wr p < 0 → wr ((m 74 4) - 1) < wr p → κ (some (zi (-1))) (zu m 74 12 0))
    (o3 : ¬ wr p < 0 → ¬ wr ((m 74 4) - 1) < wr p → wr n < 1 → κ (some (zi (-1))) (zu m 74 12 0))
    (o4 : ¬ wr p < 0 → ¬ wr ((m 74 4) - 1) < wr p → ¬ wr n < 1 → 60 < wr n → κ (some (zi (-1))) (zu m 74 12 0))
    (o5 : ¬ wr p < 0 → ¬ wr ((m 74 4) - 1) < wr p → ¬ wr n < 1 → ¬ 60 < wr n → T (D + 4) 254 (30, [(0, zr 74), (1, zi p), (2, zi n), (3, zi 0), (4, zi (-1)), (5, zi 0)], [], (zu m 74 12 0)) κ) :
    T (D + 4) 254 (0, [(0, zr 74), (1, zi p), (2, zi n)], [], m) κ :=
  hT.1 [(30, [0, 1, 2, 3, 4, 5]), (43, [0, 1, 2, 3, 4, 5, 6, 7])] 6 (D + 4) 254 _ κ (And.intro trivial (hT.1 [] 6 (D + 3) 190 _ _ (hT.1 [] 6 (D + 3) 190 (8, [(0, zr 74), (1, zi p)], [zi ((m 74 4) - 1), zi 0, zi p], (zu m 74 12 0)) _ (hT.1 [] 6 (D + 2) 186 _ _ (And.intro (fun a1 => (And.intro (z_b01L rfl) (hT.1 [] 6 (D + 3) 190 _ _ (And.intro (z_b01L rfl) (hT.1 [(30, [0, 1, 2, 3, 4, 5]), (43, [0, 1, 2, 3, 4, 5, 6, 7])] 6 (D + 4) 254 _ _ (And.intro (fun _ => (o1 a1)) (fun a3 => (a3 (z_litT rfl)).elim))))))) (fun a2 => (And.intro (fun a4 => (hT.1 [] 6 (D + 2) 186 (14, [(0, zi p), (1, zi 0), (2, zi ((m 74 4) - 1))], [], (zu m 74 12 0)) _ (And.intro (z_b01L rfl) (hT.1 [] 6 (D + 3) 190 _ _ (And.intro (z_b01L rfl) (hT.1 [(30, [0, 1, 2, 3, 4, 5]), (43, [0, 1, 2, 3, 4, 5, 6, 7])] 6 (D + 4) 254 _ _ (And.intro (fun _ => (o2 a2 a4)) (fun a6 => (a6 (z_litT rfl)).elim)))))))) (fun a5 => (hT.1 [] 6 (D + 2) 186 (10, [(0, zi p), (1, zi 0), (2, zi ((m 74 4) - 1))], [], (zu m 74 12 0)) _ (And.intro (z_b01L rfl) (hT.1 [] 6 (D + 3) 190 _ _ (And.intro (z_b01L rfl) (hT.1 [(30, [0, 1, 2, 3, 4, 5]), (43, [0, 1, 2, 3, 4, 5, 6, 7])] 6 (D + 4) 254 _ _ (And.intro (fun a7 => (z_litF a7 rfl).elim) (fun _ => (hT.1 [] 6 (D + 3) 194 _ _ (hT.1 [] 6 (D + 2) 186 _ _ (And.intro (fun a8 => (And.intro (z_b01L rfl) (hT.1 [] 6 (D + 3) 194 _ _ (And.intro (z_b01L rfl) (hT.1 [(30, [0, 1, 2, 3, 4, 5]), (43, [0, 1, 2, 3, 4, 5, 6, 7])] 6 (D + 4) 254 _ _ (And.intro (fun a10 => (z_litF a10 rfl).elim) (fun _ => (o3 a2 a5 a8)))))))) (fun a9 => (And.intro (fun a11 => (hT.1 [] 6 (D + 2) 186 (14, [(0, zi n), (1, zi 1), (2, zi 60)], [], (zu m 74 12 0)) _ (And.intro (z_b01L rfl) (hT.1 [] 6 (D + 3) 194 _ _ (And.intro (z_b01L rfl) (hT.1 [(30, [0, 1, 2, 3, 4, 5]), (43, [0, 1, 2, 3, 4, 5, 6, 7])] 6 (D + 4) 254 _ _ (And.intro (fun a13 => (z_litF a13 rfl).elim) (fun _ => (o4 a2 a5 a9 a11))))))))) (fun a12 => (hT.1 [] 6 (D + 2) 186 (10, [(0, zi n), (1, zi 1), (2, zi 60)], [], (zu m 74 12 0)) _ (And.intro (z_b01L rfl) (hT.1 [] 6 (D + 3) 194 _ _ (And.intro (z_b01L rfl) (hT.1 [(30, [0, 1, 2, 3, 4, 5]), (43, [0, 1, 2, 3, 4, 5, 6, 7])] 6 (D + 4) 254 _ _ (And.intro (fun _ => (hT.1 [(30, [0, 1, 2, 3, 4, 5]), (43, [0, 1, 2, 3, 4, 5, 6, 7])] 6 (D + 4) 254 (28, [(0, zr 74), (1, zi p), (2, zi n), (3, zi 0), (4, zi (-1))], [zi 0], (zu m 74 12 0)) _ (o5 a2 a5 a9 a12))) (fun a14 => (a14 (z_litT rfl)).elim))))))))))))))))))))))))))))
theorem zb254_0 (hT : zRules T) {D : Nat} {κ : Option zA → zM → Prop} {m : zM} {p : Int} {n : Int}  (hB : zB m) (h_p : (-2147483648) ≤ p ∧ p ≤ 2147483647) (h_n : (-2147483648) ≤ n ∧ n ≤ 2147483647) 
    (k1 : p < 0 → zB (zu m 74 12 0) → κ (some (zi (-1))) (zu m 74 12 0))
    (k2 : ¬ p < 0 → ((m 74 4) - 1) < p → zB (zu m 74 12 0) → κ (some (zi (-1))) (zu m 74 12 0))
    (k3 : ¬ p < 0 → ¬ ((m 74 4) - 1) < p → n < 1 → zB (zu m 74 12 0) → κ (some (zi (-1))) (zu m 74 12 0))
    (k4 : ¬ p < 0 → ¬ ((m 74 4) - 1) < p → ¬ n < 1 → 60 < n → zB (zu m 74 12 0) → κ (some (zi (-1))) (zu m 74 12 0))
    (k5 : ¬ p < 0 → ¬ ((m 74 4) - 1) < p → ¬ n < 1 → ¬ 60 < n → zB (zu m 74 12 0) → T (D + 4) 254 (30, [(0, zr 74), (1, zi p), (2, zi n), (3, zi 0), (4, zi (-1)), (5, zi 0)], [], (zu m 74 12 0)) κ) :
    T (D + 4) 254 (0, [(0, zr 74), (1, zi p), (2, zi n)], [], m) κ := by
  have hb2 : 0 ≤ (m 74 4) ∧ (m 74 4) ≤ 6 := hB 74 4
  have he0 : wr p = p := wr_id (by omega) (by omega)
  have he1 : wr ((m 74 4) - 1) = ((m 74 4) - 1) := wr_id (by omega) (by omega)
  have he2 : wr n = n := wr_id (by omega) (by omega)
  have key := @zb254_0r T hT D κ m p n
  simp only [he0, he1, he2, Int.toNat_natCast] at key
  exact key
    (fun x0 => k1 x0 (zB_u hB trivial))
    (fun x0 x1 => k2 x0 x1 (zB_u hB trivial))
    (fun x0 x1 x2 => k3 x0 x1 x2 (zB_u hB trivial))
    (fun x0 x1 x2 x3 => k4 x0 x1 x2 x3 (zB_u hB trivial))
    (fun x0 x1 x2 x3 => k5 x0 x1 x2 x3 (zB_u hB trivial))
theorem zb254_30r (hT : zRules T) {D : Nat} {κ : Option zA → zM → Prop} {m : zM} {p : Nat} {n : Nat} {b : Nat} {m_ : Int} {l : Nat} {lo : zL} (hlo : z_keep [0, 1, 2, 3, 4, 5] lo = [(0, zr 74), (1, zi (p : Int)), (2, zi (n : Int)), (3, zi (b : Int)), (4, zi m_), (5, zi (l : Int))]) 
    (o1 : 108 < wr (l : Int) → κ (some (zi (wr (b : Int)))) (zu (zu (zu m 74 11 0) 81 0 m_) 74 11 1))
    (o2 : ¬ 108 < wr (l : Int) → T (D + 4) 254 (43, [(0, zr 74), (1, zi (p : Int)), (2, zi (n : Int)), (3, zi (b : Int)), (4, zi m_), (5, zi (l : Int)), (6, zi 0), (7, zi 0)], [], m) κ) :
    T (D + 4) 254 (30, lo, [], m) κ :=
  zkeep hT hlo (hT.1 [(30, [0, 1, 2, 3, 4, 5]), (43, [0, 1, 2, 3, 4, 5, 6, 7])] 6 (D + 4) 254 _ κ (And.intro (fun a1 => (And.intro trivial (hT.1 [(30, [0, 1, 2, 3, 4, 5]), (43, [0, 1, 2, 3, 4, 5, 6, 7])] 6 (D + 4) 254 (109, [(0, zr 74), (1, zi (p : Int)), (2, zi (n : Int)), (3, zi (b : Int)), (4, zi m_), (5, zi (l : Int))], [], (zu m 74 11 0)) _ (hT.1 [] 6 (D + 3) 189 _ _ (And.intro (And.intro (z_ixL rfl) trivial) (hT.1 [] 6 (D + 3) 189 (10, [(0, zr 74), (1, zi m_)], [], (zu (zu m 74 11 0) 81 0 m_)) _ (And.intro trivial (hT.1 [] 6 (D + 3) 189 (20, [(0, zr 74), (1, zi m_)], [], (zu (zu (zu m 74 11 0) 81 0 m_) 74 11 1)) _ (hT.1 [(30, [0, 1, 2, 3, 4, 5]), (43, [0, 1, 2, 3, 4, 5, 6, 7])] 6 (D + 4) 254 _ _ (o1 a1)))))))))) (fun a2 => (hT.1 [(30, [0, 1, 2, 3, 4, 5]), (43, [0, 1, 2, 3, 4, 5, 6, 7])] 6 (D + 4) 254 (41, [(0, zr 74), (1, zi (p : Int)), (2, zi (n : Int)), (3, zi (b : Int)), (4, zi m_), (5, zi (l : Int)), (6, zi 0)], [zi 0], m) _ (o2 a2)))))
theorem zb254_30 (hT : zRules T) {D : Nat} {κ : Option zA → zM → Prop} {m : zM} {p : Nat} {n : Nat} {b : Nat} {m_ : Int} {l : Nat} {lo : zL} (hlo : z_keep [0, 1, 2, 3, 4, 5] lo = [(0, zr 74), (1, zi (p : Int)), (2, zi (n : Int)), (3, zi (b : Int)), (4, zi m_), (5, zi (l : Int))])  (hB : zB m) (h_p : p ≤ 5) (h_n : n ≤ 60) (h_b : b ≤ 108) (h_m_ : (-1) ≤ m_ ∧ m_ ≤ 60) (h_l : l ≤ 109) 
    (k1 : 108 < (l : Int) → zB (zu (zu (zu m 74 11 0) 81 0 m_) 74 11 1) → κ (some (zi (b : Int))) (zu (zu (zu m 74 11 0) 81 0 m_) 74 11 1))
    (k2 : ¬ 108 < (l : Int) → T (D + 4) 254 (43, [(0, zr 74), (1, zi (p : Int)), (2, zi (n : Int)), (3, zi (b : Int)), (4, zi m_), (5, zi (l : Int)), (6, zi 0), (7, zi 0)], [], m) κ) :
    T (D + 4) 254 (30, lo, [], m) κ := by
  have he0 : wr (l : Int) = (l : Int) := wr_id (by omega) (by omega)
  have he1 : wr (b : Int) = (b : Int) := wr_id (by omega) (by omega)
  have key := @zb254_30r T hT D κ m p n b m_ l lo hlo
  simp only [he0, he1, Int.toNat_natCast] at key
  exact key
    (fun x0 => k1 x0 (zB_u (zB_u (zB_u hB (show 0 ≤ 0 ∧ 0 ≤ 32 from ⟨by omega, by omega⟩)) trivial) (show 0 ≤ 1 ∧ 1 ≤ 32 from ⟨by omega, by omega⟩)))
    k2
theorem zb254_43r (hT : zRules T) {D : Nat} {κ : Option zA → zM → Prop} {m : zM} {p : Nat} {n : Nat} {b : Nat} {m_ : Int} {l : Nat} {s : Nat} {k : Nat} {lo : zL} (hlo : z_keep [0, 1, 2, 3, 4, 5, 6, 7] lo = [(0, zr 74), (1, zi (p : Int)), (2, zi (n : Int)), (3, zi (b : Int)), (4, zi m_), (5, zi (l : Int)), (6, zi (s : Int)), (7, zi (k : Int))]) 
    (o1 : ¬ wr (k : Int) < wr (n : Int) → wr m_ < wr (s : Int) → T (D + 4) 254 (30, [(0, zr 74), (1, zi (p : Int)), (2, zi (n : Int)), (3, zi (l : Int)), (4, zi (s : Int)), (5, zi ((l : Int) + 1))], [], m) κ)
    (o2 : ¬ wr (k : Int) < wr (n : Int) → ¬ wr m_ < wr (s : Int) → T (D + 4) 254 (30, [(0, zr 74), (1, zi (p : Int)), (2, zi (n : Int)), (3, zi (b : Int)), (4, zi m_), (5, zi ((l : Int) + 1))], [], m) κ)
    (o3 : wr (k : Int) < wr (n : Int) → T (D + 3) 216 (0, [(0, zr 74), (1, zi (p : Int)), (2, zi (k : Int))], [], m) (fun r m1 => T (D + 4) 254 (61, [(0, zr 74), (1, zi (p : Int)), (2, zi (n : Int)), (3, zi (b : Int)), (4, zi m_), (5, zi (l : Int)), (6, zi (s : Int)), (7, zi (k : Int))], r.toList ++ [zi (l : Int), zr 74, zi (s : Int)], m1) κ)) :
    T (D + 4) 254 (43, lo, [], m) κ :=
  zkeep hT hlo (hT.1 [(30, [0, 1, 2, 3, 4, 5]), (43, [0, 1, 2, 3, 4, 5, 6, 7])] 6 (D + 4) 254 _ κ (And.intro (fun a1 => (And.intro (fun a3 => (hT.1 [(30, [0, 1, 2, 3, 4, 5]), (43, [0, 1, 2, 3, 4, 5, 6, 7])] 6 (D + 4) 254 (91, [(0, zr 74), (1, zi (p : Int)), (2, zi (n : Int)), (3, zi (b : Int)), (4, zi m_), (5, zi (l : Int)), (6, zi (s : Int)), (7, zi (k : Int))], [], m) _ (o1 a1 a3))) (fun a4 => (hT.1 [(30, [0, 1, 2, 3, 4, 5]), (43, [0, 1, 2, 3, 4, 5, 6, 7])] 6 (D + 4) 254 (88, [(0, zr 74), (1, zi (p : Int)), (2, zi (n : Int)), (3, zi (b : Int)), (4, zi m_), (5, zi (l : Int)), (6, zi (s : Int)), (7, zi (k : Int))], [], m) _ (o2 a1 a4))))) (fun a2 => (hT.1 [(30, [0, 1, 2, 3, 4, 5]), (43, [0, 1, 2, 3, 4, 5, 6, 7])] 6 (D + 4) 254 (54, [(0, zr 74), (1, zi (p : Int)), (2, zi (n : Int)), (3, zi (b : Int)), (4, zi m_), (5, zi (l : Int)), (6, zi (s : Int)), (7, zi (k : Int))], [zi (l : Int), zr 74, zi (s : Int)], m) _ (o3 (Classical.byContradiction a2))))))
theorem zb254_43 (hT : zRules T) {D : Nat} {κ : Option zA → zM → Prop} {m : zM} {p : Nat} {n : Nat} {b : Nat} {m_ : Int} {l : Nat} {s : Nat} {k : Nat} {lo : zL} (hlo : z_keep [0, 1, 2, 3, 4, 5, 6, 7] lo = [(0, zr 74), (1, zi (p : Int)), (2, zi (n : Int)), (3, zi (b : Int)), (4, zi m_), (5, zi (l : Int)), (6, zi (s : Int)), (7, zi (k : Int))])  (hB : zB m) (h_p : p ≤ 5) (h_n : n ≤ 60) (h_b : b ≤ 108) (h_m_ : (-1) ≤ m_ ∧ m_ ≤ 60) (h_l : l ≤ 108) (h_s : s ≤ 60) (h_k : k ≤ 60) 
    (k1 : ¬ (k : Int) < (n : Int) → m_ < (s : Int) → T (D + 4) 254 (30, [(0, zr 74), (1, zi (p : Int)), (2, zi (n : Int)), (3, zi (l : Int)), (4, zi (s : Int)), (5, zi ((l : Int) + 1))], [], m) κ)
    (k2 : ¬ (k : Int) < (n : Int) → ¬ m_ < (s : Int) → T (D + 4) 254 (30, [(0, zr 74), (1, zi (p : Int)), (2, zi (n : Int)), (3, zi (b : Int)), (4, zi m_), (5, zi ((l : Int) + 1))], [], m) κ)
    (k3 : (k : Int) < (n : Int) → T (D + 3) 216 (0, [(0, zr 74), (1, zi (p : Int)), (2, zi (k : Int))], [], m) (fun r m1 => T (D + 4) 254 (61, [(0, zr 74), (1, zi (p : Int)), (2, zi (n : Int)), (3, zi (b : Int)), (4, zi m_), (5, zi (l : Int)), (6, zi (s : Int)), (7, zi (k : Int))], r.toList ++ [zi (l : Int), zr 74, zi (s : Int)], m1) κ)) :
    T (D + 4) 254 (43, lo, [], m) κ := by
  have he0 : wr (k : Int) = (k : Int) := wr_id (by omega) (by omega)
  have he1 : wr (n : Int) = (n : Int) := wr_id (by omega) (by omega)
  have he2 : wr m_ = m_ := wr_id (by omega) (by omega)
  have he3 : wr (s : Int) = (s : Int) := wr_id (by omega) (by omega)
  have key := @zb254_43r T hT D κ m p n b m_ l s k lo hlo
  simp only [he0, he1, he2, he3, Int.toNat_natCast] at key
  exact key
    k1
    k2
    k3
theorem zb254_61r (hT : zRules T) {D : Nat} {κ : Option zA → zM → Prop} {m : zM} {p : Nat} {n : Nat} {b : Nat} {m_ : Int} {l : Nat} {s : Nat} {k : Nat} {v : Int} {lo : zL} (hlo : z_keep [0, 1, 2, 3, 4, 5, 7] lo = [(0, zr 74), (1, zi (p : Int)), (2, zi (n : Int)), (3, zi (b : Int)), (4, zi m_), (5, zi (l : Int)), (7, zi (k : Int))]) 
    (o1 : wr (l : Int) < wr v → T (D + 4) 254 (43, [(0, zr 74), (1, zi (p : Int)), (2, zi (n : Int)), (3, zi (b : Int)), (4, zi m_), (5, zi (l : Int)), (6, zi ((s : Int) + 0)), (7, zi ((k : Int) + 1))], [], m) κ)
    (o2 : ¬ wr (l : Int) < wr v → wr (v + (m 79 0)) < wr (l : Int) → T (D + 4) 254 (43, [(0, zr 74), (1, zi (p : Int)), (2, zi (n : Int)), (3, zi (b : Int)), (4, zi m_), (5, zi (l : Int)), (6, zi ((s : Int) + 0)), (7, zi ((k : Int) + 1))], [], m) κ)
    (o3 : ¬ wr (l : Int) < wr v → ¬ wr (v + (m 79 0)) < wr (l : Int) → T (D + 4) 254 (43, [(0, zr 74), (1, zi (p : Int)), (2, zi (n : Int)), (3, zi (b : Int)), (4, zi m_), (5, zi (l : Int)), (6, zi ((s : Int) + 1)), (7, zi ((k : Int) + 1))], [], m) κ) :
    T (D + 4) 254 (61, lo, [zi v, zi (l : Int), zr 74, zi (s : Int)], m) κ :=
  zkeep hT hlo (hT.1 [(30, [0, 1, 2, 3, 4, 5]), (43, [0, 1, 2, 3, 4, 5, 6, 7])] 6 (D + 4) 254 _ κ (hT.1 [] 6 (D + 3) 252 _ _ (hT.1 [] 6 (D + 3) 252 (8, [(0, zr 74), (1, zi (l : Int)), (2, zi v)], [zi 0, zr 79, zi v, zi v, zi (l : Int)], m) _ (And.intro (z_ixL rfl) (hT.1 [] 6 (D + 2) 186 _ _ (And.intro (fun a1 => (And.intro (z_b01L rfl) (hT.1 [] 6 (D + 3) 252 _ _ (And.intro (z_b01L rfl) (hT.1 [(30, [0, 1, 2, 3, 4, 5]), (43, [0, 1, 2, 3, 4, 5, 6, 7])] 6 (D + 4) 254 _ _ (And.intro (fun _ => (o1 a1)) (fun a3 => (a3 (z_litT rfl)).elim))))))) (fun a2 => (And.intro (fun a4 => (hT.1 [] 6 (D + 2) 186 (14, [(0, zi (l : Int)), (1, zi v), (2, zi (v + (m 79 0)))], [], m) _ (And.intro (z_b01L rfl) (hT.1 [] 6 (D + 3) 252 _ _ (And.intro (z_b01L rfl) (hT.1 [(30, [0, 1, 2, 3, 4, 5]), (43, [0, 1, 2, 3, 4, 5, 6, 7])] 6 (D + 4) 254 _ _ (And.intro (fun _ => (o2 a2 a4)) (fun a6 => (a6 (z_litT rfl)).elim)))))))) (fun a5 => (hT.1 [] 6 (D + 2) 186 (10, [(0, zi (l : Int)), (1, zi v), (2, zi (v + (m 79 0)))], [], m) _ (And.intro (z_b01L rfl) (hT.1 [] 6 (D + 3) 252 _ _ (And.intro (z_b01L rfl) (hT.1 [(30, [0, 1, 2, 3, 4, 5]), (43, [0, 1, 2, 3, 4, 5, 6, 7])] 6 (D + 4) 254 _ _ (And.intro (fun a7 => (z_litF a7 rfl).elim) (fun _ => (hT.1 [(30, [0, 1, 2, 3, 4, 5]), (43, [0, 1, 2, 3, 4, 5, 6, 7])] 6 (D + 4) 254 (78, [(0, zr 74), (1, zi (p : Int)), (2, zi (n : Int)), (3, zi (b : Int)), (4, zi m_), (5, zi (l : Int)), (6, zi ((s : Int) + 1)), (7, zi ((k : Int) + 1))], [], m) _ (o3 a2 a5))))))))))))))))))
theorem zb254_61 (hT : zRules T) {D : Nat} {κ : Option zA → zM → Prop} {m : zM} {p : Nat} {n : Nat} {b : Nat} {m_ : Int} {l : Nat} {s : Nat} {k : Nat} {v : Int} {lo : zL} (hlo : z_keep [0, 1, 2, 3, 4, 5, 7] lo = [(0, zr 74), (1, zi (p : Int)), (2, zi (n : Int)), (3, zi (b : Int)), (4, zi m_), (5, zi (l : Int)), (7, zi (k : Int))])  (hB : zB m) (h_p : p ≤ 5) (h_n : n ≤ 60) (h_b : b ≤ 108) (h_m_ : (-1) ≤ m_ ∧ m_ ≤ 60) (h_l : l ≤ 108) (h_s : s ≤ 60) (h_k : k ≤ 60) (h_v : 0 ≤ v ∧ v ≤ 99) 
    (k1 : (l : Int) < v → T (D + 4) 254 (43, [(0, zr 74), (1, zi (p : Int)), (2, zi (n : Int)), (3, zi (b : Int)), (4, zi m_), (5, zi (l : Int)), (6, zi ((s : Int) + 0)), (7, zi ((k : Int) + 1))], [], m) κ)
    (k2 : ¬ (l : Int) < v → (v + (m 79 0)) < (l : Int) → T (D + 4) 254 (43, [(0, zr 74), (1, zi (p : Int)), (2, zi (n : Int)), (3, zi (b : Int)), (4, zi m_), (5, zi (l : Int)), (6, zi ((s : Int) + 0)), (7, zi ((k : Int) + 1))], [], m) κ)
    (k3 : ¬ (l : Int) < v → ¬ (v + (m 79 0)) < (l : Int) → T (D + 4) 254 (43, [(0, zr 74), (1, zi (p : Int)), (2, zi (n : Int)), (3, zi (b : Int)), (4, zi m_), (5, zi (l : Int)), (6, zi ((s : Int) + 1)), (7, zi ((k : Int) + 1))], [], m) κ) :
    T (D + 4) 254 (61, lo, [zi v, zi (l : Int), zr 74, zi (s : Int)], m) κ := by
  have hb8 : 0 ≤ (m 79 0) ∧ (m 79 0) ≤ 9 := hB 79 0
  have he0 : wr (l : Int) = (l : Int) := wr_id (by omega) (by omega)
  have he1 : wr v = v := wr_id (by omega) (by omega)
  have he2 : wr (v + (m 79 0)) = (v + (m 79 0)) := wr_id (by omega) (by omega)
  have key := @zb254_61r T hT D κ m p n b m_ l s k v lo hlo
  simp only [he0, he1, he2, Int.toNat_natCast] at key
  exact key
    k1
    k2
    k3
theorem zb139_0r (hT : zRules T) {D : Nat} {κ : Option zA → zM → Prop} {m : zM} {n : Int} 
    (o1 : wr n < 0 → κ (some (zi (-1))) m)
    (o2 : ¬ wr n < 0 → ¬ 99 < wr n → T (D + 5) 139 (16, [(0, zr 1), (1, zi n), (2, zi 0), (3, zi 0)], [], m) κ)
    (o3 : ¬ wr n < 0 → 99 < wr n → κ (some (zi (-1))) m) :
    T (D + 5) 139 (0, [(0, zr 1), (1, zi n)], [], m) κ :=
  hT.1 [(16, [0, 1, 2, 3])] 6 (D + 5) 139 _ κ (And.intro (fun a1 => (o1 a1)) (fun a2 => (And.intro (fun a3 => (hT.1 [(16, [0, 1, 2, 3])] 6 (D + 5) 139 (13, [(0, zr 1), (1, zi n)], [zi 0], m) _ (o2 a2 a3))) (fun a4 => (hT.1 [(16, [0, 1, 2, 3])] 6 (D + 5) 139 (11, [(0, zr 1), (1, zi n)], [zi (-1)], m) _ (o3 a2 (Classical.byContradiction a4)))))))
theorem zb139_0 (hT : zRules T) {D : Nat} {κ : Option zA → zM → Prop} {m : zM} {n : Int}  (hB : zB m) (h_n : (-2147483648) ≤ n ∧ n ≤ 2147483647) 
    (k1 : n < 0 → κ (some (zi (-1))) m)
    (k2 : ¬ n < 0 → ¬ 99 < n → T (D + 5) 139 (16, [(0, zr 1), (1, zi n), (2, zi 0), (3, zi 0)], [], m) κ)
    (k3 : ¬ n < 0 → 99 < n → κ (some (zi (-1))) m) :
    T (D + 5) 139 (0, [(0, zr 1), (1, zi n)], [], m) κ := by
  have he0 : wr n = n := wr_id (by omega) (by omega)
  have key := @zb139_0r T hT D κ m n
  simp only [he0, Int.toNat_natCast] at key
  exact key
    k1
    k2
    k3
theorem zb139_16r (hT : zRules T) {D : Nat} {κ : Option zA → zM → Prop} {m : zM} {n : Nat} {b : Int} {p : Nat} {lo : zL} (hlo : z_keep [0, 1, 2, 3] lo = [(0, zr 1), (1, zi (n : Int)), (2, zi b), (3, zi (p : Int))]) 
    (o1 : ¬ wr (p : Int) < wr (m 17 0) → κ (some (zi (wr b))) m)
    (o2 : wr (p : Int) < wr (m 17 0) → (0 ≤ wr (p : Int) ∧ wr (p : Int) < 6))
    (o3 : wr (p : Int) < wr (m 17 0) → T (D + 4) 169 (0, [(0, zr 1), (1, zi (p : Int)), (2, zi (m 19 ((wr (p : Int)).toNat))), (3, zi ((m 17 11) + (n : Int)))], [], m) (fun r m1 => T (D + 5) 139 (50, [(0, zr 1), (1, zi (n : Int)), (2, zi b), (3, zi (p : Int))], r.toList ++ [], m1) κ)) :
    T (D + 5) 139 (16, lo, [], m) κ :=
  zkeep hT hlo (hT.1 [(16, [0, 1, 2, 3])] 6 (D + 5) 139 _ κ (And.intro (fun a1 => (hT.1 [(16, [0, 1, 2, 3])] 6 (D + 5) 139 (71, [(0, zr 1), (1, zi (n : Int)), (2, zi b), (3, zi (p : Int))], [zi b], m) _ (o1 a1))) (fun a2 => (hT.1 [(16, [0, 1, 2, 3])] 6 (D + 5) 139 (28, [(0, zr 1), (1, zi (n : Int)), (2, zi b), (3, zi (p : Int))], [zr 1], m) _ (And.intro (o2 (Classical.byContradiction a2)) (hT.1 [(16, [0, 1, 2, 3])] 6 (D + 5) 139 (38, [(0, zr 1), (1, zi (n : Int)), (2, zi b), (3, zi (p : Int))], [zi (m 19 ((wr (p : Int)).toNat)), zi (p : Int), zr 1], m) _ (o3 (Classical.byContradiction a2))))))))
theorem zb139_16 (hT : zRules T) {D : Nat} {κ : Option zA → zM → Prop} {m : zM} {n : Nat} {b : Int} {p : Nat} {lo : zL} (hlo : z_keep [0, 1, 2, 3] lo = [(0, zr 1), (1, zi (n : Int)), (2, zi b), (3, zi (p : Int))])  (hB : zB m) (h_n : n ≤ 99) (h_b : 0 ≤ b ∧ b ≤ 63) (h_p : p ≤ 6) 
    (k1 : ¬ (p : Int) < (m 17 0) → κ (some (zi b)) m)
    (k2 : (p : Int) < (m 17 0) → T (D + 4) 169 (0, [(0, zr 1), (1, zi (p : Int)), (2, zi (m 19 p)), (3, zi ((m 17 11) + (n : Int)))], [], m) (fun r m1 => T (D + 5) 139 (50, [(0, zr 1), (1, zi (n : Int)), (2, zi b), (3, zi (p : Int))], r.toList ++ [], m1) κ)) :
    T (D + 5) 139 (16, lo, [], m) κ := by
  have hb3 : 0 ≤ (m 17 0) ∧ (m 17 0) ≤ 6 := hB 17 0
  have hb4 : (-1) ≤ (m 19 p) ∧ (m 19 p) ≤ 3 := hB 19 p
  have hb5 : 0 ≤ (m 17 11) ∧ (m 17 11) ≤ 400000 := hB 17 11
  have he0 : wr (p : Int) = (p : Int) := wr_id (by omega) (by omega)
  have he1 : wr (m 17 0) = (m 17 0) := wr_id (by omega) (by omega)
  have he2 : (p : Int).toNat = p := by omega
  have he3 : wr b = b := wr_id (by omega) (by omega)
  have key := @zb139_16r T hT D κ m n b p lo hlo
  simp only [he0, he1, he2, he3, Int.toNat_natCast] at key
  exact key
    k1
    (fun x0 => by refine ⟨?_, ?_⟩ <;> omega)
    k2
theorem zb139_50r (hT : zRules T) {D : Nat} {κ : Option zA → zM → Prop} {m : zM} {n : Nat} {b : Int} {p : Nat} {v : Int} {lo : zL} (hlo : z_keep [0, 1, 2, 3] lo = [(0, zr 1), (1, zi (n : Int)), (2, zi b), (3, zi (p : Int))]) 
    (o1 : T (D + 4) 171 (0, [(0, zr 1), (1, zi (p : Int))], [], m) (fun r m1 => T (D + 5) 139 (55, [(0, zr 1), (1, zi (n : Int)), (2, zi b), (3, zi (p : Int))], r.toList ++ [zi v], m1) κ)) :
    T (D + 5) 139 (50, lo, [zi v], m) κ :=
  zkeep hT hlo (hT.1 [(16, [0, 1, 2, 3])] 6 (D + 5) 139 _ κ (o1))
theorem zb139_50 (hT : zRules T) {D : Nat} {κ : Option zA → zM → Prop} {m : zM} {n : Nat} {b : Int} {p : Nat} {v : Int} {lo : zL} (hlo : z_keep [0, 1, 2, 3] lo = [(0, zr 1), (1, zi (n : Int)), (2, zi b), (3, zi (p : Int))])  (hB : zB m) (h_n : n ≤ 99) (h_b : 0 ≤ b ∧ b ≤ 63) (h_p : p ≤ 5) (h_v : 0 ≤ v ∧ v ≤ 99) 
    (k1 : T (D + 4) 171 (0, [(0, zr 1), (1, zi (p : Int))], [], m) (fun r m1 => T (D + 5) 139 (55, [(0, zr 1), (1, zi (n : Int)), (2, zi b), (3, zi (p : Int))], r.toList ++ [zi v], m1) κ)) :
    T (D + 5) 139 (50, lo, [zi v], m) κ := by
  exact zb139_50r hT hlo
    k1
theorem zb139_55r (hT : zRules T) {D : Nat} {κ : Option zA → zM → Prop} {m : zM} {n : Nat} {b : Int} {p : Nat} {v : Int} {w : Int} {lo : zL} (hlo : z_keep [0, 1, 2, 3] lo = [(0, zr 1), (1, zi (n : Int)), (2, zi b), (3, zi (p : Int))]) 
    (o1 : ¬ wr v = wr w → T (D + 5) 139 (16, [(0, zr 1), (1, zi (n : Int)), (2, zi b), (3, zi ((p : Int) + 1))], [], m) κ)
    (o2 : wr v = wr w → T (D + 5) 139 (16, [(0, zr 1), (1, zi (n : Int)), (2, zi (z_or b (z_shl 1 (p : Int)))), (3, zi ((p : Int) + 1))], [], m) κ) :
    T (D + 5) 139 (55, lo, [zi w, zi v], m) κ :=
  zkeep hT hlo (hT.1 [(16, [0, 1, 2, 3])] 6 (D + 5) 139 _ κ (And.intro (fun a1 => (o1 a1)) (fun a2 => (hT.1 [(16, [0, 1, 2, 3])] 6 (D + 5) 139 (63, [(0, zr 1), (1, zi (n : Int)), (2, zi b), (3, zi (p : Int))], [zi (z_or b (z_shl 1 (p : Int)))], m) _ (o2 (Classical.byContradiction a2))))))
theorem zb139_55 (hT : zRules T) {D : Nat} {κ : Option zA → zM → Prop} {m : zM} {n : Nat} {b : Int} {p : Nat} {v : Int} {w : Int} {lo : zL} (hlo : z_keep [0, 1, 2, 3] lo = [(0, zr 1), (1, zi (n : Int)), (2, zi b), (3, zi (p : Int))])  (hB : zB m) (h_n : n ≤ 99) (h_b : 0 ≤ b ∧ b ≤ 63) (h_p : p ≤ 5) (h_v : 0 ≤ v ∧ v ≤ 99) (h_w : 0 ≤ w ∧ w ≤ 99) 
    (k1 : ¬ v = w → T (D + 5) 139 (16, [(0, zr 1), (1, zi (n : Int)), (2, zi b), (3, zi ((p : Int) + 1))], [], m) κ)
    (k2 : v = w → T (D + 5) 139 (16, [(0, zr 1), (1, zi (n : Int)), (2, zi (z_or b (z_shl 1 (p : Int)))), (3, zi ((p : Int) + 1))], [], m) κ) :
    T (D + 5) 139 (55, lo, [zi w, zi v], m) κ := by
  have hb5 : (-2147483648) ≤ (z_shl 1 (p : Int)) ∧ (z_shl 1 (p : Int)) ≤ 2147483647 := z_shlB 1 (p : Int)
  have hb6 : (-2147483648) ≤ (z_or b (z_shl 1 (p : Int))) ∧ (z_or b (z_shl 1 (p : Int))) ≤ 2147483647 := z_orB b (z_shl 1 (p : Int))
  have he0 : wr v = v := wr_id (by omega) (by omega)
  have he1 : wr w = w := wr_id (by omega) (by omega)
  have key := @zb139_55r T hT D κ m n b p v w lo hlo
  simp only [he0, he1, Int.toNat_natCast] at key
  exact key
    k1
    k2
theorem zb255_0r (hT : zRules T) {D : Nat} {κ : Option zA → zM → Prop} {m : zM} {n : Int} 
    (o1 : wr n < 0 → κ (some (zi (-1))) (zu m 74 12 0))
    (o2 : ¬ wr n < 0 → 99 < wr n → κ (some (zi (-1))) (zu m 74 12 0))
    (o3 : ¬ wr n < 0 → ¬ 99 < wr n → T (D + 3) 255 (21, [(0, zr 74), (1, zi n), (2, zi 0), (3, zi 0)], [], (zu m 74 12 0)) κ) :
    T (D + 3) 255 (0, [(0, zr 74), (1, zi n)], [], m) κ :=
  hT.1 [(21, [0, 1, 2, 3])] 6 (D + 3) 255 _ κ (And.intro trivial (hT.1 [(21, [0, 1, 2, 3])] 6 (D + 3) 255 (9, [(0, zr 74), (1, zi n)], [zi 99, zi 0, zi n], (zu m 74 12 0)) _ (hT.1 [] 6 (D + 2) 186 _ _ (And.intro (fun a1 => (And.intro (z_b01L rfl) (hT.1 [(21, [0, 1, 2, 3])] 6 (D + 3) 255 _ _ (And.intro (fun a3 => (z_litF a3 rfl).elim) (fun _ => (o1 a1)))))) (fun a2 => (And.intro (fun a4 => (hT.1 [] 6 (D + 2) 186 (14, [(0, zi n), (1, zi 0), (2, zi 99)], [], (zu m 74 12 0)) _ (And.intro (z_b01L rfl) (hT.1 [(21, [0, 1, 2, 3])] 6 (D + 3) 255 _ _ (And.intro (fun a6 => (z_litF a6 rfl).elim) (fun _ => (o2 a2 a4))))))) (fun a5 => (hT.1 [] 6 (D + 2) 186 (10, [(0, zi n), (1, zi 0), (2, zi 99)], [], (zu m 74 12 0)) _ (And.intro (z_b01L rfl) (hT.1 [(21, [0, 1, 2, 3])] 6 (D + 3) 255 _ _ (And.intro (fun _ => (o3 a2 a5)) (fun a7 => (a7 (z_litT rfl)).elim))))))))))))
theorem zb255_0 (hT : zRules T) {D : Nat} {κ : Option zA → zM → Prop} {m : zM} {n : Int}  (hB : zB m) (h_n : (-2147483648) ≤ n ∧ n ≤ 2147483647) 
    (k1 : n < 0 → zB (zu m 74 12 0) → κ (some (zi (-1))) (zu m 74 12 0))
    (k2 : ¬ n < 0 → 99 < n → zB (zu m 74 12 0) → κ (some (zi (-1))) (zu m 74 12 0))
    (k3 : ¬ n < 0 → ¬ 99 < n → zB (zu m 74 12 0) → T (D + 3) 255 (21, [(0, zr 74), (1, zi n), (2, zi 0), (3, zi 0)], [], (zu m 74 12 0)) κ) :
    T (D + 3) 255 (0, [(0, zr 74), (1, zi n)], [], m) κ := by
  have he0 : wr n = n := wr_id (by omega) (by omega)
  have key := @zb255_0r T hT D κ m n
  simp only [he0, Int.toNat_natCast] at key
  exact key
    (fun x0 => k1 x0 (zB_u hB trivial))
    (fun x0 x1 => k2 x0 x1 (zB_u hB trivial))
    (fun x0 x1 => k3 x0 x1 (zB_u hB trivial))
theorem zb255_21r (hT : zRules T) {D : Nat} {κ : Option zA → zM → Prop} {m : zM} {n : Nat} {b : Int} {p : Nat} {lo : zL} (hlo : z_keep [0, 1, 2, 3] lo = [(0, zr 74), (1, zi (n : Int)), (2, zi b), (3, zi (p : Int))]) 
    (o1 : ¬ wr (p : Int) < wr (m 74 4) → κ (some (zi (wr b))) m)
    (o2 : wr (p : Int) < wr (m 74 4) → T (D + 2) 216 (0, [(0, zr 74), (1, zi (p : Int)), (2, zi (n : Int))], [], m) (fun r m1 => T (D + 3) 255 (36, [(0, zr 74), (1, zi (n : Int)), (2, zi b), (3, zi (p : Int))], r.toList ++ [zi b], m1) κ)) :
    T (D + 3) 255 (21, lo, [], m) κ :=
  zkeep hT hlo (hT.1 [(21, [0, 1, 2, 3])] 6 (D + 3) 255 _ κ (And.intro (fun a1 => (o1 a1)) (fun a2 => (hT.1 [(21, [0, 1, 2, 3])] 6 (D + 3) 255 (31, [(0, zr 74), (1, zi (n : Int)), (2, zi b), (3, zi (p : Int))], [zr 74, zi b], m) _ (o2 (Classical.byContradiction a2))))))
theorem zb255_21 (hT : zRules T) {D : Nat} {κ : Option zA → zM → Prop} {m : zM} {n : Nat} {b : Int} {p : Nat} {lo : zL} (hlo : z_keep [0, 1, 2, 3] lo = [(0, zr 74), (1, zi (n : Int)), (2, zi b), (3, zi (p : Int))])  (hB : zB m) (h_n : n ≤ 99) (h_b : 0 ≤ b ∧ b ≤ 63) (h_p : p ≤ 6) 
    (k1 : ¬ (p : Int) < (m 74 4) → κ (some (zi b)) m)
    (k2 : (p : Int) < (m 74 4) → T (D + 2) 216 (0, [(0, zr 74), (1, zi (p : Int)), (2, zi (n : Int))], [], m) (fun r m1 => T (D + 3) 255 (36, [(0, zr 74), (1, zi (n : Int)), (2, zi b), (3, zi (p : Int))], r.toList ++ [zi b], m1) κ)) :
    T (D + 3) 255 (21, lo, [], m) κ := by
  have hb3 : 0 ≤ (m 74 4) ∧ (m 74 4) ≤ 6 := hB 74 4
  have he0 : wr (p : Int) = (p : Int) := wr_id (by omega) (by omega)
  have he1 : wr (m 74 4) = (m 74 4) := wr_id (by omega) (by omega)
  have he2 : wr b = b := wr_id (by omega) (by omega)
  have key := @zb255_21r T hT D κ m n b p lo hlo
  simp only [he0, he1, he2, Int.toNat_natCast] at key
  exact key
    k1
    k2
theorem zb255_36r (hT : zRules T) {D : Nat} {κ : Option zA → zM → Prop} {m : zM} {n : Nat} {b : Int} {p : Nat} {v : Int} {lo : zL} (hlo : z_keep [0, 1, 3] lo = [(0, zr 74), (1, zi (n : Int)), (3, zi (p : Int))]) 
    (o1 : T (D + 2) 216 (0, [(0, zr 74), (1, zi (p : Int)), (2, zi 0)], [], m) (fun r m1 => T (D + 3) 255 (42, [(0, zr 74), (1, zi (n : Int)), (3, zi (p : Int))], r.toList ++ [zi v, zi b], m1) κ)) :
    T (D + 3) 255 (36, lo, [zi v, zi b], m) κ :=
  zkeep hT hlo (hT.1 [(21, [0, 1, 2, 3])] 6 (D + 3) 255 _ κ (o1))
theorem zb255_36 (hT : zRules T) {D : Nat} {κ : Option zA → zM → Prop} {m : zM} {n : Nat} {b : Int} {p : Nat} {v : Int} {lo : zL} (hlo : z_keep [0, 1, 3] lo = [(0, zr 74), (1, zi (n : Int)), (3, zi (p : Int))])  (hB : zB m) (h_n : n ≤ 99) (h_b : 0 ≤ b ∧ b ≤ 63) (h_p : p ≤ 5) (h_v : 0 ≤ v ∧ v ≤ 99) 
    (k1 : T (D + 2) 216 (0, [(0, zr 74), (1, zi (p : Int)), (2, zi 0)], [], m) (fun r m1 => T (D + 3) 255 (42, [(0, zr 74), (1, zi (n : Int)), (3, zi (p : Int))], r.toList ++ [zi v, zi b], m1) κ)) :
    T (D + 3) 255 (36, lo, [zi v, zi b], m) κ := by
  exact zb255_36r hT hlo
    k1
theorem zb255_42r (hT : zRules T) {D : Nat} {κ : Option zA → zM → Prop} {m : zM} {n : Nat} {b : Int} {p : Nat} {v : Int} {w : Int} {lo : zL} (hlo : z_keep [0, 1, 3] lo = [(0, zr 74), (1, zi (n : Int)), (3, zi (p : Int))]) 
    (o1 : ¬ wr v = wr w → T (D + 3) 255 (21, [(0, zr 74), (1, zi (n : Int)), (2, zi (z_or b 0)), (3, zi ((p : Int) + 1))], [], m) κ)
    (o2 : wr v = wr w → T (D + 3) 255 (21, [(0, zr 74), (1, zi (n : Int)), (2, zi (z_or b (z_shl 1 (p : Int)))), (3, zi ((p : Int) + 1))], [], m) κ) :
    T (D + 3) 255 (42, lo, [zi w, zi v, zi b], m) κ :=
  zkeep hT hlo (hT.1 [(21, [0, 1, 2, 3])] 6 (D + 3) 255 _ κ (And.intro (fun a1 => (o1 a1)) (fun a2 => (hT.1 [(21, [0, 1, 2, 3])] 6 (D + 3) 255 (53, [(0, zr 74), (1, zi (n : Int)), (3, zi (p : Int))], [zi (z_or b (z_shl 1 (p : Int)))], m) _ (o2 (Classical.byContradiction a2))))))
theorem zb255_42 (hT : zRules T) {D : Nat} {κ : Option zA → zM → Prop} {m : zM} {n : Nat} {b : Int} {p : Nat} {v : Int} {w : Int} {lo : zL} (hlo : z_keep [0, 1, 3] lo = [(0, zr 74), (1, zi (n : Int)), (3, zi (p : Int))])  (hB : zB m) (h_n : n ≤ 99) (h_b : 0 ≤ b ∧ b ≤ 63) (h_p : p ≤ 5) (h_v : 0 ≤ v ∧ v ≤ 99) (h_w : 0 ≤ w ∧ w ≤ 99) 
    (k1 : ¬ v = w → T (D + 3) 255 (21, [(0, zr 74), (1, zi (n : Int)), (2, zi (z_or b 0)), (3, zi ((p : Int) + 1))], [], m) κ)
    (k2 : v = w → T (D + 3) 255 (21, [(0, zr 74), (1, zi (n : Int)), (2, zi (z_or b (z_shl 1 (p : Int)))), (3, zi ((p : Int) + 1))], [], m) κ) :
    T (D + 3) 255 (42, lo, [zi w, zi v, zi b], m) κ := by
  have hb5 : (-2147483648) ≤ (z_shl 1 (p : Int)) ∧ (z_shl 1 (p : Int)) ≤ 2147483647 := z_shlB 1 (p : Int)
  have hb6 : (-2147483648) ≤ (z_or b (z_shl 1 (p : Int))) ∧ (z_or b (z_shl 1 (p : Int))) ≤ 2147483647 := z_orB b (z_shl 1 (p : Int))
  have hb7 : (-2147483648) ≤ (z_or b 0) ∧ (z_or b 0) ≤ 2147483647 := z_orB b 0
  have he0 : wr v = v := wr_id (by omega) (by omega)
  have he1 : wr w = w := wr_id (by omega) (by omega)
  have key := @zb255_42r T hT D κ m n b p v w lo hlo
  simp only [he0, he1, Int.toNat_natCast] at key
  exact key
    k1
    k2
end ZBlocks
