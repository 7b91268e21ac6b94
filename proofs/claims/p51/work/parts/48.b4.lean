section ZBlocks
variable {T : Nat → Nat → zG → (Option zA → zM → Prop) → Prop}
theorem zb171_0r (hT : zRules T) {D : Nat} {κ : Option zA → zM → Prop} {m : zM} {p : Nat} 
    (o1 : (0 ≤ wr (p : Int) ∧ wr (p : Int) < 6))
    (o2 : (0 ≤ wr (p : Int) ∧ wr (p : Int) < 6))
    (o3 : T (D + 3) 170 (0, [(0, zr 1), (1, zi (m 18 ((wr (p : Int)).toNat))), (2, zi (p : Int)), (3, zi (m 19 ((wr (p : Int)).toNat))), (4, zi (m 17 11))], [], m) (fun r m1 => T (D + 4) 171 (30, [(0, zr 1), (1, zi (p : Int))], r.toList ++ [], m1) κ)) :
    T (D + 4) 171 (0, [(0, zr 1), (1, zi (p : Int))], [], m) κ :=
  hT.1 [] 6 (D + 4) 171 _ κ (And.intro (o1) (hT.1 [] 6 (D + 4) 171 (10, [(0, zr 1), (1, zi (p : Int))], [zi (m 18 ((wr (p : Int)).toNat)), zr 1], m) _ (And.intro (o2) (hT.1 [] 6 (D + 4) 171 (20, [(0, zr 1), (1, zi (p : Int))], [zi (m 19 ((wr (p : Int)).toNat)), zi (p : Int), zi (m 18 ((wr (p : Int)).toNat)), zr 1], m) _ (o3)))))
theorem zb171_0 (hT : zRules T) {D : Nat} {κ : Option zA → zM → Prop} {m : zM} {p : Nat}  (hB : zB m) (h_p : p ≤ 5) 
    (k1 : T (D + 3) 170 (0, [(0, zr 1), (1, zi (m 18 p)), (2, zi (p : Int)), (3, zi (m 19 p)), (4, zi (m 17 11))], [], m) (fun r m1 => T (D + 4) 171 (30, [(0, zr 1), (1, zi (p : Int))], r.toList ++ [], m1) κ)) :
    T (D + 4) 171 (0, [(0, zr 1), (1, zi (p : Int))], [], m) κ := by
  have hb1 : (-1) ≤ (m 18 p) ∧ (m 18 p) ≤ 99 := hB 18 p
  have hb2 : (-1) ≤ (m 19 p) ∧ (m 19 p) ≤ 3 := hB 19 p
  have hb3 : 0 ≤ (m 17 11) ∧ (m 17 11) ≤ 400000 := hB 17 11
  have he0 : wr (p : Int) = (p : Int) := wr_id (by omega) (by omega)
  have he1 : (p : Int).toNat = p := by omega
  have key := @zb171_0r T hT D κ m p
  simp only [he0, he1, Int.toNat_natCast] at key
  exact key
    (by refine ⟨?_, ?_⟩ <;> omega)
    (by refine ⟨?_, ?_⟩ <;> omega)
    k1
theorem zb171_30r (hT : zRules T) {D : Nat} {κ : Option zA → zM → Prop} {m : zM} {v : Int} {lo : zL} (hlo : z_keep [] lo = []) 
    (o1 : κ (some (zi (wr v))) m) :
    T (D + 4) 171 (30, lo, [zi v], m) κ :=
  zkeep hT hlo (hT.1 [] 6 (D + 4) 171 _ κ (o1))
theorem zb171_30 (hT : zRules T) {D : Nat} {κ : Option zA → zM → Prop} {m : zM} {v : Int} {lo : zL} (hlo : z_keep [] lo = [])  (h_v : 0 ≤ v ∧ v ≤ 99) 
    (k1 : κ (some (zi v)) m) :
    T (D + 4) 171 (30, lo, [zi v], m) κ := by
  have he0 : wr v = v := wr_id (by omega) (by omega)
  have key := @zb171_30r T hT D κ m v lo hlo
  simp only [he0, Int.toNat_natCast] at key
  exact key
    k1
theorem zb169_0r (hT : zRules T) {D : Nat} {κ : Option zA → zM → Prop} {m : zM} {p : Nat} {pl : Int} {w : Int} 
    (o1 : (0 ≤ wr (p : Int) ∧ wr (p : Int) < 6))
    (o2 : T (D + 3) 170 (0, [(0, zr 1), (1, zi (m 18 ((wr (p : Int)).toNat))), (2, zi (p : Int)), (3, zi pl), (4, zi w)], [], m) (fun r m1 => T (D + 4) 169 (16, [(0, zr 1), (1, zi (p : Int)), (2, zi pl), (3, zi w)], r.toList ++ [], m1) κ)) :
    T (D + 4) 169 (0, [(0, zr 1), (1, zi (p : Int)), (2, zi pl), (3, zi w)], [], m) κ :=
  hT.1 [] 6 (D + 4) 169 _ κ (And.intro (o1) (hT.1 [] 6 (D + 4) 169 (10, [(0, zr 1), (1, zi (p : Int)), (2, zi pl), (3, zi w)], [zi (m 18 ((wr (p : Int)).toNat)), zr 1], m) _ (o2)))
theorem zb169_0 (hT : zRules T) {D : Nat} {κ : Option zA → zM → Prop} {m : zM} {p : Nat} {pl : Int} {w : Int}  (hB : zB m) (h_p : p ≤ 5) 
    (k1 : T (D + 3) 170 (0, [(0, zr 1), (1, zi (m 18 p)), (2, zi (p : Int)), (3, zi pl), (4, zi w)], [], m) (fun r m1 => T (D + 4) 169 (16, [(0, zr 1), (1, zi (p : Int)), (2, zi pl), (3, zi w)], r.toList ++ [], m1) κ)) :
    T (D + 4) 169 (0, [(0, zr 1), (1, zi (p : Int)), (2, zi pl), (3, zi w)], [], m) κ := by
  have hb1 : (-1) ≤ (m 18 p) ∧ (m 18 p) ≤ 99 := hB 18 p
  have he0 : wr (p : Int) = (p : Int) := wr_id (by omega) (by omega)
  have he1 : (p : Int).toNat = p := by omega
  have key := @zb169_0r T hT D κ m p pl w
  simp only [he0, he1, Int.toNat_natCast] at key
  exact key
    (by refine ⟨?_, ?_⟩ <;> omega)
    k1
theorem zb169_16r (hT : zRules T) {D : Nat} {κ : Option zA → zM → Prop} {m : zM} {v : Int} {lo : zL} (hlo : z_keep [] lo = []) 
    (o1 : κ (some (zi (wr v))) m) :
    T (D + 4) 169 (16, lo, [zi v], m) κ :=
  zkeep hT hlo (hT.1 [] 6 (D + 4) 169 _ κ (o1))
theorem zb169_16 (hT : zRules T) {D : Nat} {κ : Option zA → zM → Prop} {m : zM} {v : Int} {lo : zL} (hlo : z_keep [] lo = [])  (h_v : 0 ≤ v ∧ v ≤ 99) 
    (k1 : κ (some (zi v)) m) :
    T (D + 4) 169 (16, lo, [zi v], m) κ := by
  have he0 : wr v = v := wr_id (by omega) (by omega)
  have key := @zb169_16r T hT D κ m v lo hlo
  simp only [he0, Int.toNat_natCast] at key
  exact key
    k1
theorem zb215_0r (hT : zRules T) {D : Nat} {κ : Option zA → zM → Prop} {m : zM} {p : Nat} {pl : Int} {w : Int} 
    (o1 : (0 ≤ wr (p : Int) ∧ wr (p : Int) < 6))
    (o2 : T (D + 2) 214 (0, [(0, zr 74), (1, zi (p : Int)), (2, zi (m 78 ((wr (p : Int)).toNat))), (3, zi pl), (4, zi w)], [], m) (fun r m1 => T (D + 3) 215 (13, [(0, zr 74), (1, zi (p : Int)), (2, zi pl), (3, zi w)], r.toList ++ [], m1) κ)) :
    T (D + 3) 215 (0, [(0, zr 74), (1, zi (p : Int)), (2, zi pl), (3, zi w)], [], m) κ :=
  hT.1 [] 6 (D + 3) 215 _ κ (And.intro (o1) (hT.1 [] 6 (D + 3) 215 (8, [(0, zr 74), (1, zi (p : Int)), (2, zi pl), (3, zi w)], [zi (m 78 ((wr (p : Int)).toNat)), zi (p : Int), zr 74], m) _ (o2)))
theorem zb215_0 (hT : zRules T) {D : Nat} {κ : Option zA → zM → Prop} {m : zM} {p : Nat} {pl : Int} {w : Int}  (hB : zB m) (h_p : p ≤ 5) 
    (k1 : T (D + 2) 214 (0, [(0, zr 74), (1, zi (p : Int)), (2, zi (m 78 p)), (3, zi pl), (4, zi w)], [], m) (fun r m1 => T (D + 3) 215 (13, [(0, zr 74), (1, zi (p : Int)), (2, zi pl), (3, zi w)], r.toList ++ [], m1) κ)) :
    T (D + 3) 215 (0, [(0, zr 74), (1, zi (p : Int)), (2, zi pl), (3, zi w)], [], m) κ := by
  have hb1 : 0 ≤ (m 78 p) ∧ (m 78 p) ≤ 99 := hB 78 p
  have he0 : wr (p : Int) = (p : Int) := wr_id (by omega) (by omega)
  have he1 : (p : Int).toNat = p := by omega
  have key := @zb215_0r T hT D κ m p pl w
  simp only [he0, he1, Int.toNat_natCast] at key
  exact key
    (by refine ⟨?_, ?_⟩ <;> omega)
    k1
theorem zb215_13r (hT : zRules T) {D : Nat} {κ : Option zA → zM → Prop} {m : zM} {v : Int} {lo : zL} (hlo : z_keep [] lo = []) 
    (o1 : κ (some (zi (wr v))) m) :
    T (D + 3) 215 (13, lo, [zi v], m) κ :=
  zkeep hT hlo (hT.1 [] 6 (D + 3) 215 _ κ (o1))
theorem zb215_13 (hT : zRules T) {D : Nat} {κ : Option zA → zM → Prop} {m : zM} {v : Int} {lo : zL} (hlo : z_keep [] lo = [])  (h_v : 0 ≤ v ∧ v ≤ 99) 
    (k1 : κ (some (zi v)) m) :
    T (D + 3) 215 (13, lo, [zi v], m) κ := by
  have he0 : wr v = v := wr_id (by omega) (by omega)
  have key := @zb215_13r T hT D κ m v lo hlo
  simp only [he0, Int.toNat_natCast] at key
  exact key
    k1
theorem zb216_0r (hT : zRules T) {D : Nat} {κ : Option zA → zM → Prop} {m : zM} {p : Nat} {d : Int} 
    (o1 : (0 ≤ wr (p : Int) ∧ wr (p : Int) < 59))
    (o2 : T (D + 3) 215 (0, [(0, zr 74), (1, zi (p : Int)), (2, zi (m 75 ((wr (p : Int)).toNat))), (3, zi ((m 75 57) + d))], [], m) (fun r m1 => T (D + 4) 216 (20, [(0, zr 74), (1, zi (p : Int)), (2, zi d)], r.toList ++ [], m1) κ)) :
    T (D + 4) 216 (0, [(0, zr 74), (1, zi (p : Int)), (2, zi d)], [], m) κ :=
  hT.1 [] 6 (D + 4) 216 _ κ (And.intro (o1) (hT.1 [] 6 (D + 4) 216 (8, [(0, zr 74), (1, zi (p : Int)), (2, zi d)], [zi (m 75 ((wr (p : Int)).toNat)), zi (p : Int), zr 74], m) _ (And.intro (z_ixL rfl) (hT.1 [] 6 (D + 4) 216 (17, [(0, zr 74), (1, zi (p : Int)), (2, zi d)], [zi ((m 75 57) + d), zi (m 75 ((wr (p : Int)).toNat)), zi (p : Int), zr 74], m) _ (o2)))))
theorem zb216_0 (hT : zRules T) {D : Nat} {κ : Option zA → zM → Prop} {m : zM} {p : Nat} {d : Int}  (hB : zB m) (h_p : p ≤ 5) (h_d : 0 ≤ d ∧ d ≤ 200) 
    (k1 : T (D + 3) 215 (0, [(0, zr 74), (1, zi (p : Int)), (2, zi (m 75 p)), (3, zi ((m 75 57) + d))], [], m) (fun r m1 => T (D + 4) 216 (20, [(0, zr 74), (1, zi (p : Int)), (2, zi d)], r.toList ++ [], m1) κ)) :
    T (D + 4) 216 (0, [(0, zr 74), (1, zi (p : Int)), (2, zi d)], [], m) κ := by
  have hb2 : 0 ≤ (m 75 p) ∧ (m 75 p) ≤ 3 := zSg hB 75 0 6 0 3 rfl p (by omega) (by omega)
  have hb3 : 0 ≤ (m 75 57) ∧ (m 75 57) ≤ 400000 := hB 75 57
  have he0 : wr (p : Int) = (p : Int) := wr_id (by omega) (by omega)
  have he1 : (p : Int).toNat = p := by omega
  have key := @zb216_0r T hT D κ m p d
  simp only [he0, he1, Int.toNat_natCast] at key
  exact key
    (by refine ⟨?_, ?_⟩ <;> omega)
    k1
theorem zb216_20r (hT : zRules T) {D : Nat} {κ : Option zA → zM → Prop} {m : zM} {v : Int} {lo : zL} (hlo : z_keep [] lo = []) 
    (o1 : κ (some (zi (wr v))) m) :
    T (D + 4) 216 (20, lo, [zi v], m) κ :=
  zkeep hT hlo (hT.1 [] 6 (D + 4) 216 _ κ (o1))
theorem zb216_20 (hT : zRules T) {D : Nat} {κ : Option zA → zM → Prop} {m : zM} {v : Int} {lo : zL} (hlo : z_keep [] lo = [])  (h_v : 0 ≤ v ∧ v ≤ 99) 
    (k1 : κ (some (zi v)) m) :
    T (D + 4) 216 (20, lo, [zi v], m) κ := by
  have he0 : wr v = v := wr_id (by omega) (by omega)
  have key := @zb216_20r T hT D κ m v lo hlo
  simp only [he0, Int.toNat_natCast] at key
  exact key
    k1
theorem zb175_0r (hT : zRules T) {D : Nat} {κ : Option zA → zM → Prop} {m : zM} {t : Nat} 
    (o1 : T (D + 5) 175 (2, [(0, zr 1), (1, zi (t : Int)), (2, zi 0)], [], m) κ) :
    T (D + 5) 175 (0, [(0, zr 1), (1, zi (t : Int))], [], m) κ :=
  hT.1 [(2, [0, 1, 2]), (9, [0, 1, 2, 3])] 6 (D + 5) 175 _ κ (o1)
theorem zb175_0 (hT : zRules T) {D : Nat} {κ : Option zA → zM → Prop} {m : zM} {t : Nat}  (h_t : t ≤ 60) 
    (k1 : T (D + 5) 175 (2, [(0, zr 1), (1, zi (t : Int)), (2, zi 0)], [], m) κ) :
    T (D + 5) 175 (0, [(0, zr 1), (1, zi (t : Int))], [], m) κ := by
  exact zb175_0r hT
    k1
theorem zb175_2r (hT : zRules T) {D : Nat} {κ : Option zA → zM → Prop} {m : zM} {t : Nat} {k : Nat} {lo : zL} (hlo : z_keep [0, 1, 2] lo = [(0, zr 1), (1, zi (t : Int)), (2, zi (k : Int))]) 
    (o1 : ¬ wr (k : Int) < wr (t : Int) → κ (none) m)
    (o2 : wr (k : Int) < wr (t : Int) → T (D + 5) 175 (9, [(0, zr 1), (1, zi (t : Int)), (2, zi (k : Int)), (3, zi 0)], [], m) κ) :
    T (D + 5) 175 (2, lo, [], m) κ :=
  zkeep hT hlo (hT.1 [(2, [0, 1, 2]), (9, [0, 1, 2, 3])] 6 (D + 5) 175 _ κ (And.intro (fun a1 => (o1 a1)) (fun a2 => (o2 (Classical.byContradiction a2)))))
theorem zb175_2 (hT : zRules T) {D : Nat} {κ : Option zA → zM → Prop} {m : zM} {t : Nat} {k : Nat} {lo : zL} (hlo : z_keep [0, 1, 2] lo = [(0, zr 1), (1, zi (t : Int)), (2, zi (k : Int))])  (h_t : t ≤ 60) (h_k : k ≤ 60) 
    (k1 : ¬ (k : Int) < (t : Int) → κ (none) m)
    (k2 : (k : Int) < (t : Int) → T (D + 5) 175 (9, [(0, zr 1), (1, zi (t : Int)), (2, zi (k : Int)), (3, zi 0)], [], m) κ) :
    T (D + 5) 175 (2, lo, [], m) κ := by
  have he0 : wr (k : Int) = (k : Int) := wr_id (by omega) (by omega)
  have he1 : wr (t : Int) = (t : Int) := wr_id (by omega) (by omega)
  have key := @zb175_2r T hT D κ m t k lo hlo
  simp only [he0, he1, Int.toNat_natCast] at key
  exact key
    k1
    k2
theorem zb175_9r (hT : zRules T) {D : Nat} {κ : Option zA → zM → Prop} {m : zM} {t : Nat} {k : Nat} {p : Nat} {lo : zL} (hlo : z_keep [0, 1, 2, 3] lo = [(0, zr 1), (1, zi (t : Int)), (2, zi (k : Int)), (3, zi (p : Int))]) 
    (o1 : ¬ wr (p : Int) < wr (m 17 0) → T (D + 5) 175 (2, [(0, zr 1), (1, zi (t : Int)), (2, zi ((k : Int) + 1))], [], (zu m 17 11 ((m 17 11) + 1))) κ)
    (o2 : wr (p : Int) < wr (m 17 0) → (0 ≤ wr (p : Int) ∧ wr (p : Int) < 6))
    (o3 : wr (p : Int) < wr (m 17 0) → wr (m 20 ((wr (p : Int)).toNat)) < 0 → T (D + 5) 175 (9, [(0, zr 1), (1, zi (t : Int)), (2, zi (k : Int)), (3, zi ((p : Int) + 1))], [], m) κ)
    (o4 : wr (p : Int) < wr (m 17 0) → ¬ wr (m 20 ((wr (p : Int)).toNat)) < 0 → ¬ wr (m 20 ((wr (p : Int)).toNat)) < wr (m 17 1) → T (D + 5) 175 (9, [(0, zr 1), (1, zi (t : Int)), (2, zi (k : Int)), (3, zi ((p : Int) + 1))], [], m) κ)
    (o5 : wr (p : Int) < wr (m 17 0) → ¬ wr (m 20 ((wr (p : Int)).toNat)) < 0 → wr (m 20 ((wr (p : Int)).toNat)) < wr (m 17 1) → (0 ≤ wr (p : Int) ∧ wr (p : Int) < 6))
    (o6 : wr (p : Int) < wr (m 17 0) → ¬ wr (m 20 ((wr (p : Int)).toNat)) < 0 → wr (m 20 ((wr (p : Int)).toNat)) < wr (m 17 1) → T (D + 4) 171 (0, [(0, zr 1), (1, zi (p : Int))], [], m) (fun r m1 => T (D + 5) 175 (57, [(0, zr 1), (1, zi (t : Int)), (2, zi (k : Int)), (3, zi (p : Int))], r.toList ++ [zi (m 20 ((wr (p : Int)).toNat)), zr 17], m1) κ)) :
    T (D + 5) 175 (9, lo, [], m) κ :=
  zkeep hT hlo (hT.1 [(2, [0, 1, 2]), (9, [0, 1, 2, 3])] 6 (D + 5) 175 _ κ (And.intro (fun a1 => (hT.1 [(2, [0, 1, 2]), (9, [0, 1, 2, 3])] 6 (D + 5) 175 (67, [(0, zr 1), (1, zi (t : Int)), (2, zi (k : Int)), (3, zi (p : Int))], [zr 1], m) _ (And.intro trivial (hT.1 [(2, [0, 1, 2]), (9, [0, 1, 2, 3])] 6 (D + 5) 175 (79, [(0, zr 1), (1, zi (t : Int)), (2, zi (k : Int)), (3, zi (p : Int))], [], (zu m 17 11 ((m 17 11) + 1))) _ (o1 a1))))) (fun a2 => (hT.1 [(2, [0, 1, 2]), (9, [0, 1, 2, 3])] 6 (D + 5) 175 (21, [(0, zr 1), (1, zi (t : Int)), (2, zi (k : Int)), (3, zi (p : Int))], [zr 1], m) _ (And.intro (o2 (Classical.byContradiction a2)) (hT.1 [(2, [0, 1, 2]), (9, [0, 1, 2, 3])] 6 (D + 5) 175 (33, [(0, zr 1), (1, zi (t : Int)), (2, zi (k : Int)), (3, zi (p : Int))], [zi (m 20 ((wr (p : Int)).toNat)), zr 17], m) _ (hT.1 [] 6 (D + 4) 26 _ _ (And.intro (fun a3 => (And.intro (z_b01L rfl) (hT.1 [(2, [0, 1, 2]), (9, [0, 1, 2, 3])] 6 (D + 5) 175 _ _ (And.intro (fun _ => (o3 (Classical.byContradiction a2) a3)) (fun a5 => (a5 (z_litT rfl)).elim))))) (fun a4 => (And.intro (fun a6 => (hT.1 [] 6 (D + 4) 26 (16, [(0, zr 17), (1, zi (m 20 ((wr (p : Int)).toNat)))], [], m) _ (And.intro (z_b01L rfl) (hT.1 [(2, [0, 1, 2]), (9, [0, 1, 2, 3])] 6 (D + 5) 175 _ _ (And.intro (fun _ => (o4 (Classical.byContradiction a2) a4 a6)) (fun a8 => (a8 (z_litT rfl)).elim)))))) (fun a7 => (hT.1 [] 6 (D + 4) 26 (12, [(0, zr 17), (1, zi (m 20 ((wr (p : Int)).toNat)))], [], m) _ (And.intro (z_b01L rfl) (hT.1 [(2, [0, 1, 2]), (9, [0, 1, 2, 3])] 6 (D + 5) 175 _ _ (And.intro (fun a9 => (z_litF a9 rfl).elim) (fun _ => (hT.1 [(2, [0, 1, 2]), (9, [0, 1, 2, 3])] 6 (D + 5) 175 (50, [(0, zr 1), (1, zi (t : Int)), (2, zi (k : Int)), (3, zi (p : Int))], [zr 20, zr 17], m) _ (And.intro (o5 (Classical.byContradiction a2) a4 (Classical.byContradiction a7)) (o6 (Classical.byContradiction a2) a4 (Classical.byContradiction a7))))))))))))))))))))
theorem zb175_9 (hT : zRules T) {D : Nat} {κ : Option zA → zM → Prop} {m : zM} {t : Nat} {k : Nat} {p : Nat} {lo : zL} (hlo : z_keep [0, 1, 2, 3] lo = [(0, zr 1), (1, zi (t : Int)), (2, zi (k : Int)), (3, zi (p : Int))])  (hB : zB m) (h_t : t ≤ 60) (h_k : k ≤ 60) (h_p : p ≤ 6) 
    (k1 : ¬ (p : Int) < (m 17 0) → T (D + 5) 175 (2, [(0, zr 1), (1, zi (t : Int)), (2, zi ((k : Int) + 1))], [], (zu m 17 11 ((m 17 11) + 1))) κ)
    (k2 : (p : Int) < (m 17 0) → (m 20 p) < 0 → T (D + 5) 175 (9, [(0, zr 1), (1, zi (t : Int)), (2, zi (k : Int)), (3, zi ((p : Int) + 1))], [], m) κ)
    (k3 : (p : Int) < (m 17 0) → ¬ (m 20 p) < 0 → ¬ (m 20 p) < (m 17 1) → T (D + 5) 175 (9, [(0, zr 1), (1, zi (t : Int)), (2, zi (k : Int)), (3, zi ((p : Int) + 1))], [], m) κ)
    (k4 : (p : Int) < (m 17 0) → ¬ (m 20 p) < 0 → (m 20 p) < (m 17 1) → T (D + 4) 171 (0, [(0, zr 1), (1, zi (p : Int))], [], m) (fun r m1 => T (D + 5) 175 (57, [(0, zr 1), (1, zi (t : Int)), (2, zi (k : Int)), (3, zi (p : Int))], r.toList ++ [zi (m 20 p), zr 17], m1) κ)) :
    T (D + 5) 175 (9, lo, [], m) κ := by
  have hb3 : 0 ≤ (m 17 0) ∧ (m 17 0) ≤ 6 := hB 17 0
  have hb4 : (-1) ≤ (m 20 p) ∧ (m 20 p) ≤ 7 := hB 20 p
  have hb5 : 0 ≤ (m 17 1) ∧ (m 17 1) ≤ 8 := hB 17 1
  have hb6 : 0 ≤ (m 17 11) ∧ (m 17 11) ≤ 400000 := hB 17 11
  have he0 : wr (p : Int) = (p : Int) := wr_id (by omega) (by omega)
  have he1 : wr (m 17 0) = (m 17 0) := wr_id (by omega) (by omega)
  have he2 : (p : Int).toNat = p := by omega
  have he3 : wr (m 20 p) = (m 20 p) := wr_id (by omega) (by omega)
  have he4 : wr (m 17 1) = (m 17 1) := wr_id (by omega) (by omega)
  have key := @zb175_9r T hT D κ m t k p lo hlo
  simp only [he0, he1, he2, he3, he4, Int.toNat_natCast] at key
  exact key
    k1
    (fun x0 => by refine ⟨?_, ?_⟩ <;> omega)
    k2
    k3
    (fun x0 x1 x2 => by refine ⟨?_, ?_⟩ <;> omega)
    k4
theorem zb175_57r (hT : zRules T) {D : Nat} {κ : Option zA → zM → Prop} {m : zM} {t : Nat} {k : Nat} {p : Nat} {v : Int} {c : Nat} {lo : zL} (hlo : z_keep [0, 1, 2, 3] lo = [(0, zr 1), (1, zi (t : Int)), (2, zi (k : Int)), (3, zi (p : Int))]) 
    (o1 : T (D + 4) 38 (0, [(0, zr 17), (1, zi (c : Int)), (2, zi v)], [], m) (fun r m1 => T (D + 5) 175 (60, [(0, zr 1), (1, zi (t : Int)), (2, zi (k : Int)), (3, zi (p : Int))], r.toList ++ [], m1) κ)) :
    T (D + 5) 175 (57, lo, [zi v, zi (c : Int), zr 17], m) κ :=
  zkeep hT hlo (hT.1 [(2, [0, 1, 2]), (9, [0, 1, 2, 3])] 6 (D + 5) 175 _ κ (o1))
theorem zb175_57 (hT : zRules T) {D : Nat} {κ : Option zA → zM → Prop} {m : zM} {t : Nat} {k : Nat} {p : Nat} {v : Int} {c : Nat} {lo : zL} (hlo : z_keep [0, 1, 2, 3] lo = [(0, zr 1), (1, zi (t : Int)), (2, zi (k : Int)), (3, zi (p : Int))])  (h_t : t ≤ 60) (h_k : k ≤ 60) (h_p : p ≤ 5) (h_v : 0 ≤ v ∧ v ≤ 99) (h_c : c ≤ 7) 
    (k1 : T (D + 4) 38 (0, [(0, zr 17), (1, zi (c : Int)), (2, zi v)], [], m) (fun r m1 => T (D + 5) 175 (60, [(0, zr 1), (1, zi (t : Int)), (2, zi (k : Int)), (3, zi (p : Int))], r.toList ++ [], m1) κ)) :
    T (D + 5) 175 (57, lo, [zi v, zi (c : Int), zr 17], m) κ := by
  exact zb175_57r hT hlo
    k1
theorem zb175_60r (hT : zRules T) {D : Nat} {κ : Option zA → zM → Prop} {m : zM} {t : Nat} {k : Nat} {p : Nat} {lo : zL} (hlo : z_keep [0, 1, 2, 3] lo = [(0, zr 1), (1, zi (t : Int)), (2, zi (k : Int)), (3, zi (p : Int))]) 
    (o1 : T (D + 5) 175 (9, [(0, zr 1), (1, zi (t : Int)), (2, zi (k : Int)), (3, zi ((p : Int) + 1))], [], m) κ) :
    T (D + 5) 175 (60, lo, [], m) κ :=
  zkeep hT hlo (hT.1 [(2, [0, 1, 2]), (9, [0, 1, 2, 3])] 6 (D + 5) 175 _ κ (o1))
theorem zb175_60 (hT : zRules T) {D : Nat} {κ : Option zA → zM → Prop} {m : zM} {t : Nat} {k : Nat} {p : Nat} {lo : zL} (hlo : z_keep [0, 1, 2, 3] lo = [(0, zr 1), (1, zi (t : Int)), (2, zi (k : Int)), (3, zi (p : Int))])  (h_t : t ≤ 60) (h_k : k ≤ 60) (h_p : p ≤ 5) 
    (k1 : T (D + 5) 175 (9, [(0, zr 1), (1, zi (t : Int)), (2, zi (k : Int)), (3, zi ((p : Int) + 1))], [], m) κ) :
    T (D + 5) 175 (60, lo, [], m) κ := by
  exact zb175_60r hT hlo
    k1
theorem zb235_0_75r (hT : zRules T) {D : Nat} {κ : Option zA → zM → Prop} {m : zM} 
    (o1 : T (D + 4) 235 (2, [(0, zr 74), (1, zr 75), (2, zi 0)], [], m) κ) :
    T (D + 4) 235 (0, [(0, zr 74), (1, zr 75)], [], m) κ :=
  hT.1 [(2, [0, 1, 2])] 6 (D + 4) 235 _ κ (o1)
theorem zb235_0_75 (hT : zRules T) {D : Nat} {κ : Option zA → zM → Prop} {m : zM}  
    (k1 : T (D + 4) 235 (2, [(0, zr 74), (1, zr 75), (2, zi 0)], [], m) κ) :
    T (D + 4) 235 (0, [(0, zr 74), (1, zr 75)], [], m) κ := by
  exact zb235_0_75r hT
    k1
theorem zb235_2_75r (hT : zRules T) {D : Nat} {κ : Option zA → zM → Prop} {m : zM} {p : Nat} {lo : zL} (hlo : z_keep [0, 1, 2] lo = [(0, zr 74), (1, zr 75), (2, zi (p : Int))]) 
    (o1 : ¬ wr (p : Int) < wr (m 74 4) → κ (none) (zu m 75 57 ((m 75 57) + 1)))
    (o2 : wr (p : Int) < wr (m 74 4) → (0 ≤ wr (6 + (p : Int)) ∧ wr (6 + (p : Int)) < 59))
    (o3 : wr (p : Int) < wr (m 74 4) → wr (m 75 ((wr (6 + (p : Int))).toNat)) = (-1) → T (D + 4) 235 (2, [(0, zr 74), (1, zr 75), (2, zi ((p : Int) + 1))], [], m) κ)
    (o4 : wr (p : Int) < wr (m 74 4) → ¬ wr (m 75 ((wr (6 + (p : Int))).toNat)) = (-1) → (0 ≤ wr (6 + (p : Int)) ∧ wr (6 + (p : Int)) < 59))
    (o5 : wr (p : Int) < wr (m 74 4) → ¬ wr (m 75 ((wr (6 + (p : Int))).toNat)) = (-1) → (0 ≤ wr (p : Int) ∧ wr (p : Int) < 59))
    (o6 : wr (p : Int) < wr (m 74 4) → ¬ wr (m 75 ((wr (6 + (p : Int))).toNat)) = (-1) → T (D + 3) 215 (0, [(0, zr 74), (1, zi (p : Int)), (2, zi (m 75 ((wr (p : Int)).toNat))), (3, zi (m 75 57))], [], m) (fun r m1 => T (D + 4) 235 (40, [(0, zr 74), (1, zr 75), (2, zi (p : Int))], r.toList ++ [zi (m 75 ((wr (6 + (p : Int))).toNat)), zr 75, zr 74], m1) κ)) :
    T (D + 4) 235 (2, lo, [], m) κ :=
  zkeep hT hlo (hT.1 [(2, [0, 1, 2])] 6 (D + 4) 235 _ κ (And.intro (fun a1 => (hT.1 [(2, [0, 1, 2])] 6 (D + 4) 235 (52, [(0, zr 74), (1, zr 75), (2, zi (p : Int))], [zi 57, zr 75], m) _ (And.intro (z_ixL rfl) (And.intro (And.intro (z_ixL rfl) trivial) (o1 a1))))) (fun a2 => (hT.1 [(2, [0, 1, 2])] 6 (D + 4) 235 (13, [(0, zr 74), (1, zr 75), (2, zi (p : Int))], [zi 6, zr 75], m) _ (And.intro (o2 (Classical.byContradiction a2)) (And.intro (fun a3 => (hT.1 [(2, [0, 1, 2])] 6 (D + 4) 235 (46, [(0, zr 74), (1, zr 75), (2, zi ((p : Int) + 1))], [], m) _ (o3 (Classical.byContradiction a2) a3))) (fun a4 => (hT.1 [(2, [0, 1, 2])] 6 (D + 4) 235 (21, [(0, zr 74), (1, zr 75), (2, zi (p : Int))], [zr 74], m) _ (And.intro (o4 (Classical.byContradiction a2) a4) (hT.1 [(2, [0, 1, 2])] 6 (D + 4) 235 (28, [(0, zr 74), (1, zr 75), (2, zi (p : Int))], [zi (m 75 ((wr (6 + (p : Int))).toNat)), zr 75, zr 74], m) _ (And.intro (o5 (Classical.byContradiction a2) a4) (hT.1 [(2, [0, 1, 2])] 6 (D + 4) 235 (34, [(0, zr 74), (1, zr 75), (2, zi (p : Int))], [zr 75, zi (m 75 ((wr (p : Int)).toNat)), zi (p : Int), zr 74, zi (m 75 ((wr (6 + (p : Int))).toNat)), zr 75, zr 74], m) _ (And.intro (z_ixL rfl) (o6 (Classical.byContradiction a2) a4))))))))))))))
theorem zb235_2_75 (hT : zRules T) {D : Nat} {κ : Option zA → zM → Prop} {m : zM} {p : Nat} {lo : zL} (hlo : z_keep [0, 1, 2] lo = [(0, zr 74), (1, zr 75), (2, zi (p : Int))])  (hB : zB m) (h_p : p ≤ 6) 
    (k1 : ¬ (p : Int) < (m 74 4) → κ (none) (zu m 75 57 ((m 75 57) + 1)))
    (k2 : (p : Int) < (m 74 4) → (m 75 (p + 6)) = (-1) → T (D + 4) 235 (2, [(0, zr 74), (1, zr 75), (2, zi ((p : Int) + 1))], [], m) κ)
    (k3 : (p : Int) < (m 74 4) → ¬ (m 75 (p + 6)) = (-1) → T (D + 3) 215 (0, [(0, zr 74), (1, zi (p : Int)), (2, zi (m 75 p)), (3, zi (m 75 57))], [], m) (fun r m1 => T (D + 4) 235 (40, [(0, zr 74), (1, zr 75), (2, zi (p : Int))], r.toList ++ [zi (m 75 (p + 6)), zr 75, zr 74], m1) κ)) :
    T (D + 4) 235 (2, lo, [], m) κ := by
  have hb1 : 0 ≤ (m 74 4) ∧ (m 74 4) ≤ 6 := hB 74 4
  have hb2 : (-1) ≤ (m 75 (p + 6)) ∧ (m 75 (p + 6)) ≤ 99 := zSg hB 75 6 20 (-1) 99 rfl (p + 6) (by omega) (by omega)
  have hb3 : (-1) ≤ (m 75 p) ∧ (m 75 p) ≤ 7 := zSg hB 75 0 12 (-1) 7 rfl p (by omega) (by omega)
  have hb4 : 0 ≤ (m 75 57) ∧ (m 75 57) ≤ 400000 := hB 75 57
  have he0 : wr (p : Int) = (p : Int) := wr_id (by omega) (by omega)
  have he1 : wr (m 74 4) = (m 74 4) := wr_id (by omega) (by omega)
  have he2 : wr (6 + (p : Int)) = (6 + (p : Int)) := wr_id (by omega) (by omega)
  have he3 : (6 + (p : Int)).toNat = p + 6 := by omega
  have he4 : wr (m 75 (p + 6)) = (m 75 (p + 6)) := wr_id (by omega) (by omega)
  have he5 : (p : Int).toNat = p := by omega
  have key := @zb235_2_75r T hT D κ m p lo hlo
  simp only [he0, he1, he2, he3, he4, he5, Int.toNat_natCast] at key
  exact key
    k1
    (fun x0 => by refine ⟨?_, ?_⟩ <;> omega)
    k2
    (fun x0 x1 => by refine ⟨?_, ?_⟩ <;> omega)
    (fun x0 x1 => by refine ⟨?_, ?_⟩ <;> omega)
    k3
theorem zb235_40_75r (hT : zRules T) {D : Nat} {κ : Option zA → zM → Prop} {m : zM} {p : Nat} {v : Int} {c : Nat} {lo : zL} (hlo : z_keep [0, 1, 2] lo = [(0, zr 74), (1, zr 75), (2, zi (p : Int))]) 
    (o1 : T (D + 3) 226 (0, [(0, zr 74), (1, zr 75), (2, zi (c : Int)), (3, zi v)], [], m) (fun r m1 => T (D + 4) 235 (43, [(0, zr 74), (1, zr 75), (2, zi (p : Int))], r.toList ++ [], m1) κ)) :
    T (D + 4) 235 (40, lo, [zi v, zi (c : Int), zr 75, zr 74], m) κ :=
  zkeep hT hlo (hT.1 [(2, [0, 1, 2])] 6 (D + 4) 235 _ κ (o1))
theorem zb235_40_75 (hT : zRules T) {D : Nat} {κ : Option zA → zM → Prop} {m : zM} {p : Nat} {v : Int} {c : Nat} {lo : zL} (hlo : z_keep [0, 1, 2] lo = [(0, zr 74), (1, zr 75), (2, zi (p : Int))])  (h_p : p ≤ 5) (h_v : 0 ≤ v ∧ v ≤ 99) (h_c : c ≤ 7) 
    (k1 : T (D + 3) 226 (0, [(0, zr 74), (1, zr 75), (2, zi (c : Int)), (3, zi v)], [], m) (fun r m1 => T (D + 4) 235 (43, [(0, zr 74), (1, zr 75), (2, zi (p : Int))], r.toList ++ [], m1) κ)) :
    T (D + 4) 235 (40, lo, [zi v, zi (c : Int), zr 75, zr 74], m) κ := by
  exact zb235_40_75r hT hlo
    k1
theorem zb235_43_75r (hT : zRules T) {D : Nat} {κ : Option zA → zM → Prop} {m : zM} {p : Nat} {lo : zL} (hlo : z_keep [0, 1, 2] lo = [(0, zr 74), (1, zr 75), (2, zi (p : Int))]) 
    (o1 : T (D + 4) 235 (2, [(0, zr 74), (1, zr 75), (2, zi ((p : Int) + 1))], [], m) κ) :
    T (D + 4) 235 (43, lo, [], m) κ :=
  zkeep hT hlo (hT.1 [(2, [0, 1, 2])] 6 (D + 4) 235 _ κ (o1))
theorem zb235_43_75 (hT : zRules T) {D : Nat} {κ : Option zA → zM → Prop} {m : zM} {p : Nat} {lo : zL} (hlo : z_keep [0, 1, 2] lo = [(0, zr 74), (1, zr 75), (2, zi (p : Int))])  (h_p : p ≤ 5) 
    (k1 : T (D + 4) 235 (2, [(0, zr 74), (1, zr 75), (2, zi ((p : Int) + 1))], [], m) κ) :
    T (D + 4) 235 (43, lo, [], m) κ := by
  exact zb235_43_75r hT hlo
    k1
theorem zb235_0_91r (hT : zRules T) {D : Nat} {κ : Option zA → zM → Prop} {m : zM} 
    (o1 : T (D + 4) 235 (2, [(0, zr 74), (1, zr 91), (2, zi 0)], [], m) κ) :
    T (D + 4) 235 (0, [(0, zr 74), (1, zr 91)], [], m) κ :=
  hT.1 [(2, [0, 1, 2])] 6 (D + 4) 235 _ κ (o1)
theorem zb235_0_91 (hT : zRules T) {D : Nat} {κ : Option zA → zM → Prop} {m : zM}  
    (k1 : T (D + 4) 235 (2, [(0, zr 74), (1, zr 91), (2, zi 0)], [], m) κ) :
    T (D + 4) 235 (0, [(0, zr 74), (1, zr 91)], [], m) κ := by
  exact zb235_0_91r hT
    k1
theorem zb235_2_91r (hT : zRules T) {D : Nat} {κ : Option zA → zM → Prop} {m : zM} {p : Nat} {lo : zL} (hlo : z_keep [0, 1, 2] lo = [(0, zr 74), (1, zr 91), (2, zi (p : Int))]) 
    (o1 : ¬ wr (p : Int) < wr (m 74 4) → κ (none) (zu m 91 57 ((m 91 57) + 1)))
    (o2 : wr (p : Int) < wr (m 74 4) → (0 ≤ wr (6 + (p : Int)) ∧ wr (6 + (p : Int)) < 59))
    (o3 : wr (p : Int) < wr (m 74 4) → wr (m 91 ((wr (6 + (p : Int))).toNat)) = (-1) → T (D + 4) 235 (2, [(0, zr 74), (1, zr 91), (2, zi ((p : Int) + 1))], [], m) κ)
    (o4 : wr (p : Int) < wr (m 74 4) → ¬ wr (m 91 ((wr (6 + (p : Int))).toNat)) = (-1) → (0 ≤ wr (6 + (p : Int)) ∧ wr (6 + (p : Int)) < 59))
    (o5 : wr (p : Int) < wr (m 74 4) → ¬ wr (m 91 ((wr (6 + (p : Int))).toNat)) = (-1) → (0 ≤ wr (p : Int) ∧ wr (p : Int) < 59))
    (o6 : wr (p : Int) < wr (m 74 4) → ¬ wr (m 91 ((wr (6 + (p : Int))).toNat)) = (-1) → T (D + 3) 215 (0, [(0, zr 74), (1, zi (p : Int)), (2, zi (m 91 ((wr (p : Int)).toNat))), (3, zi (m 91 57))], [], m) (fun r m1 => T (D + 4) 235 (40, [(0, zr 74), (1, zr 91), (2, zi (p : Int))], r.toList ++ [zi (m 91 ((wr (6 + (p : Int))).toNat)), zr 91, zr 74], m1) κ)) :
    T (D + 4) 235 (2, lo, [], m) κ :=
  zkeep hT hlo (hT.1 [(2, [0, 1, 2])] 6 (D + 4) 235 _ κ (And.intro (fun a1 => (hT.1 [(2, [0, 1, 2])] 6 (D + 4) 235 (52, [(0, zr 74), (1, zr 91), (2, zi (p : Int))], [zi 57, zr 91], m) _ (And.intro (z_ixL rfl) (And.intro (And.intro (z_ixL rfl) trivial) (o1 a1))))) (fun a2 => (hT.1 [(2, [0, 1, 2])] 6 (D + 4) 235 (13, [(0, zr 74), (1, zr 91), (2, zi (p : Int))], [zi 6, zr 91], m) _ (And.intro (o2 (Classical.byContradiction a2)) (And.intro (fun a3 => (hT.1 [(2, [0, 1, 2])] 6 (D + 4) 235 (46, [(0, zr 74), (1, zr 91), (2, zi ((p : Int) + 1))], [], m) _ (o3 (Classical.byContradiction a2) a3))) (fun a4 => (hT.1 [(2, [0, 1, 2])] 6 (D + 4) 235 (21, [(0, zr 74), (1, zr 91), (2, zi (p : Int))], [zr 74], m) _ (And.intro (o4 (Classical.byContradiction a2) a4) (hT.1 [(2, [0, 1, 2])] 6 (D + 4) 235 (28, [(0, zr 74), (1, zr 91), (2, zi (p : Int))], [zi (m 91 ((wr (6 + (p : Int))).toNat)), zr 91, zr 74], m) _ (And.intro (o5 (Classical.byContradiction a2) a4) (hT.1 [(2, [0, 1, 2])] 6 (D + 4) 235 (34, [(0, zr 74), (1, zr 91), (2, zi (p : Int))], [zr 91, zi (m 91 ((wr (p : Int)).toNat)), zi (p : Int), zr 74, zi (m 91 ((wr (6 + (p : Int))).toNat)), zr 91, zr 74], m) _ (And.intro (z_ixL rfl) (o6 (Classical.byContradiction a2) a4))))))))))))))
theorem zb235_2_91 (hT : zRules T) {D : Nat} {κ : Option zA → zM → Prop} {m : zM} {p : Nat} {lo : zL} (hlo : z_keep [0, 1, 2] lo = [(0, zr 74), (1, zr 91), (2, zi (p : Int))])  (hB : zB m) (h_p : p ≤ 6) 
    (k1 : ¬ (p : Int) < (m 74 4) → κ (none) (zu m 91 57 ((m 91 57) + 1)))
    (k2 : (p : Int) < (m 74 4) → (m 91 (p + 6)) = (-1) → T (D + 4) 235 (2, [(0, zr 74), (1, zr 91), (2, zi ((p : Int) + 1))], [], m) κ)
    (k3 : (p : Int) < (m 74 4) → ¬ (m 91 (p + 6)) = (-1) → T (D + 3) 215 (0, [(0, zr 74), (1, zi (p : Int)), (2, zi (m 91 p)), (3, zi (m 91 57))], [], m) (fun r m1 => T (D + 4) 235 (40, [(0, zr 74), (1, zr 91), (2, zi (p : Int))], r.toList ++ [zi (m 91 (p + 6)), zr 91, zr 74], m1) κ)) :
    T (D + 4) 235 (2, lo, [], m) κ := by
  have hb1 : 0 ≤ (m 74 4) ∧ (m 74 4) ≤ 6 := hB 74 4
  have hb2 : (-1) ≤ (m 91 (p + 6)) ∧ (m 91 (p + 6)) ≤ 99 := zSg hB 91 6 20 (-1) 99 rfl (p + 6) (by omega) (by omega)
  have hb3 : (-1) ≤ (m 91 p) ∧ (m 91 p) ≤ 7 := zSg hB 91 0 12 (-1) 7 rfl p (by omega) (by omega)
  have hb4 : 0 ≤ (m 91 57) ∧ (m 91 57) ≤ 400000 := hB 91 57
  have he0 : wr (p : Int) = (p : Int) := wr_id (by omega) (by omega)
  have he1 : wr (m 74 4) = (m 74 4) := wr_id (by omega) (by omega)
  have he2 : wr (6 + (p : Int)) = (6 + (p : Int)) := wr_id (by omega) (by omega)
  have he3 : (6 + (p : Int)).toNat = p + 6 := by omega
  have he4 : wr (m 91 (p + 6)) = (m 91 (p + 6)) := wr_id (by omega) (by omega)
  have he5 : (p : Int).toNat = p := by omega
  have key := @zb235_2_91r T hT D κ m p lo hlo
  simp only [he0, he1, he2, he3, he4, he5, Int.toNat_natCast] at key
  exact key
    k1
    (fun x0 => by refine ⟨?_, ?_⟩ <;> omega)
    k2
    (fun x0 x1 => by refine ⟨?_, ?_⟩ <;> omega)
    (fun x0 x1 => by refine ⟨?_, ?_⟩ <;> omega)
    k3
theorem zb235_40_91r (hT : zRules T) {D : Nat} {κ : Option zA → zM → Prop} {m : zM} {p : Nat} {v : Int} {c : Nat} {lo : zL} (hlo : z_keep [0, 1, 2] lo = [(0, zr 74), (1, zr 91), (2, zi (p : Int))]) 
    (o1 : T (D + 3) 226 (0, [(0, zr 74), (1, zr 91), (2, zi (c : Int)), (3, zi v)], [], m) (fun r m1 => T (D + 4) 235 (43, [(0, zr 74), (1, zr 91), (2, zi (p : Int))], r.toList ++ [], m1) κ)) :
    T (D + 4) 235 (40, lo, [zi v, zi (c : Int), zr 91, zr 74], m) κ :=
  zkeep hT hlo (hT.1 [(2, [0, 1, 2])] 6 (D + 4) 235 _ κ (o1))
theorem zb235_40_91 (hT : zRules T) {D : Nat} {κ : Option zA → zM → Prop} {m : zM} {p : Nat} {v : Int} {c : Nat} {lo : zL} (hlo : z_keep [0, 1, 2] lo = [(0, zr 74), (1, zr 91), (2, zi (p : Int))])  (h_p : p ≤ 5) (h_v : 0 ≤ v ∧ v ≤ 99) (h_c : c ≤ 7) 
    (k1 : T (D + 3) 226 (0, [(0, zr 74), (1, zr 91), (2, zi (c : Int)), (3, zi v)], [], m) (fun r m1 => T (D + 4) 235 (43, [(0, zr 74), (1, zr 91), (2, zi (p : Int))], r.toList ++ [], m1) κ)) :
    T (D + 4) 235 (40, lo, [zi v, zi (c : Int), zr 91, zr 74], m) κ := by
  exact zb235_40_91r hT hlo
    k1
theorem zb235_43_91r (hT : zRules T) {D : Nat} {κ : Option zA → zM → Prop} {m : zM} {p : Nat} {lo : zL} (hlo : z_keep [0, 1, 2] lo = [(0, zr 74), (1, zr 91), (2, zi (p : Int))]) 
    (o1 : T (D + 4) 235 (2, [(0, zr 74), (1, zr 91), (2, zi ((p : Int) + 1))], [], m) κ) :
    T (D + 4) 235 (43, lo, [], m) κ :=
  zkeep hT hlo (hT.1 [(2, [0, 1, 2])] 6 (D + 4) 235 _ κ (o1))
theorem zb235_43_91 (hT : zRules T) {D : Nat} {κ : Option zA → zM → Prop} {m : zM} {p : Nat} {lo : zL} (hlo : z_keep [0, 1, 2] lo = [(0, zr 74), (1, zr 91), (2, zi (p : Int))])  (h_p : p ≤ 5) 
    (k1 : T (D + 4) 235 (2, [(0, zr 74), (1, zr 91), (2, zi ((p : Int) + 1))], [], m) κ) :
    T (D + 4) 235 (43, lo, [], m) κ := by
  exact zb235_43_91r hT hlo
    k1
end ZBlocks
