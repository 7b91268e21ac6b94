section ZBlocks
variable {T : Nat → Nat → zG → (Option zA → zM → Prop) → Prop}
theorem zb155_0r (hT : zRules T) {D : Nat} {κ : Option zA → zM → Prop} {m : zM} 
    (o1 : T (D + 4) 99 (0, [(0, zr 64)], [], m) (fun r m1 => T (D + 5) 155 (7, [(0, zr 1)], r.toList ++ [], m1) κ)) :
    T (D + 5) 155 (0, [(0, zr 1)], [], m) κ :=
  hT.1 [] 6 (D + 5) 155 _ κ (o1)
theorem zb155_0 (hT : zRules T) {D : Nat} {κ : Option zA → zM → Prop} {m : zM}  (hB : zB m) 
    (k1 : T (D + 4) 99 (0, [(0, zr 64)], [], m) (fun r m1 => T (D + 5) 155 (7, [(0, zr 1)], r.toList ++ [], m1) κ)) :
    T (D + 5) 155 (0, [(0, zr 1)], [], m) κ := by
  exact zb155_0r hT
    k1
theorem zb155_7r (hT : zRules T) {D : Nat} {κ : Option zA → zM → Prop} {m : zM} {v : Int} {lo : zL} (hlo : z_keep [0] lo = [(0, zr 1)]) 
    (o1 : T (D + 4) 48 (0, [(0, zr 72), (1, zr 67), (2, zi (m 64 2))], [], m) (fun r m1 => T (D + 5) 155 (29, [(0, zr 1), (1, zi v)], r.toList ++ [], m1) κ)) :
    T (D + 5) 155 (7, lo, [zi v], m) κ :=
  zkeep hT hlo (hT.1 [] 6 (D + 5) 155 _ κ (hT.1 [] 6 (D + 5) 155 (19, [(0, zr 1), (1, zi v)], [zr 67, zr 72], m) _ (o1)))
theorem zb155_7 (hT : zRules T) {D : Nat} {κ : Option zA → zM → Prop} {m : zM} {v : Int} {lo : zL} (hlo : z_keep [0] lo = [(0, zr 1)])  (hB : zB m) (h_v : (-2147483648) ≤ v ∧ v ≤ 2147483647) 
    (k1 : T (D + 4) 48 (0, [(0, zr 72), (1, zr 67), (2, zi (m 64 2))], [], m) (fun r m1 => T (D + 5) 155 (29, [(0, zr 1), (1, zi v)], r.toList ++ [], m1) κ)) :
    T (D + 5) 155 (7, lo, [zi v], m) κ := by
  have hb1 : 0 ≤ (m 64 2) ∧ (m 64 2) ≤ 7 := hB 64 2
  exact zb155_7r hT hlo
    k1
theorem zb155_29r (hT : zRules T) {D : Nat} {κ : Option zA → zM → Prop} {m : zM} {v : Int} {lo : zL} (hlo : z_keep [1] lo = [(1, zi v)]) 
    (o1 : κ (some (zi (wr v))) m) :
    T (D + 5) 155 (29, lo, [], m) κ :=
  zkeep hT hlo (hT.1 [] 6 (D + 5) 155 _ κ (o1))
theorem zb155_29 (hT : zRules T) {D : Nat} {κ : Option zA → zM → Prop} {m : zM} {v : Int} {lo : zL} (hlo : z_keep [1] lo = [(1, zi v)])  (h_v : (-2147483648) ≤ v ∧ v ≤ 2147483647) 
    (k1 : κ (some (zi v)) m) :
    T (D + 5) 155 (29, lo, [], m) κ := by
  have he0 : wr v = v := wr_id (by omega) (by omega)
  have key := @zb155_29r T hT D κ m v lo hlo
  simp only [he0, Int.toNat_natCast] at key
  exact key
    k1
theorem zb48_0_67r (hT : zRules T) {D : Nat} {κ : Option zA → zM → Prop} {m : zM} {n : Nat} 
    (o1 : 7 < wr (n : Int) → False)
    (o2 : ¬ 7 < wr (n : Int) → 0 < wr (wr (n : Int)) → ((0 : Int) ≤ 0 ∧ (0 : Int) ≤ 0 ∧ (0 : Int) ≤ wr ((zu m 72 1 (wr (wr (n : Int)))) 72 1) ∧ 0 + wr ((zu m 72 1 (wr (wr (n : Int)))) 72 1) ≤ 7 ∧ 0 + wr ((zu m 72 1 (wr (wr (n : Int)))) 72 1) ≤ 26))
    (o3 : ¬ 7 < wr (n : Int) → 0 < wr (wr (n : Int)) → κ (none) (z_cp (zu m 72 1 (wr (wr (n : Int)))) 67 73 0 0 ((wr ((zu m 72 1 (wr (wr (n : Int)))) 72 1)).toNat)))
    (o4 : ¬ 7 < wr (n : Int) → ¬ 0 < wr (wr (n : Int)) → κ (none) (z_cp (zu m 72 1 0) 67 73 0 0 0)) :
    T (D + 2) 48 (0, [(0, zr 72), (1, zr 67), (2, zi (n : Int))], [], m) κ :=
  hT.1 [] 6 (D + 2) 48 _ κ (hT.1 [] 6 (D + 2) 48 (6, [(0, zr 72), (1, zr 67), (2, zi (n : Int))], [zr 72, zi 7, zi (n : Int), zi 0, zr 72], m) _ (hT.1 [] 6 (D + 1) 294 _ _ (And.intro (fun a1 => (z_litF a1 rfl).elim) (fun _ => (hT.1 [] 6 (D + 2) 48 _ _ (hT.1 [] 6 (D + 1) 294 _ _ (And.intro (fun a2 => (o1 a2).elim) (fun a3 => (hT.1 [] 6 (D + 2) 48 _ _ (hT.1 [] 6 (D + 1) 295 _ _ (And.intro (fun a4 => (hT.1 [] 6 (D + 2) 48 _ _ (And.intro trivial (hT.1 [] 6 (D + 2) 48 (29, [(0, zr 72), (1, zr 67), (2, zi (n : Int))], [zi 0, zr 73, zi 0, zr 67], (zu m 72 1 (wr (wr (n : Int))))) _ (And.intro (o2 a3 a4) (o3 a3 a4)))))) (fun a5 => (hT.1 [] 6 (D + 2) 48 _ _ (And.intro trivial (hT.1 [] 6 (D + 2) 48 (29, [(0, zr 72), (1, zr 67), (2, zi (n : Int))], [zi 0, zr 73, zi 0, zr 67], (zu m 72 1 0)) _ (And.intro (And.intro (z_leL rfl) (And.intro (z_leL rfl) (And.intro (z_leL rfl) (And.intro (z_leL rfl) (z_leL rfl))))) (o4 a3 a5)))))))))))))))))
theorem zb48_0_67 (hT : zRules T) {D : Nat} {κ : Option zA → zM → Prop} {m : zM} {n : Nat}  (hB : zB m) (h_n : n ≤ 7) 
    (k1 : 0 < (n : Int) → zB (z_cp (zu m 72 1 (n : Int)) 67 73 0 0 n) → κ (none) (z_cp (zu m 72 1 (n : Int)) 67 73 0 0 n))
    (k2 : ¬ 0 < (n : Int) → zB (z_cp (zu m 72 1 0) 67 73 0 0 0) → κ (none) (z_cp (zu m 72 1 0) 67 73 0 0 0)) :
    T (D + 2) 48 (0, [(0, zr 72), (1, zr 67), (2, zi (n : Int))], [], m) κ := by
  have he0 : wr (n : Int) = (n : Int) := wr_id (by omega) (by omega)
  have he1 : ((zu m 72 1 (n : Int)) 72 1) = (n : Int) := (zu_sm rfl)
  have he2 : (n : Int).toNat = n := by omega
  have key := @zb48_0_67r T hT D κ m n
  simp only [he0, he1, he2, Int.toNat_natCast] at key
  exact key
    (fun x0 => by omega)
    (fun x0 x1 => by refine ⟨?_, ?_, ?_, ?_, ?_⟩ <;> omega)
    (fun x0 x1 => k1 x1 (zB_cp (zB_u hB (show 0 ≤ (n : Int) ∧ (n : Int) ≤ 26 from ⟨by omega, by omega⟩)) (fun _ _ _ => trivial)))
    (fun x0 x1 => k2 x1 (zB_cp (zB_u hB (show 0 ≤ 0 ∧ 0 ≤ 26 from ⟨by omega, by omega⟩)) (fun _ _ _ => trivial)))
theorem zb99_0r (hT : zRules T) {D : Nat} {κ : Option zA → zM → Prop} {m : zM} 
    (o1 : (0 ≤ wr ((z_shl 1 (m 64 2)) - 1) ∧ wr ((z_shl 1 (m 64 2)) - 1) < 128))
    (o2 : T (D + 4) 99 (20, [(0, zr 64), (2, zi (((z_shl 1 (m 64 2)) - 1) - 1))], [], (zu m 70 ((wr ((z_shl 1 (m 64 2)) - 1)).toNat) 0)) κ) :
    T (D + 4) 99 (0, [(0, zr 64)], [], m) κ :=
  hT.1 [(20, [0, 2]), (58, [0, 2, 3])] 6 (D + 4) 99 _ κ (hT.1 [(20, [0, 2]), (58, [0, 2, 3])] 6 (D + 4) 99 (8, [(0, zr 64)], [zi ((z_shl 1 (m 64 2)) - 1)], m) _ (And.intro (And.intro (o1) trivial) (hT.1 [(20, [0, 2]), (58, [0, 2, 3])] 6 (D + 4) 99 (16, [(0, zr 64), (1, zi ((z_shl 1 (m 64 2)) - 1))], [], (zu m 70 ((wr ((z_shl 1 (m 64 2)) - 1)).toNat) 0)) _ (o2))))
theorem zb99_0 (hT : zRules T) {D : Nat} {κ : Option zA → zM → Prop} {m : zM}  (hB : zB m) 
    (k1 : (0 ≤ wr ((z_shl 1 (m 64 2)) - 1) ∧ wr ((z_shl 1 (m 64 2)) - 1) < 128))
    (k2 : zB (zu m 70 ((wr ((z_shl 1 (m 64 2)) - 1)).toNat) 0) → T (D + 4) 99 (20, [(0, zr 64), (2, zi (((z_shl 1 (m 64 2)) - 1) - 1))], [], (zu m 70 ((wr ((z_shl 1 (m 64 2)) - 1)).toNat) 0)) κ) :
    T (D + 4) 99 (0, [(0, zr 64)], [], m) κ := by
  have hb0 : 0 ≤ (m 64 2) ∧ (m 64 2) ≤ 7 := hB 64 2
  have hb1 : (-2147483648) ≤ (z_shl 1 (m 64 2)) ∧ (z_shl 1 (m 64 2)) ≤ 2147483647 := z_shlB 1 (m 64 2)
  have hb2 : (-2147483648) ≤ wr ((z_shl 1 (m 64 2)) - 1) ∧ wr ((z_shl 1 (m 64 2)) - 1) ≤ 2147483647 := wrB ((z_shl 1 (m 64 2)) - 1)
  exact zb99_0r hT
    k1
    (k2  (zB_u hB trivial))
theorem zb99_20r (hT : zRules T) {D : Nat} {κ : Option zA → zM → Prop} {m : zM} {x : Int} {lo : zL} (hlo : z_keep [0, 2] lo = [(0, zr 64), (2, zi x)]) 
    (o1 : wr x < 0 → T (D + 4) 99 (58, [(0, zr 64), (2, zi 0), (3, zi 0)], [], m) κ)
    (o2 : ¬ wr x < 0 → T (D + 3) 98 (0, [(0, zr 64), (1, zi x)], [], m) (fun r m1 => T (D + 4) 99 (29, [(0, zr 64), (2, zi x)], r.toList ++ [], m1) κ)) :
    T (D + 4) 99 (20, lo, [], m) κ :=
  zkeep hT hlo (hT.1 [(20, [0, 2]), (58, [0, 2, 3])] 6 (D + 4) 99 _ κ (And.intro (fun a1 => (o1 a1)) (fun a2 => (o2 a2))))
theorem zb99_20 (hT : zRules T) {D : Nat} {κ : Option zA → zM → Prop} {m : zM} {x : Int} {lo : zL} (hlo : z_keep [0, 2] lo = [(0, zr 64), (2, zi x)])  (hB : zB m) (h_x : (-1) ≤ x ∧ x ≤ 126) 
    (k1 : x < 0 → T (D + 4) 99 (58, [(0, zr 64), (2, zi 0), (3, zi 0)], [], m) κ)
    (k2 : ¬ x < 0 → T (D + 3) 98 (0, [(0, zr 64), (1, zi x)], [], m) (fun r m1 => T (D + 4) 99 (29, [(0, zr 64), (2, zi x)], r.toList ++ [], m1) κ)) :
    T (D + 4) 99 (20, lo, [], m) κ := by
  have he0 : wr x = x := wr_id (by omega) (by omega)
  have key := @zb99_20r T hT D κ m x lo hlo
  simp only [he0, Int.toNat_natCast] at key
  exact key
    k1
    k2
theorem zb99_29r (hT : zRules T) {D : Nat} {κ : Option zA → zM → Prop} {m : zM} {x : Nat} {h : Int} {lo : zL} (hlo : z_keep [0, 2] lo = [(0, zr 64), (2, zi (x : Int))]) 
    (o1 : T (D + 3) 101 (0, [(0, zr 64), (1, zi (x : Int)), (2, zi h)], [], m) (fun r m1 => T (D + 4) 99 (44, [(0, zr 64), (2, zi (x : Int)), (3, zi h)], r.toList ++ [zi h, zi (x : Int), zr 64, zi (x : Int), zr 70], m1) κ)) :
    T (D + 4) 99 (29, lo, [zi h], m) κ :=
  zkeep hT hlo (hT.1 [(20, [0, 2]), (58, [0, 2, 3])] 6 (D + 4) 99 _ κ (hT.1 [(20, [0, 2]), (58, [0, 2, 3])] 6 (D + 4) 99 (37, [(0, zr 64), (2, zi (x : Int)), (3, zi h)], [zi (x : Int), zr 64, zi (x : Int), zr 70], m) _ (o1)))
theorem zb99_29 (hT : zRules T) {D : Nat} {κ : Option zA → zM → Prop} {m : zM} {x : Nat} {h : Int} {lo : zL} (hlo : z_keep [0, 2] lo = [(0, zr 64), (2, zi (x : Int))])  (hB : zB m) (h_x : x ≤ 126) (h_h : 0 ≤ h ∧ h ≤ 140) 
    (k1 : T (D + 3) 101 (0, [(0, zr 64), (1, zi (x : Int)), (2, zi h)], [], m) (fun r m1 => T (D + 4) 99 (44, [(0, zr 64), (2, zi (x : Int)), (3, zi h)], r.toList ++ [zi h, zi (x : Int), zr 64, zi (x : Int), zr 70], m1) κ)) :
    T (D + 4) 99 (29, lo, [zi h], m) κ := by
  exact zb99_29r hT hlo
    k1
theorem zb99_44r (hT : zRules T) {D : Nat} {κ : Option zA → zM → Prop} {m : zM} {x : Nat} {h : Int} {f : Int} {lo : zL} (hlo : z_keep [0, 2] lo = [(0, zr 64), (2, zi (x : Int))]) 
    (o1 : T (D + 3) 100 (0, [(0, zr 64), (1, zi (x : Int)), (2, zi h), (3, zi f)], [], m) (fun r m1 => T (D + 4) 99 (47, [(0, zr 64), (2, zi (x : Int))], r.toList ++ [zi (x : Int), zr 70], m1) κ)) :
    T (D + 4) 99 (44, lo, [zi f, zi h, zi (x : Int), zr 64, zi (x : Int), zr 70], m) κ :=
  zkeep hT hlo (hT.1 [(20, [0, 2]), (58, [0, 2, 3])] 6 (D + 4) 99 _ κ (o1))
theorem zb99_44 (hT : zRules T) {D : Nat} {κ : Option zA → zM → Prop} {m : zM} {x : Nat} {h : Int} {f : Int} {lo : zL} (hlo : z_keep [0, 2] lo = [(0, zr 64), (2, zi (x : Int))])  (hB : zB m) (h_x : x ≤ 126) (h_h : 0 ≤ h ∧ h ≤ 140) (h_f : (-1) ≤ f ∧ f ≤ 6) 
    (k1 : T (D + 3) 100 (0, [(0, zr 64), (1, zi (x : Int)), (2, zi h), (3, zi f)], [], m) (fun r m1 => T (D + 4) 99 (47, [(0, zr 64), (2, zi (x : Int))], r.toList ++ [zi (x : Int), zr 70], m1) κ)) :
    T (D + 4) 99 (44, lo, [zi f, zi h, zi (x : Int), zr 64, zi (x : Int), zr 70], m) κ := by
  exact zb99_44r hT hlo
    k1
theorem zb99_47r (hT : zRules T) {D : Nat} {κ : Option zA → zM → Prop} {m : zM} {x : Nat} {h : Int} {v : Int} {lo : zL} (hlo : z_keep [0, 2] lo = [(0, zr 64), (2, zi (x : Int))]) 
    (o1 : (0 ≤ wr (x : Int) ∧ wr (x : Int) < 128))
    (o2 : T (D + 4) 99 (20, [(0, zr 64), (2, zi ((x : Int) + (-1)))], [], (zu m 70 ((wr (x : Int)).toNat) v)) κ) :
    T (D + 4) 99 (47, lo, [zi v, zi (x : Int), zr 70], m) κ :=
  zkeep hT hlo (hT.1 [(20, [0, 2]), (58, [0, 2, 3])] 6 (D + 4) 99 _ κ (And.intro (And.intro (o1) trivial) (o2)))
theorem zb99_47 (hT : zRules T) {D : Nat} {κ : Option zA → zM → Prop} {m : zM} {x : Nat} {h : Int} {v : Int} {lo : zL} (hlo : z_keep [0, 2] lo = [(0, zr 64), (2, zi (x : Int))])  (hB : zB m) (h_x : x ≤ 126) (h_h : 0 ≤ h ∧ h ≤ 140) (h_v : (-2147483648) ≤ v ∧ v ≤ 2147483647) 
    (k1 : zB (zu m 70 x v) → T (D + 4) 99 (20, [(0, zr 64), (2, zi ((x : Int) + (-1)))], [], (zu m 70 x v)) κ) :
    T (D + 4) 99 (47, lo, [zi v, zi (x : Int), zr 70], m) κ := by
  have he0 : wr (x : Int) = (x : Int) := wr_id (by omega) (by omega)
  have he1 : (x : Int).toNat = x := by omega
  have key := @zb99_47r T hT D κ m x h v lo hlo
  simp only [he0, he1, Int.toNat_natCast] at key
  exact key
    (by refine ⟨?_, ?_⟩ <;> omega)
    (k1  (zB_u hB trivial))
theorem zb99_58r (hT : zRules T) {D : Nat} {κ : Option zA → zM → Prop} {m : zM} {x : Nat} {i : Nat} {lo : zL} (hlo : z_keep [0, 2, 3] lo = [(0, zr 64), (2, zi (x : Int)), (3, zi (i : Int))]) 
    (o1 : ¬ wr (i : Int) < wr (m 64 2) → κ (some (zi (wr (m 70 0)))) m)
    (o2 : wr (i : Int) < wr (m 64 2) → T (D + 3) 98 (0, [(0, zr 64), (1, zi (x : Int))], [], m) (fun r m1 => T (D + 4) 99 (78, [(0, zr 64), (2, zi (x : Int)), (3, zi (i : Int))], r.toList ++ [zi (x : Int), zr 64, zi (i : Int), zr 67], m1) κ)) :
    T (D + 4) 99 (58, lo, [], m) κ :=
  zkeep hT hlo (hT.1 [(20, [0, 2]), (58, [0, 2, 3])] 6 (D + 4) 99 _ κ (And.intro (fun a1 => (hT.1 [(20, [0, 2]), (58, [0, 2, 3])] 6 (D + 4) 99 (103, [(0, zr 64), (2, zi (x : Int)), (3, zi (i : Int))], [zr 70], m) _ (And.intro (z_ixL rfl) (o1 a1)))) (fun a2 => (hT.1 [(20, [0, 2]), (58, [0, 2, 3])] 6 (D + 4) 99 (70, [(0, zr 64), (2, zi (x : Int)), (3, zi (i : Int))], [zr 67], m) _ (o2 (Classical.byContradiction a2))))))
theorem zb99_58 (hT : zRules T) {D : Nat} {κ : Option zA → zM → Prop} {m : zM} {x : Nat} {i : Nat} {lo : zL} (hlo : z_keep [0, 2, 3] lo = [(0, zr 64), (2, zi (x : Int)), (3, zi (i : Int))])  (hB : zB m) (h_x : x ≤ 127) (h_i : i ≤ 7) 
    (k1 : ¬ (i : Int) < (m 64 2) → κ (some (zi (wr (m 70 0)))) m)
    (k2 : (i : Int) < (m 64 2) → T (D + 3) 98 (0, [(0, zr 64), (1, zi (x : Int))], [], m) (fun r m1 => T (D + 4) 99 (78, [(0, zr 64), (2, zi (x : Int)), (3, zi (i : Int))], r.toList ++ [zi (x : Int), zr 64, zi (i : Int), zr 67], m1) κ)) :
    T (D + 4) 99 (58, lo, [], m) κ := by
  have hb2 : 0 ≤ (m 64 2) ∧ (m 64 2) ≤ 7 := hB 64 2
  have hb3 : (-2147483648) ≤ wr (m 70 0) ∧ wr (m 70 0) ≤ 2147483647 := wrB (m 70 0)
  have he0 : wr (i : Int) = (i : Int) := wr_id (by omega) (by omega)
  have he1 : wr (m 64 2) = (m 64 2) := wr_id (by omega) (by omega)
  have key := @zb99_58r T hT D κ m x i lo hlo
  simp only [he0, he1, Int.toNat_natCast] at key
  exact key
    k1
    k2
theorem zb99_78r (hT : zRules T) {D : Nat} {κ : Option zA → zM → Prop} {m : zM} {x : Nat} {i : Nat} {h : Int} {lo : zL} (hlo : z_keep [0, 2, 3] lo = [(0, zr 64), (2, zi (x : Int)), (3, zi (i : Int))]) 
    (o1 : T (D + 3) 101 (0, [(0, zr 64), (1, zi (x : Int)), (2, zi h)], [], m) (fun r m1 => T (D + 4) 99 (81, [(0, zr 64), (2, zi (x : Int)), (3, zi (i : Int))], r.toList ++ [zi (i : Int), zr 67], m1) κ)) :
    T (D + 4) 99 (78, lo, [zi h, zi (x : Int), zr 64, zi (i : Int), zr 67], m) κ :=
  zkeep hT hlo (hT.1 [(20, [0, 2]), (58, [0, 2, 3])] 6 (D + 4) 99 _ κ (o1))
theorem zb99_78 (hT : zRules T) {D : Nat} {κ : Option zA → zM → Prop} {m : zM} {x : Nat} {i : Nat} {h : Int} {lo : zL} (hlo : z_keep [0, 2, 3] lo = [(0, zr 64), (2, zi (x : Int)), (3, zi (i : Int))])  (hB : zB m) (h_x : x ≤ 127) (h_i : i ≤ 6) (h_h : 0 ≤ h ∧ h ≤ 140) 
    (k1 : T (D + 3) 101 (0, [(0, zr 64), (1, zi (x : Int)), (2, zi h)], [], m) (fun r m1 => T (D + 4) 99 (81, [(0, zr 64), (2, zi (x : Int)), (3, zi (i : Int))], r.toList ++ [zi (i : Int), zr 67], m1) κ)) :
    T (D + 4) 99 (78, lo, [zi h, zi (x : Int), zr 64, zi (i : Int), zr 67], m) κ := by
  exact zb99_78r hT hlo
    k1
theorem zb99_81r (hT : zRules T) {D : Nat} {κ : Option zA → zM → Prop} {m : zM} {x : Nat} {i : Nat} {g : Nat} {lo : zL} (hlo : z_keep [0, 2, 3] lo = [(0, zr 64), (2, zi (x : Int)), (3, zi (i : Int))]) 
    (o1 : (0 ≤ wr (i : Int) ∧ wr (i : Int) < 7))
    (o2 : (0 ≤ wr (i : Int) ∧ wr (i : Int) < 7))
    (o3 : T (D + 4) 99 (58, [(0, zr 64), (2, zi (z_or (x : Int) (z_shl 1 ((zu m 67 ((wr (i : Int)).toNat) (g : Int)) 67 ((wr (i : Int)).toNat))))), (3, zi ((i : Int) + 1))], [], (zu m 67 ((wr (i : Int)).toNat) (g : Int))) κ) :
    T (D + 4) 99 (81, lo, [zi (g : Int), zi (i : Int), zr 67], m) κ :=
  zkeep hT hlo (hT.1 [(20, [0, 2]), (58, [0, 2, 3])] 6 (D + 4) 99 _ κ (And.intro (And.intro (o1) trivial) (hT.1 [(20, [0, 2]), (58, [0, 2, 3])] 6 (D + 4) 99 (89, [(0, zr 64), (2, zi (x : Int)), (3, zi (i : Int))], [zi (i : Int), zr 67, zi 1, zi (x : Int)], (zu m 67 ((wr (i : Int)).toNat) (g : Int))) _ (And.intro (o2) (o3)))))
theorem zb99_81 (hT : zRules T) {D : Nat} {κ : Option zA → zM → Prop} {m : zM} {x : Nat} {i : Nat} {g : Nat} {lo : zL} (hlo : z_keep [0, 2, 3] lo = [(0, zr 64), (2, zi (x : Int)), (3, zi (i : Int))])  (hB : zB m) (h_x : x ≤ 127) (h_i : i ≤ 6) (h_g : g ≤ 6) 
    (k1 : zB (zu m 67 i (g : Int)) → T (D + 4) 99 (58, [(0, zr 64), (2, zi (z_or (x : Int) (z_shl 1 (g : Int)))), (3, zi ((i : Int) + 1))], [], (zu m 67 i (g : Int))) κ) :
    T (D + 4) 99 (81, lo, [zi (g : Int), zi (i : Int), zr 67], m) κ := by
  have hb3 : (-2147483648) ≤ (z_shl 1 (g : Int)) ∧ (z_shl 1 (g : Int)) ≤ 2147483647 := z_shlB 1 (g : Int)
  have hb4 : (-2147483648) ≤ (z_or (x : Int) (z_shl 1 (g : Int))) ∧ (z_or (x : Int) (z_shl 1 (g : Int))) ≤ 2147483647 := z_orB (x : Int) (z_shl 1 (g : Int))
  have he0 : wr (i : Int) = (i : Int) := wr_id (by omega) (by omega)
  have he1 : (i : Int).toNat = i := by omega
  have he2 : ((zu m 67 i (g : Int)) 67 i) = (g : Int) := (zu_sm (by omega))
  have key := @zb99_81r T hT D κ m x i g lo hlo
  simp only [he0, he1, he2, Int.toNat_natCast] at key
  exact key
    (by refine ⟨?_, ?_⟩ <;> omega)
    (by refine ⟨?_, ?_⟩ <;> omega)
    (k1  (zB_u hB trivial))
theorem zb101_0r (hT : zRules T) {D : Nat} {κ : Option zA → zM → Prop} {m : zM} {x : Nat} {h : Int} 
    (o1 : T (D + 3) 101 (8, [(0, zr 64), (1, zi (x : Int)), (2, zi h), (3, zi (-1)), (4, zi 0), (5, zi 0)], [], m) κ) :
    T (D + 3) 101 (0, [(0, zr 64), (1, zi (x : Int)), (2, zi h)], [], m) κ :=
  hT.1 [(8, [0, 1, 2, 3, 4, 5])] 6 (D + 3) 101 _ κ (o1)
theorem zb101_0 (hT : zRules T) {D : Nat} {κ : Option zA → zM → Prop} {m : zM} {x : Nat} {h : Int}  (hB : zB m) (h_x : x ≤ 127) (h_h : 0 ≤ h ∧ h ≤ 140) 
    (k1 : T (D + 3) 101 (8, [(0, zr 64), (1, zi (x : Int)), (2, zi h), (3, zi (-1)), (4, zi 0), (5, zi 0)], [], m) κ) :
    T (D + 3) 101 (0, [(0, zr 64), (1, zi (x : Int)), (2, zi h)], [], m) κ := by
  exact zb101_0r hT
    k1
theorem zb101_8r (hT : zRules T) {D : Nat} {κ : Option zA → zM → Prop} {m : zM} {x : Nat} {h : Int} {f : Int} {b : Int} {i : Nat} {lo : zL} (hlo : z_keep [0, 1, 2, 3, 4, 5] lo = [(0, zr 64), (1, zi (x : Int)), (2, zi h), (3, zi f), (4, zi b), (5, zi (i : Int))]) 
    (o1 : ¬ wr (i : Int) < wr (m 64 2) → κ (some (zi (wr f))) m)
    (o2 : wr (i : Int) < wr (m 64 2) → ¬ wr (z_and (z_shr (x : Int) (i : Int)) 1) = 0 → T (D + 3) 101 (8, [(0, zr 64), (1, zi (x : Int)), (2, zi h), (3, zi f), (4, zi b), (5, zi ((i : Int) + 1))], [], m) κ)
    (o3 : wr (i : Int) < wr (m 64 2) → wr (z_and (z_shr (x : Int) (i : Int)) 1) = 0 → T (D + 2) 100 (0, [(0, zr 64), (1, zi (x : Int)), (2, zi h), (3, zi (i : Int))], [], m) (fun r m1 => T (D + 3) 101 (34, [(0, zr 64), (1, zi (x : Int)), (2, zi h), (3, zi f), (4, zi b), (5, zi (i : Int))], r.toList ++ [], m1) κ)) :
    T (D + 3) 101 (8, lo, [], m) κ :=
  zkeep hT hlo (hT.1 [(8, [0, 1, 2, 3, 4, 5])] 6 (D + 3) 101 _ κ (And.intro (fun a1 => (o1 a1)) (fun a2 => (hT.1 [(8, [0, 1, 2, 3, 4, 5])] 6 (D + 3) 101 (20, [(0, zr 64), (1, zi (x : Int)), (2, zi h), (3, zi f), (4, zi b), (5, zi (i : Int))], [zi (i : Int), zi (x : Int)], m) _ (And.intro (fun a3 => (o2 (Classical.byContradiction a2) a3)) (fun a4 => (hT.1 [(8, [0, 1, 2, 3, 4, 5])] 6 (D + 3) 101 (28, [(0, zr 64), (1, zi (x : Int)), (2, zi h), (3, zi f), (4, zi b), (5, zi (i : Int))], [zi (x : Int), zr 64], m) _ (o3 (Classical.byContradiction a2) (Classical.byContradiction a4)))))))))
theorem zb101_8 (hT : zRules T) {D : Nat} {κ : Option zA → zM → Prop} {m : zM} {x : Nat} {h : Int} {f : Int} {b : Int} {i : Nat} {lo : zL} (hlo : z_keep [0, 1, 2, 3, 4, 5] lo = [(0, zr 64), (1, zi (x : Int)), (2, zi h), (3, zi f), (4, zi b), (5, zi (i : Int))])  (hB : zB m) (h_x : x ≤ 127) (h_h : 0 ≤ h ∧ h ≤ 140) (h_f : (-1) ≤ f ∧ f ≤ 6) (h_b : (-2147483648) ≤ b ∧ b ≤ 2147483647) (h_i : i ≤ 7) 
    (k1 : ¬ (i : Int) < (m 64 2) → κ (some (zi f)) m)
    (k2 : (i : Int) < (m 64 2) → ¬ (z_and (z_shr (x : Int) (i : Int)) 1) = 0 → T (D + 3) 101 (8, [(0, zr 64), (1, zi (x : Int)), (2, zi h), (3, zi f), (4, zi b), (5, zi ((i : Int) + 1))], [], m) κ)
    (k3 : (i : Int) < (m 64 2) → (z_and (z_shr (x : Int) (i : Int)) 1) = 0 → T (D + 2) 100 (0, [(0, zr 64), (1, zi (x : Int)), (2, zi h), (3, zi (i : Int))], [], m) (fun r m1 => T (D + 3) 101 (34, [(0, zr 64), (1, zi (x : Int)), (2, zi h), (3, zi f), (4, zi b), (5, zi (i : Int))], r.toList ++ [], m1) κ)) :
    T (D + 3) 101 (8, lo, [], m) κ := by
  have hb5 : 0 ≤ (m 64 2) ∧ (m 64 2) ≤ 7 := hB 64 2
  have hb6 : (-2147483648) ≤ (z_shr (x : Int) (i : Int)) ∧ (z_shr (x : Int) (i : Int)) ≤ 2147483647 := z_shrB (x : Int) (i : Int)
  have hb7 : 0 ≤ (z_and (z_shr (x : Int) (i : Int)) 1) ∧ (z_and (z_shr (x : Int) (i : Int)) 1) ≤ 1 := z_andC (z_shr (x : Int) (i : Int)) 1 (by decide)
  have he0 : wr (i : Int) = (i : Int) := wr_id (by omega) (by omega)
  have he1 : wr (m 64 2) = (m 64 2) := wr_id (by omega) (by omega)
  have he2 : wr (z_and (z_shr (x : Int) (i : Int)) 1) = (z_and (z_shr (x : Int) (i : Int)) 1) := wr_id (by omega) (by omega)
  have he3 : wr f = f := wr_id (by omega) (by omega)
  have key := @zb101_8r T hT D κ m x h f b i lo hlo
  simp only [he0, he1, he2, he3, Int.toNat_natCast] at key
  exact key
    k1
    k2
    k3
theorem zb101_34r (hT : zRules T) {D : Nat} {κ : Option zA → zM → Prop} {m : zM} {x : Nat} {h : Int} {f : Int} {b : Int} {i : Nat} {v : Int} {lo : zL} (hlo : z_keep [0, 1, 2, 3, 4, 5] lo = [(0, zr 64), (1, zi (x : Int)), (2, zi h), (3, zi f), (4, zi b), (5, zi (i : Int))]) 
    (o1 : wr f = (-1) → T (D + 3) 101 (8, [(0, zr 64), (1, zi (x : Int)), (2, zi h), (3, zi (i : Int)), (4, zi v), (5, zi ((i : Int) + 1))], [], m) κ)
    (o2 : ¬ wr f = (-1) → ¬ wr v < wr b → T (D + 3) 101 (8, [(0, zr 64), (1, zi (x : Int)), (2, zi h), (3, zi f), (4, zi b), (5, zi ((i : Int) + 1))], [], m) κ)
    (o3 : ¬ wr f = (-1) → wr v < wr b → T (D + 3) 101 (8, [(0, zr 64), (1, zi (x : Int)), (2, zi h), (3, zi (i : Int)), (4, zi v), (5, zi ((i : Int) + 1))], [], m) κ) :
    T (D + 3) 101 (34, lo, [zi v], m) κ :=
  zkeep hT hlo (hT.1 [(8, [0, 1, 2, 3, 4, 5])] 6 (D + 3) 101 _ κ (And.intro (fun a1 => (hT.1 [(8, [0, 1, 2, 3, 4, 5])] 6 (D + 3) 101 (51, [(0, zr 64), (1, zi (x : Int)), (2, zi h), (3, zi (i : Int)), (4, zi b), (5, zi (i : Int)), (6, zi v)], [], m) _ (o1 a1))) (fun a2 => (hT.1 [(8, [0, 1, 2, 3, 4, 5])] 6 (D + 3) 101 (45, [(0, zr 64), (1, zi (x : Int)), (2, zi h), (3, zi f), (4, zi b), (5, zi (i : Int)), (6, zi v)], [zi b, zi v], m) _ (And.intro (fun a3 => (o2 a2 a3)) (fun a4 => (hT.1 [(8, [0, 1, 2, 3, 4, 5])] 6 (D + 3) 101 (58, [(0, zr 64), (1, zi (x : Int)), (2, zi h), (3, zi (i : Int)), (4, zi v), (5, zi ((i : Int) + 1)), (6, zi v)], [], m) _ (o3 a2 (Classical.byContradiction a4)))))))))
theorem zb101_34 (hT : zRules T) {D : Nat} {κ : Option zA → zM → Prop} {m : zM} {x : Nat} {h : Int} {f : Int} {b : Int} {i : Nat} {v : Int} {lo : zL} (hlo : z_keep [0, 1, 2, 3, 4, 5] lo = [(0, zr 64), (1, zi (x : Int)), (2, zi h), (3, zi f), (4, zi b), (5, zi (i : Int))])  (hB : zB m) (h_x : x ≤ 127) (h_h : 0 ≤ h ∧ h ≤ 140) (h_f : (-1) ≤ f ∧ f ≤ 6) (h_b : (-2147483648) ≤ b ∧ b ≤ 2147483647) (h_i : i ≤ 6) (h_v : (-2147483648) ≤ v ∧ v ≤ 2147483647) 
    (k1 : f = (-1) → T (D + 3) 101 (8, [(0, zr 64), (1, zi (x : Int)), (2, zi h), (3, zi (i : Int)), (4, zi v), (5, zi ((i : Int) + 1))], [], m) κ)
    (k2 : ¬ f = (-1) → ¬ v < b → T (D + 3) 101 (8, [(0, zr 64), (1, zi (x : Int)), (2, zi h), (3, zi f), (4, zi b), (5, zi ((i : Int) + 1))], [], m) κ)
    (k3 : ¬ f = (-1) → v < b → T (D + 3) 101 (8, [(0, zr 64), (1, zi (x : Int)), (2, zi h), (3, zi (i : Int)), (4, zi v), (5, zi ((i : Int) + 1))], [], m) κ) :
    T (D + 3) 101 (34, lo, [zi v], m) κ := by
  have he0 : wr f = f := wr_id (by omega) (by omega)
  have he1 : wr v = v := wr_id (by omega) (by omega)
  have he2 : wr b = b := wr_id (by omega) (by omega)
  have key := @zb101_34r T hT D κ m x h f b i v lo hlo
  simp only [he0, he1, he2, Int.toNat_natCast] at key
  exact key
    k1
    k2
    k3
theorem zb100_0r (hT : zRules T) {D : Nat} {κ : Option zA → zM → Prop} {m : zM} {x : Nat} {h : Int} {f : Int} 
    (o1 : wr f < 0 → κ (some (zi 0)) m)
    (o2 : ¬ wr f < 0 → wr f < wr (m 64 2) → (0 ≤ wr f ∧ wr f < 7))
    (o3 : ¬ wr f < 0 → wr f < wr (m 64 2) → (0 ≤ wr f ∧ wr f < 7))
    (o4 : ¬ wr f < 0 → wr f < wr (m 64 2) → 0 < wr ((h + (m 65 ((wr f).toNat))) - (m 66 ((wr f).toNat))) → (0 ≤ wr (z_or (x : Int) (z_shl 1 f)) ∧ wr (z_or (x : Int) (z_shl 1 f)) < 128))
    (o5 : ¬ wr f < 0 → wr f < wr (m 64 2) → 0 < wr ((h + (m 65 ((wr f).toNat))) - (m 66 ((wr f).toNat))) → κ (some (zi (wr (wr ((h + (m 65 ((wr f).toNat))) - (m 66 ((wr f).toNat))) + (m 70 ((wr (z_or (x : Int) (z_shl 1 f))).toNat)))))) m)
    (o6 : ¬ wr f < 0 → wr f < wr (m 64 2) → ¬ 0 < wr ((h + (m 65 ((wr f).toNat))) - (m 66 ((wr f).toNat))) → (0 ≤ wr (z_or (x : Int) (z_shl 1 f)) ∧ wr (z_or (x : Int) (z_shl 1 f)) < 128))
    (o7 : ¬ wr f < 0 → wr f < wr (m 64 2) → ¬ 0 < wr ((h + (m 65 ((wr f).toNat))) - (m 66 ((wr f).toNat))) → κ (some (zi (wr (0 + (m 70 ((wr (z_or (x : Int) (z_shl 1 f))).toNat)))))) m)
    (o8 : ¬ wr f < 0 → ¬ wr f < wr (m 64 2) → κ (some (zi 0)) m) :
    T (D + 2) 100 (0, [(0, zr 64), (1, zi (x : Int)), (2, zi h), (3, zi f)], [], m) κ :=
  hT.1 [] 6 (D + 2) 100 _ κ (And.intro (fun a1 => (o1 a1)) (fun a2 => (And.intro (fun a3 => (hT.1 [] 6 (D + 2) 100 (14, [(0, zr 64), (1, zi (x : Int)), (2, zi h), (3, zi f)], [], m) _ (And.intro (o2 a2 a3) (hT.1 [] 6 (D + 2) 100 (22, [(0, zr 64), (1, zi (x : Int)), (2, zi h), (3, zi f)], [zi (m 65 ((wr f).toNat)), zi h, zi 0], m) _ (And.intro (o3 a2 a3) (hT.1 [] 6 (D + 2) 100 (30, [(0, zr 64), (1, zi (x : Int)), (2, zi h), (3, zi f)], [zi ((h + (m 65 ((wr f).toNat))) - (m 66 ((wr f).toNat))), zi 0], m) _ (hT.1 [] 6 (D + 1) 295 _ _ (And.intro (fun a5 => (hT.1 [] 6 (D + 2) 100 _ _ (hT.1 [] 6 (D + 2) 100 (41, [(0, zr 64), (1, zi (x : Int)), (2, zi h), (3, zi f)], [zi (z_shl 1 f), zi (x : Int), zr 70, zi (wr ((h + (m 65 ((wr f).toNat))) - (m 66 ((wr f).toNat))))], m) _ (And.intro (o4 a2 a3 a5) (o5 a2 a3 a5))))) (fun a6 => (hT.1 [] 6 (D + 2) 100 _ _ (hT.1 [] 6 (D + 2) 100 (41, [(0, zr 64), (1, zi (x : Int)), (2, zi h), (3, zi f)], [zi (z_shl 1 f), zi (x : Int), zr 70, zi 0], m) _ (And.intro (o6 a2 a3 a6) (o7 a2 a3 a6))))))))))))) (fun a4 => (hT.1 [] 6 (D + 2) 100 (12, [(0, zr 64), (1, zi (x : Int)), (2, zi h), (3, zi f)], [], m) _ (o8 a2 a4))))))
theorem zb100_0 (hT : zRules T) {D : Nat} {κ : Option zA → zM → Prop} {m : zM} {x : Nat} {h : Int} {f : Int}  (hB : zB m) (h_x : x ≤ 127) (h_h : 0 ≤ h ∧ h ≤ 140) (h_f : (-1) ≤ f ∧ f ≤ 6) 
    (k1 : f < 0 → κ (some (zi 0)) m)
    (k2 : ¬ f < 0 → f < (m 64 2) → 0 < ((h + (m 65 (f.toNat))) - (m 66 (f.toNat))) → (0 ≤ (z_or (x : Int) (z_shl 1 f)) ∧ (z_or (x : Int) (z_shl 1 f)) < 128))
    (k3 : ¬ f < 0 → f < (m 64 2) → 0 < ((h + (m 65 (f.toNat))) - (m 66 (f.toNat))) → κ (some (zi (wr (((h + (m 65 (f.toNat))) - (m 66 (f.toNat))) + (m 70 ((z_or (x : Int) (z_shl 1 f)).toNat)))))) m)
    (k4 : ¬ f < 0 → f < (m 64 2) → ¬ 0 < ((h + (m 65 (f.toNat))) - (m 66 (f.toNat))) → (0 ≤ (z_or (x : Int) (z_shl 1 f)) ∧ (z_or (x : Int) (z_shl 1 f)) < 128))
    (k5 : ¬ f < 0 → f < (m 64 2) → ¬ 0 < ((h + (m 65 (f.toNat))) - (m 66 (f.toNat))) → κ (some (zi (wr (0 + (m 70 ((z_or (x : Int) (z_shl 1 f)).toNat)))))) m)
    (k6 : ¬ f < 0 → ¬ f < (m 64 2) → κ (some (zi 0)) m) :
    T (D + 2) 100 (0, [(0, zr 64), (1, zi (x : Int)), (2, zi h), (3, zi f)], [], m) κ := by
  have hb3 : 0 ≤ (m 64 2) ∧ (m 64 2) ≤ 7 := hB 64 2
  have hb4 : 0 ≤ (m 65 (f.toNat)) ∧ (m 65 (f.toNat)) ≤ 20 := hB 65 (f.toNat)
  have hb5 : 0 ≤ (m 66 (f.toNat)) ∧ (m 66 (f.toNat)) ≤ 99 := hB 66 (f.toNat)
  have hb6 : (-2147483648) ≤ (z_shl 1 f) ∧ (z_shl 1 f) ≤ 2147483647 := z_shlB 1 f
  have hb7 : (-2147483648) ≤ (z_or (x : Int) (z_shl 1 f)) ∧ (z_or (x : Int) (z_shl 1 f)) ≤ 2147483647 := z_orB (x : Int) (z_shl 1 f)
  have hb8 : (-2147483648) ≤ wr (((h + (m 65 (f.toNat))) - (m 66 (f.toNat))) + (m 70 ((z_or (x : Int) (z_shl 1 f)).toNat))) ∧ wr (((h + (m 65 (f.toNat))) - (m 66 (f.toNat))) + (m 70 ((z_or (x : Int) (z_shl 1 f)).toNat))) ≤ 2147483647 := wrB (((h + (m 65 (f.toNat))) - (m 66 (f.toNat))) + (m 70 ((z_or (x : Int) (z_shl 1 f)).toNat)))
  have hb9 : (-2147483648) ≤ wr (0 + (m 70 ((z_or (x : Int) (z_shl 1 f)).toNat))) ∧ wr (0 + (m 70 ((z_or (x : Int) (z_shl 1 f)).toNat))) ≤ 2147483647 := wrB (0 + (m 70 ((z_or (x : Int) (z_shl 1 f)).toNat)))
  have he0 : wr f = f := wr_id (by omega) (by omega)
  have he1 : wr (m 64 2) = (m 64 2) := wr_id (by omega) (by omega)
  have he2 : wr ((h + (m 65 (f.toNat))) - (m 66 (f.toNat))) = ((h + (m 65 (f.toNat))) - (m 66 (f.toNat))) := wr_id (by omega) (by omega)
  have he3 : wr (z_or (x : Int) (z_shl 1 f)) = (z_or (x : Int) (z_shl 1 f)) := wr_id (by omega) (by omega)
  have key := @zb100_0r T hT D κ m x h f
  simp only [he0, he1, he2, he3, Int.toNat_natCast] at key
  exact key
    k1
    (fun x0 x1 => by refine ⟨?_, ?_⟩ <;> omega)
    (fun x0 x1 => by refine ⟨?_, ?_⟩ <;> omega)
    k2
    k3
    k4
    k5
    k6
theorem zb281_0r (hT : zRules T) {D : Nat} {κ : Option zA → zM → Prop} {m : zM} 
    (o1 : T (D + 1) 280 (0, [(0, zr 74), (1, zi 0), (2, zi 0), (3, zi 0), (4, zi 0)], [], (zu (zu m 74 12 0) 74 57 100000000)) (fun r m1 => T (D + 2) 281 (20, [(0, zr 74)], r.toList ++ [], m1) κ)) :
    T (D + 2) 281 (0, [(0, zr 74)], [], m) κ :=
  hT.1 [(27, [0, 1])] 6 (D + 2) 281 _ κ (And.intro trivial (And.intro trivial (hT.1 [(27, [0, 1])] 6 (D + 2) 281 (12, [(0, zr 74)], [], (zu (zu m 74 12 0) 74 57 100000000)) _ (o1))))
theorem zb281_0 (hT : zRules T) {D : Nat} {κ : Option zA → zM → Prop} {m : zM}  (hB : zB m) 
    (k1 : zB (zu (zu m 74 12 0) 74 57 100000000) → T (D + 1) 280 (0, [(0, zr 74), (1, zi 0), (2, zi 0), (3, zi 0), (4, zi 0)], [], (zu (zu m 74 12 0) 74 57 100000000)) (fun r m1 => T (D + 2) 281 (20, [(0, zr 74)], r.toList ++ [], m1) κ)) :
    T (D + 2) 281 (0, [(0, zr 74)], [], m) κ := by
  exact zb281_0r hT
    (k1  (zB_u (zB_u hB trivial) trivial))
theorem zb281_20r (hT : zRules T) {D : Nat} {κ : Option zA → zM → Prop} {m : zM} {lo : zL} (hlo : z_keep [0] lo = [(0, zr 74)]) 
    (o1 : T (D + 2) 281 (27, [(0, zr 74), (1, zi 0)], [], (zu m 74 11 0)) κ) :
    T (D + 2) 281 (20, lo, [], m) κ :=
  zkeep hT hlo (hT.1 [(27, [0, 1])] 6 (D + 2) 281 _ κ (And.intro trivial (o1)))
theorem zb281_20 (hT : zRules T) {D : Nat} {κ : Option zA → zM → Prop} {m : zM} {lo : zL} (hlo : z_keep [0] lo = [(0, zr 74)])  (hB : zB m) 
    (k1 : zB (zu m 74 11 0) → T (D + 2) 281 (27, [(0, zr 74), (1, zi 0)], [], (zu m 74 11 0)) κ) :
    T (D + 2) 281 (20, lo, [], m) κ := by
  exact zb281_20r hT hlo
    (k1  (zB_u hB (show 0 ≤ 0 ∧ 0 ≤ 32 from ⟨by omega, by omega⟩)))
theorem zb281_27r (hT : zRules T) {D : Nat} {κ : Option zA → zM → Prop} {m : zM} {i : Nat} {lo : zL} (hlo : z_keep [0, 1] lo = [(0, zr 74), (1, zi (i : Int))]) 
    (o1 : ¬ wr (i : Int) < wr (m 74 54) → κ (some (zi (wr (m 74 57)))) m)
    (o2 : wr (i : Int) < wr (m 74 54) → (0 ≤ wr (i : Int) ∧ wr (i : Int) < 7))
    (o3 : wr (i : Int) < wr (m 74 54) → (0 ≤ wr (m 74 11) ∧ wr (m 74 11) < 32))
    (o4 : wr (i : Int) < wr (m 74 54) → T (D + 2) 281 (27, [(0, zr 74), (1, zi ((i : Int) + 1))], [], (zu (zu m 81 ((wr (m 74 11)).toNat) (m 102 ((wr (i : Int)).toNat))) 74 11 ((m 74 11) + 1))) κ) :
    T (D + 2) 281 (27, lo, [], m) κ :=
  zkeep hT hlo (hT.1 [(27, [0, 1])] 6 (D + 2) 281 _ κ (And.intro (fun a1 => (hT.1 [(27, [0, 1])] 6 (D + 2) 281 (55, [(0, zr 74), (1, zi (i : Int))], [zi (m 74 57)], m) _ (o1 a1))) (fun a2 => (hT.1 [(27, [0, 1])] 6 (D + 2) 281 (37, [(0, zr 74), (1, zi (i : Int))], [zr 74, zr 74], m) _ (And.intro (o2 (Classical.byContradiction a2)) (hT.1 [] 6 (D + 1) 189 _ _ (And.intro (And.intro (o3 (Classical.byContradiction a2)) trivial) (hT.1 [] 6 (D + 1) 189 (10, [(0, zr 74), (1, zi (m 102 ((wr (i : Int)).toNat)))], [], (zu m 81 ((wr (m 74 11)).toNat) (m 102 ((wr (i : Int)).toNat)))) _ (And.intro trivial (hT.1 [] 6 (D + 1) 189 (20, [(0, zr 74), (1, zi (m 102 ((wr (i : Int)).toNat)))], [], (zu (zu m 81 ((wr (m 74 11)).toNat) (m 102 ((wr (i : Int)).toNat))) 74 11 ((m 74 11) + 1))) _ (hT.1 [(27, [0, 1])] 6 (D + 2) 281 _ _ (o4 (Classical.byContradiction a2)))))))))))))
theorem zb281_27 (hT : zRules T) {D : Nat} {κ : Option zA → zM → Prop} {m : zM} {i : Nat} {lo : zL} (hlo : z_keep [0, 1] lo = [(0, zr 74), (1, zi (i : Int))])  (hB : zB m) (h_i : i ≤ 7) 
    (k1 : ¬ (i : Int) < (m 74 54) → κ (some (zi (wr (m 74 57)))) m)
    (k2 : (i : Int) < (m 74 54) → (0 ≤ (m 74 11) ∧ (m 74 11) < 32))
    (k3 : (i : Int) < (m 74 54) → T (D + 2) 281 (27, [(0, zr 74), (1, zi ((i : Int) + 1))], [], (zu (zu m 81 ((m 74 11).toNat) (m 102 i)) 74 11 ((m 74 11) + 1))) κ) :
    T (D + 2) 281 (27, lo, [], m) κ := by
  have hb1 : 0 ≤ (m 74 54) ∧ (m 74 54) ≤ 7 := hB 74 54
  have hb2 : 0 ≤ (m 74 11) ∧ (m 74 11) ≤ 32 := hB 74 11
  have hb3 : (-2147483648) ≤ wr (m 74 57) ∧ wr (m 74 57) ≤ 2147483647 := wrB (m 74 57)
  have he0 : wr (i : Int) = (i : Int) := wr_id (by omega) (by omega)
  have he1 : wr (m 74 54) = (m 74 54) := wr_id (by omega) (by omega)
  have he2 : (i : Int).toNat = i := by omega
  have he3 : wr (m 74 11) = (m 74 11) := wr_id (by omega) (by omega)
  have key := @zb281_27r T hT D κ m i lo hlo
  simp only [he0, he1, he2, he3, Int.toNat_natCast] at key
  exact key
    k1
    (fun x0 => by refine ⟨?_, ?_⟩ <;> omega)
    k2
    k3
theorem zb280_0r (hT : zRules T) {D : Nat} {κ : Option zA → zM → Prop} {m : zM} {k : Nat} {x : Nat} {s : Int} {t : Int} 
    (o1 : wr t < wr (m 74 57) → ¬ wr (k : Int) = wr (m 74 54) → T (D + 1) 280 (57, [(0, zr 74), (1, zi (k : Int)), (2, zi (x : Int)), (3, zi s), (4, zi t), (5, zi 0)], [], m) κ)
    (o2 : wr t < wr (m 74 57) → wr (k : Int) = wr (m 74 54) → T (D + 1) 280 (27, [(0, zr 74), (1, zi (k : Int)), (5, zi 0)], [], (zu m 74 57 t)) κ)
    (o3 : ¬ wr t < wr (m 74 57) → κ (none) m) :
    T (D + 1) 280 (0, [(0, zr 74), (1, zi (k : Int)), (2, zi (x : Int)), (3, zi s), (4, zi t)], [], m) κ :=
  hT.1 [(27, [0, 1, 5]), (57, [0, 1, 2, 3, 4, 5])] 6 (D + 1) 280 _ κ (And.intro (fun a1 => (hT.1 [(27, [0, 1, 5]), (57, [0, 1, 2, 3, 4, 5])] 6 (D + 1) 280 (12, [(0, zr 74), (1, zi (k : Int)), (2, zi (x : Int)), (3, zi s), (4, zi t)], [zr 74, zi (k : Int)], m) _ (And.intro (fun a3 => (o1 a1 a3)) (fun a4 => (And.intro trivial (hT.1 [(27, [0, 1, 5]), (57, [0, 1, 2, 3, 4, 5])] 6 (D + 1) 280 (25, [(0, zr 74), (1, zi (k : Int)), (2, zi (x : Int)), (3, zi s), (4, zi t)], [zi 0], (zu m 74 57 t)) _ (o2 a1 (Classical.byContradiction a4)))))))) (fun a2 => (o3 a2)))
theorem zb280_0 (hT : zRules T) {D : Nat} {κ : Option zA → zM → Prop} {m : zM} {k : Nat} {x : Nat} {s : Int} {t : Int}  (hB : zB m) (h_k : k ≤ 7) (h_x : x ≤ 127) (h_s : 0 ≤ s ∧ s ≤ 700) (h_t : 0 ≤ t ∧ t ≤ 5000) 
    (k1 : t < wr (m 74 57) → ¬ (k : Int) = (m 74 54) → T (D + 1) 280 (57, [(0, zr 74), (1, zi (k : Int)), (2, zi (x : Int)), (3, zi s), (4, zi t), (5, zi 0)], [], m) κ)
    (k2 : t < wr (m 74 57) → (k : Int) = (m 74 54) → zB (zu m 74 57 t) → T (D + 1) 280 (27, [(0, zr 74), (1, zi (k : Int)), (5, zi 0)], [], (zu m 74 57 t)) κ)
    (k3 : ¬ t < wr (m 74 57) → κ (none) m) :
    T (D + 1) 280 (0, [(0, zr 74), (1, zi (k : Int)), (2, zi (x : Int)), (3, zi s), (4, zi t)], [], m) κ := by
  have hb4 : (-2147483648) ≤ wr (m 74 57) ∧ wr (m 74 57) ≤ 2147483647 := wrB (m 74 57)
  have hb5 : 0 ≤ (m 74 54) ∧ (m 74 54) ≤ 7 := hB 74 54
  have he0 : wr t = t := wr_id (by omega) (by omega)
  have he1 : wr (k : Int) = (k : Int) := wr_id (by omega) (by omega)
  have he2 : wr (m 74 54) = (m 74 54) := wr_id (by omega) (by omega)
  have key := @zb280_0r T hT D κ m k x s t
  simp only [he0, he1, he2, Int.toNat_natCast] at key
  exact key
    k1
    (fun x0 x1 => k2 x0 x1 (zB_u hB trivial))
    k3
theorem zb280_27r (hT : zRules T) {D : Nat} {κ : Option zA → zM → Prop} {m : zM} {k : Nat} {i : Nat} {lo : zL} (hlo : z_keep [0, 1, 5] lo = [(0, zr 74), (1, zi (k : Int)), (5, zi (i : Int))]) 
    (o1 : ¬ wr (i : Int) < wr (k : Int) → κ (none) m)
    (o2 : wr (i : Int) < wr (k : Int) → (0 ≤ wr (i : Int) ∧ wr (i : Int) < 7))
    (o3 : wr (i : Int) < wr (k : Int) → (0 ≤ wr (i : Int) ∧ wr (i : Int) < 7))
    (o4 : wr (i : Int) < wr (k : Int) → T (D + 1) 280 (27, [(0, zr 74), (1, zi (k : Int)), (5, zi ((i : Int) + 1))], [], (zu m 102 ((wr (i : Int)).toNat) (m 101 ((wr (i : Int)).toNat)))) κ) :
    T (D + 1) 280 (27, lo, [], m) κ :=
  zkeep hT hlo (hT.1 [(27, [0, 1, 5]), (57, [0, 1, 2, 3, 4, 5])] 6 (D + 1) 280 _ κ (And.intro (fun a1 => (o1 a1)) (fun a2 => (hT.1 [(27, [0, 1, 5]), (57, [0, 1, 2, 3, 4, 5])] 6 (D + 1) 280 (39, [(0, zr 74), (1, zi (k : Int)), (5, zi (i : Int))], [zi (i : Int), zr 102], m) _ (And.intro (o2 (Classical.byContradiction a2)) (And.intro (And.intro (o3 (Classical.byContradiction a2)) trivial) (hT.1 [(27, [0, 1, 5]), (57, [0, 1, 2, 3, 4, 5])] 6 (D + 1) 280 (50, [(0, zr 74), (1, zi (k : Int)), (5, zi ((i : Int) + 1))], [], (zu m 102 ((wr (i : Int)).toNat) (m 101 ((wr (i : Int)).toNat)))) _ (o4 (Classical.byContradiction a2)))))))))
theorem zb280_27 (hT : zRules T) {D : Nat} {κ : Option zA → zM → Prop} {m : zM} {k : Nat} {i : Nat} {lo : zL} (hlo : z_keep [0, 1, 5] lo = [(0, zr 74), (1, zi (k : Int)), (5, zi (i : Int))])  (hB : zB m) (h_k : k ≤ 7) (h_i : i ≤ 7) 
    (k1 : ¬ (i : Int) < (k : Int) → κ (none) m)
    (k2 : (i : Int) < (k : Int) → zB (zu m 102 i (m 101 i)) → T (D + 1) 280 (27, [(0, zr 74), (1, zi (k : Int)), (5, zi ((i : Int) + 1))], [], (zu m 102 i (m 101 i))) κ) :
    T (D + 1) 280 (27, lo, [], m) κ := by
  have he0 : wr (i : Int) = (i : Int) := wr_id (by omega) (by omega)
  have he1 : wr (k : Int) = (k : Int) := wr_id (by omega) (by omega)
  have he2 : (i : Int).toNat = i := by omega
  have key := @zb280_27r T hT D κ m k i lo hlo
  simp only [he0, he1, he2, Int.toNat_natCast] at key
  exact key
    k1
    (fun x0 => by refine ⟨?_, ?_⟩ <;> omega)
    (fun x0 => by refine ⟨?_, ?_⟩ <;> omega)
    (fun x0 => k2 x0 (zB_u hB trivial))
theorem zb280_57r (hT : zRules T) {D : Nat} {κ : Option zA → zM → Prop} {m : zM} {k : Nat} {x : Nat} {s : Int} {t : Int} {i : Nat} {lo : zL} (hlo : z_keep [0, 1, 2, 3, 4, 5] lo = [(0, zr 74), (1, zi (k : Int)), (2, zi (x : Int)), (3, zi s), (4, zi t), (5, zi (i : Int))]) 
    (o1 : ¬ wr (i : Int) < wr (m 74 54) → κ (none) m)
    (o2 : wr (i : Int) < wr (m 74 54) → ¬ wr (z_and (z_shr (x : Int) (i : Int)) 1) = 1 → (0 ≤ wr (k : Int) ∧ wr (k : Int) < 7))
    (o3 : wr (i : Int) < wr (m 74 54) → ¬ wr (z_and (z_shr (x : Int) (i : Int)) 1) = 1 → (0 ≤ wr (2 * (i : Int)) ∧ wr (2 * (i : Int)) < 14))
    (o4 : wr (i : Int) < wr (m 74 54) → ¬ wr (z_and (z_shr (x : Int) (i : Int)) 1) = 1 → (0 ≤ wr ((2 * (i : Int)) + 1) ∧ wr ((2 * (i : Int)) + 1) < 14))
    (o5 : wr (i : Int) < wr (m 74 54) → ¬ wr (z_and (z_shr (x : Int) (i : Int)) 1) = 1 → 0 < wr ((s + (m 100 ((wr (2 * (i : Int))).toNat))) - (m 100 ((wr ((2 * (i : Int)) + 1)).toNat))) → T D 280 (0, [(0, zr 74), (1, zi ((k : Int) + 1)), (2, zi (z_or (x : Int) (z_shl 1 (i : Int)))), (3, zi (s + (m 100 ((wr (2 * (i : Int))).toNat)))), (4, zi (t + wr ((s + (m 100 ((wr (2 * (i : Int))).toNat))) - (m 100 ((wr ((2 * (i : Int)) + 1)).toNat)))))], [], (zu m 101 ((wr (k : Int)).toNat) (i : Int))) (fun r m1 => T (D + 1) 280 (135, [(0, zr 74), (1, zi (k : Int)), (2, zi (x : Int)), (3, zi s), (4, zi t), (5, zi (i : Int)), (6, zi (s + (m 100 ((wr (2 * (i : Int))).toNat))))], r.toList ++ [], m1) κ))
    (o6 : wr (i : Int) < wr (m 74 54) → ¬ wr (z_and (z_shr (x : Int) (i : Int)) 1) = 1 → ¬ 0 < wr ((s + (m 100 ((wr (2 * (i : Int))).toNat))) - (m 100 ((wr ((2 * (i : Int)) + 1)).toNat))) → T D 280 (0, [(0, zr 74), (1, zi ((k : Int) + 1)), (2, zi (z_or (x : Int) (z_shl 1 (i : Int)))), (3, zi (s + (m 100 ((wr (2 * (i : Int))).toNat)))), (4, zi (t + 0))], [], (zu m 101 ((wr (k : Int)).toNat) (i : Int))) (fun r m1 => T (D + 1) 280 (135, [(0, zr 74), (1, zi (k : Int)), (2, zi (x : Int)), (3, zi s), (4, zi t), (5, zi (i : Int)), (6, zi (s + (m 100 ((wr (2 * (i : Int))).toNat))))], r.toList ++ [], m1) κ))
    (o7 : wr (i : Int) < wr (m 74 54) → wr (z_and (z_shr (x : Int) (i : Int)) 1) = 1 → T (D + 1) 280 (57, [(0, zr 74), (1, zi (k : Int)), (2, zi (x : Int)), (3, zi s), (4, zi t), (5, zi ((i : Int) + 1))], [], m) κ) :
    T (D + 1) 280 (57, lo, [], m) κ :=
  zkeep hT hlo (hT.1 [(27, [0, 1, 5]), (57, [0, 1, 2, 3, 4, 5])] 6 (D + 1) 280 _ κ (And.intro (fun a1 => (o1 a1)) (fun a2 => (hT.1 [(27, [0, 1, 5]), (57, [0, 1, 2, 3, 4, 5])] 6 (D + 1) 280 (69, [(0, zr 74), (1, zi (k : Int)), (2, zi (x : Int)), (3, zi s), (4, zi t), (5, zi (i : Int))], [zi (i : Int), zi (x : Int)], m) _ (hT.1 [] 6 D 187 _ _ (hT.1 [] 6 D 187 (6, [(0, zi (x : Int)), (1, zi (i : Int))], [zi 1, zi (z_and (z_shr (x : Int) (i : Int)) 1)], m) _ (And.intro (fun a3 => (And.intro (z_b01L rfl) (hT.1 [(27, [0, 1, 5]), (57, [0, 1, 2, 3, 4, 5])] 6 (D + 1) 280 _ _ (And.intro (fun _ => (And.intro (And.intro (o2 (Classical.byContradiction a2) a3) trivial) (hT.1 [(27, [0, 1, 5]), (57, [0, 1, 2, 3, 4, 5])] 6 (D + 1) 280 (86, [(0, zr 74), (1, zi (k : Int)), (2, zi (x : Int)), (3, zi s), (4, zi t), (5, zi (i : Int))], [], (zu m 101 ((wr (k : Int)).toNat) (i : Int))) _ (hT.1 [(27, [0, 1, 5]), (57, [0, 1, 2, 3, 4, 5])] 6 (D + 1) 280 (95, [(0, zr 74), (1, zi (k : Int)), (2, zi (x : Int)), (3, zi s), (4, zi t), (5, zi (i : Int))], [zi (2 * (i : Int)), zr 100, zi s], (zu m 101 ((wr (k : Int)).toNat) (i : Int))) _ (And.intro (o3 (Classical.byContradiction a2) a3) (hT.1 [(27, [0, 1, 5]), (57, [0, 1, 2, 3, 4, 5])] 6 (D + 1) 280 (102, [(0, zr 74), (1, zi (k : Int)), (2, zi (x : Int)), (3, zi s), (4, zi t), (5, zi (i : Int)), (6, zi (s + (m 100 ((wr (2 * (i : Int))).toNat))))], [zi 1, zi (k : Int), zr 74], (zu m 101 ((wr (k : Int)).toNat) (i : Int))) _ (hT.1 [(27, [0, 1, 5]), (57, [0, 1, 2, 3, 4, 5])] 6 (D + 1) 280 (109, [(0, zr 74), (1, zi (k : Int)), (2, zi (x : Int)), (3, zi s), (4, zi t), (5, zi (i : Int)), (6, zi (s + (m 100 ((wr (2 * (i : Int))).toNat))))], [zi (z_or (x : Int) (z_shl 1 (i : Int))), zi ((k : Int) + 1), zr 74], (zu m 101 ((wr (k : Int)).toNat) (i : Int))) _ (hT.1 [(27, [0, 1, 5]), (57, [0, 1, 2, 3, 4, 5])] 6 (D + 1) 280 (120, [(0, zr 74), (1, zi (k : Int)), (2, zi (x : Int)), (3, zi s), (4, zi t), (5, zi (i : Int)), (6, zi (s + (m 100 ((wr (2 * (i : Int))).toNat))))], [zr 100, zi (s + (m 100 ((wr (2 * (i : Int))).toNat))), zi 0, zi t, zi (s + (m 100 ((wr (2 * (i : Int))).toNat))), zi (z_or (x : Int) (z_shl 1 (i : Int))), zi ((k : Int) + 1), zr 74], (zu m 101 ((wr (k : Int)).toNat) (i : Int))) _ (And.intro (o4 (Classical.byContradiction a2) a3) (hT.1 [(27, [0, 1, 5]), (57, [0, 1, 2, 3, 4, 5])] 6 (D + 1) 280 (127, [(0, zr 74), (1, zi (k : Int)), (2, zi (x : Int)), (3, zi s), (4, zi t), (5, zi (i : Int)), (6, zi (s + (m 100 ((wr (2 * (i : Int))).toNat))))], [zi (m 100 ((wr ((2 * (i : Int)) + 1)).toNat)), zi (s + (m 100 ((wr (2 * (i : Int))).toNat))), zi 0, zi t, zi (s + (m 100 ((wr (2 * (i : Int))).toNat))), zi (z_or (x : Int) (z_shl 1 (i : Int))), zi ((k : Int) + 1), zr 74], (zu m 101 ((wr (k : Int)).toNat) (i : Int))) _ (hT.1 [] 6 D 295 _ _ (And.intro (fun a6 => (hT.1 [(27, [0, 1, 5]), (57, [0, 1, 2, 3, 4, 5])] 6 (D + 1) 280 _ _ (o5 (Classical.byContradiction a2) a3 a6))) (fun a7 => (hT.1 [(27, [0, 1, 5]), (57, [0, 1, 2, 3, 4, 5])] 6 (D + 1) 280 _ _ (o6 (Classical.byContradiction a2) a3 a7))))))))))))))) (fun a5 => (a5 (z_litT rfl)).elim))))) (fun a4 => (And.intro (z_b01L rfl) (hT.1 [(27, [0, 1, 5]), (57, [0, 1, 2, 3, 4, 5])] 6 (D + 1) 280 _ _ (And.intro (fun a8 => (z_litF a8 rfl).elim) (fun _ => (o7 (Classical.byContradiction a2) (Classical.byContradiction a4))))))))))))))
theorem zb280_57 (hT : zRules T) {D : Nat} {κ : Option zA → zM → Prop} {m : zM} {k : Nat} {x : Nat} {s : Int} {t : Int} {i : Nat} {lo : zL} (hlo : z_keep [0, 1, 2, 3, 4, 5] lo = [(0, zr 74), (1, zi (k : Int)), (2, zi (x : Int)), (3, zi s), (4, zi t), (5, zi (i : Int))])  (hB : zB m) (h_k : k ≤ 6) (h_x : x ≤ 127) (h_s : 0 ≤ s ∧ s ≤ 700) (h_t : 0 ≤ t ∧ t ≤ 5000) (h_i : i ≤ 7) 
    (k1 : ¬ (i : Int) < (m 74 54) → κ (none) m)
    (k2 : (i : Int) < (m 74 54) → ¬ (z_and (z_shr (x : Int) (i : Int)) 1) = 1 → 0 < ((s + (m 100 (2 * i))) - (m 100 (2 * i + 1))) → zB (zu m 101 k (i : Int)) → T D 280 (0, [(0, zr 74), (1, zi ((k : Int) + 1)), (2, zi (z_or (x : Int) (z_shl 1 (i : Int)))), (3, zi (s + (m 100 (2 * i)))), (4, zi (t + ((s + (m 100 (2 * i))) - (m 100 (2 * i + 1)))))], [], (zu m 101 k (i : Int))) (fun r m1 => T (D + 1) 280 (135, [(0, zr 74), (1, zi (k : Int)), (2, zi (x : Int)), (3, zi s), (4, zi t), (5, zi (i : Int)), (6, zi (s + (m 100 (2 * i))))], r.toList ++ [], m1) κ))
    (k3 : (i : Int) < (m 74 54) → ¬ (z_and (z_shr (x : Int) (i : Int)) 1) = 1 → ¬ 0 < ((s + (m 100 (2 * i))) - (m 100 (2 * i + 1))) → zB (zu m 101 k (i : Int)) → T D 280 (0, [(0, zr 74), (1, zi ((k : Int) + 1)), (2, zi (z_or (x : Int) (z_shl 1 (i : Int)))), (3, zi (s + (m 100 (2 * i)))), (4, zi (t + 0))], [], (zu m 101 k (i : Int))) (fun r m1 => T (D + 1) 280 (135, [(0, zr 74), (1, zi (k : Int)), (2, zi (x : Int)), (3, zi s), (4, zi t), (5, zi (i : Int)), (6, zi (s + (m 100 (2 * i))))], r.toList ++ [], m1) κ))
    (k4 : (i : Int) < (m 74 54) → (z_and (z_shr (x : Int) (i : Int)) 1) = 1 → T (D + 1) 280 (57, [(0, zr 74), (1, zi (k : Int)), (2, zi (x : Int)), (3, zi s), (4, zi t), (5, zi ((i : Int) + 1))], [], m) κ) :
    T (D + 1) 280 (57, lo, [], m) κ := by
  have hb5 : 0 ≤ (m 74 54) ∧ (m 74 54) ≤ 7 := hB 74 54
  have hb6 : (-2147483648) ≤ (z_shr (x : Int) (i : Int)) ∧ (z_shr (x : Int) (i : Int)) ≤ 2147483647 := z_shrB (x : Int) (i : Int)
  have hb7 : 0 ≤ (z_and (z_shr (x : Int) (i : Int)) 1) ∧ (z_and (z_shr (x : Int) (i : Int)) 1) ≤ 1 := z_andC (z_shr (x : Int) (i : Int)) 1 (by decide)
  have hb8 : 0 ≤ (m 100 (2 * i)) ∧ (m 100 (2 * i)) ≤ 99 := hB 100 (2 * i)
  have hb9 : (-2147483648) ≤ (z_shl 1 (i : Int)) ∧ (z_shl 1 (i : Int)) ≤ 2147483647 := z_shlB 1 (i : Int)
  have hb10 : (-2147483648) ≤ (z_or (x : Int) (z_shl 1 (i : Int))) ∧ (z_or (x : Int) (z_shl 1 (i : Int))) ≤ 2147483647 := z_orB (x : Int) (z_shl 1 (i : Int))
  have hb11 : 0 ≤ (m 100 (2 * i + 1)) ∧ (m 100 (2 * i + 1)) ≤ 99 := hB 100 (2 * i + 1)
  have he0 : wr (i : Int) = (i : Int) := wr_id (by omega) (by omega)
  have he1 : wr (m 74 54) = (m 74 54) := wr_id (by omega) (by omega)
  have he2 : wr (z_and (z_shr (x : Int) (i : Int)) 1) = (z_and (z_shr (x : Int) (i : Int)) 1) := wr_id (by omega) (by omega)
  have he3 : wr (k : Int) = (k : Int) := wr_id (by omega) (by omega)
  have he4 : (k : Int).toNat = k := by omega
  have he5 : wr (2 * (i : Int)) = (2 * (i : Int)) := wr_id (by omega) (by omega)
  have he6 : (2 * (i : Int)).toNat = 2 * i := by omega
  have he7 : wr ((2 * (i : Int)) + 1) = ((2 * (i : Int)) + 1) := wr_id (by omega) (by omega)
  have he8 : ((2 * (i : Int)) + 1).toNat = 2 * i + 1 := by omega
  have he9 : wr ((s + (m 100 (2 * i))) - (m 100 (2 * i + 1))) = ((s + (m 100 (2 * i))) - (m 100 (2 * i + 1))) := wr_id (by omega) (by omega)
  have key := @zb280_57r T hT D κ m k x s t i lo hlo
  simp only [he0, he1, he2, he3, he4, he5, he6, he7, he8, he9, Int.toNat_natCast] at key
  exact key
    k1
    (fun x0 x1 => by refine ⟨?_, ?_⟩ <;> omega)
    (fun x0 x1 => by refine ⟨?_, ?_⟩ <;> omega)
    (fun x0 x1 => by refine ⟨?_, ?_⟩ <;> omega)
    (fun x0 x1 x2 => k2 x0 x1 x2 (zB_u hB trivial))
    (fun x0 x1 x2 => k3 x0 x1 x2 (zB_u hB trivial))
    k4
theorem zb280_135r (hT : zRules T) {D : Nat} {κ : Option zA → zM → Prop} {m : zM} {k : Nat} {x : Nat} {s : Int} {t : Int} {i : Nat} {lo : zL} (hlo : z_keep [0, 1, 2, 3, 4, 5] lo = [(0, zr 74), (1, zi (k : Int)), (2, zi (x : Int)), (3, zi s), (4, zi t), (5, zi (i : Int))]) 
    (o1 : T (D + 1) 280 (57, [(0, zr 74), (1, zi (k : Int)), (2, zi (x : Int)), (3, zi s), (4, zi t), (5, zi ((i : Int) + 1))], [], m) κ) :
    T (D + 1) 280 (135, lo, [], m) κ :=
  zkeep hT hlo (hT.1 [(27, [0, 1, 5]), (57, [0, 1, 2, 3, 4, 5])] 6 (D + 1) 280 _ κ (o1))
theorem zb280_135 (hT : zRules T) {D : Nat} {κ : Option zA → zM → Prop} {m : zM} {k : Nat} {x : Nat} {s : Int} {t : Int} {i : Nat} {lo : zL} (hlo : z_keep [0, 1, 2, 3, 4, 5] lo = [(0, zr 74), (1, zi (k : Int)), (2, zi (x : Int)), (3, zi s), (4, zi t), (5, zi (i : Int))])  (hB : zB m) (h_k : k ≤ 6) (h_x : x ≤ 127) (h_s : 0 ≤ s ∧ s ≤ 700) (h_t : 0 ≤ t ∧ t ≤ 5000) (h_i : i ≤ 6) 
    (k1 : T (D + 1) 280 (57, [(0, zr 74), (1, zi (k : Int)), (2, zi (x : Int)), (3, zi s), (4, zi t), (5, zi ((i : Int) + 1))], [], m) κ) :
    T (D + 1) 280 (135, lo, [], m) κ := by
  exact zb280_135r hT hlo
    k1
end ZBlocks
