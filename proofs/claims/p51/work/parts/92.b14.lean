section ZBlocks
variable {T : Nat → Nat → zG → (Option zA → zM → Prop) → Prop}
theorem zb145_0r (hT : zRules T) {D : Nat} {κ : Option zA → zM → Prop} {m : zM} 
    (o1 : T (D + 5) 145 (6, [(0, zr 1), (1, zi 0), (2, zi 0), (3, zi 0)], [], m) κ) :
    T (D + 5) 145 (0, [(0, zr 1)], [], m) κ :=
  hT.1 [(6, [0, 1, 2, 3])] 6 (D + 5) 145 _ κ (o1)
theorem zb145_0 (hT : zRules T) {D : Nat} {κ : Option zA → zM → Prop} {m : zM}  (hB : zB m) 
    (k1 : T (D + 5) 145 (6, [(0, zr 1), (1, zi 0), (2, zi 0), (3, zi 0)], [], m) κ) :
    T (D + 5) 145 (0, [(0, zr 1)], [], m) κ := by
  exact zb145_0r hT
    k1
theorem zb145_6r (hT : zRules T) {D : Nat} {κ : Option zA → zM → Prop} {m : zM} {w : Nat} {o : Nat} {p : Nat} {lo : zL} (hlo : z_keep [0, 1, 2, 3] lo = [(0, zr 1), (1, zi (w : Int)), (2, zi (o : Int)), (3, zi (p : Int))]) 
    (o1 : ¬ wr (p : Int) < wr (m 17 0) → T (D + 4) 293 (0, [(0, zi (o : Int))], [], (zu (zu m 72 1 1) 73 0 (o : Int))) (fun r m1 => T (D + 5) 145 (69, [(0, zr 1), (1, zi (w : Int)), (2, zi (o : Int)), (3, zi (p : Int))], r.toList ++ [], m1) κ))
    (o2 : wr (p : Int) < wr (m 17 0) → T (D + 4) 171 (0, [(0, zr 1), (1, zi (p : Int))], [], m) (fun r m1 => T (D + 5) 145 (26, [(0, zr 1), (1, zi (w : Int)), (2, zi (o : Int)), (3, zi (p : Int))], r.toList ++ [zr 17], m1) κ)) :
    T (D + 5) 145 (6, lo, [], m) κ :=
  zkeep hT hlo (hT.1 [(6, [0, 1, 2, 3])] 6 (D + 5) 145 _ κ (And.intro (fun a1 => (hT.1 [(6, [0, 1, 2, 3])] 6 (D + 5) 145 (58, [(0, zr 1), (1, zi (w : Int)), (2, zi (o : Int)), (3, zi (p : Int))], [zr 1], m) _ (hT.1 [] 6 (D + 4) 45 _ _ (And.intro trivial (hT.1 [] 6 (D + 4) 45 (10, [(0, zr 72), (1, zi (o : Int))], [zi 0, zr 73], (zu m 72 1 1)) _ (And.intro (And.intro (z_ixL rfl) trivial) (hT.1 [(6, [0, 1, 2, 3])] 6 (D + 5) 145 _ _ (o1 a1)))))))) (fun a2 => (hT.1 [(6, [0, 1, 2, 3])] 6 (D + 5) 145 (18, [(0, zr 1), (1, zi (w : Int)), (2, zi (o : Int)), (3, zi (p : Int))], [zr 1], m) _ (o2 (Classical.byContradiction a2))))))
theorem zb145_6 (hT : zRules T) {D : Nat} {κ : Option zA → zM → Prop} {m : zM} {w : Nat} {o : Nat} {p : Nat} {lo : zL} (hlo : z_keep [0, 1, 2, 3] lo = [(0, zr 1), (1, zi (w : Int)), (2, zi (o : Int)), (3, zi (p : Int))])  (hB : zB m) (h_w : w ≤ 255) (h_o : o ≤ 63) (h_p : p ≤ 6) 
    (k1 : ¬ (p : Int) < (m 17 0) → zB (zu (zu m 72 1 1) 73 0 (o : Int)) → T (D + 4) 293 (0, [(0, zi (o : Int))], [], (zu (zu m 72 1 1) 73 0 (o : Int))) (fun r m1 => T (D + 5) 145 (69, [(0, zr 1), (1, zi (w : Int)), (2, zi (o : Int)), (3, zi (p : Int))], r.toList ++ [], m1) κ))
    (k2 : (p : Int) < (m 17 0) → T (D + 4) 171 (0, [(0, zr 1), (1, zi (p : Int))], [], m) (fun r m1 => T (D + 5) 145 (26, [(0, zr 1), (1, zi (w : Int)), (2, zi (o : Int)), (3, zi (p : Int))], r.toList ++ [zr 17], m1) κ)) :
    T (D + 5) 145 (6, lo, [], m) κ := by
  have hb3 : 0 ≤ (m 17 0) ∧ (m 17 0) ≤ 6 := hB 17 0
  have he0 : wr (p : Int) = (p : Int) := wr_id (by omega) (by omega)
  have he1 : wr (m 17 0) = (m 17 0) := wr_id (by omega) (by omega)
  have key := @zb145_6r T hT D κ m w o p lo hlo
  simp only [he0, he1, Int.toNat_natCast] at key
  exact key
    (fun x0 => k1 x0 (zB_u (zB_u hB (show 0 ≤ 1 ∧ 1 ≤ 26 from ⟨by omega, by omega⟩)) trivial))
    k2
theorem zb145_26r (hT : zRules T) {D : Nat} {κ : Option zA → zM → Prop} {m : zM} {w : Nat} {o : Nat} {p : Nat} {v : Int} {lo : zL} (hlo : z_keep [0, 1, 2, 3] lo = [(0, zr 1), (1, zi (w : Int)), (2, zi (o : Int)), (3, zi (p : Int))]) 
    (o1 : T (D + 4) 31 (0, [(0, zr 17), (1, zi v), (2, zi (w : Int))], [], m) (fun r m1 => T (D + 5) 145 (30, [(0, zr 1), (1, zi (w : Int)), (2, zi (o : Int)), (3, zi (p : Int))], r.toList ++ [], m1) κ)) :
    T (D + 5) 145 (26, lo, [zi v, zr 17], m) κ :=
  zkeep hT hlo (hT.1 [(6, [0, 1, 2, 3])] 6 (D + 5) 145 _ κ (o1))
theorem zb145_26 (hT : zRules T) {D : Nat} {κ : Option zA → zM → Prop} {m : zM} {w : Nat} {o : Nat} {p : Nat} {v : Int} {lo : zL} (hlo : z_keep [0, 1, 2, 3] lo = [(0, zr 1), (1, zi (w : Int)), (2, zi (o : Int)), (3, zi (p : Int))])  (hB : zB m) (h_w : w ≤ 255) (h_o : o ≤ 63) (h_p : p ≤ 5) (h_v : 0 ≤ v ∧ v ≤ 99) 
    (k1 : T (D + 4) 31 (0, [(0, zr 17), (1, zi v), (2, zi (w : Int))], [], m) (fun r m1 => T (D + 5) 145 (30, [(0, zr 1), (1, zi (w : Int)), (2, zi (o : Int)), (3, zi (p : Int))], r.toList ++ [], m1) κ)) :
    T (D + 5) 145 (26, lo, [zi v, zr 17], m) κ := by
  exact zb145_26r hT hlo
    k1
theorem zb145_30r (hT : zRules T) {D : Nat} {κ : Option zA → zM → Prop} {m : zM} {w : Nat} {o : Nat} {p : Nat} {v : Int} {lo : zL} (hlo : z_keep [0, 1, 2, 3] lo = [(0, zr 1), (1, zi (w : Int)), (2, zi (o : Int)), (3, zi (p : Int))]) 
    (o1 : wr v = (-1) → T (D + 5) 145 (6, [(0, zr 1), (1, zi (w : Int)), (2, zi (o : Int)), (3, zi ((p : Int) + 1))], [], m) κ)
    (o2 : ¬ wr v = (-1) → T (D + 5) 145 (6, [(0, zr 1), (1, zi (z_or (w : Int) (z_shl 1 v))), (2, zi (z_or (o : Int) (z_shl 1 (p : Int)))), (3, zi ((p : Int) + 1))], [], m) κ) :
    T (D + 5) 145 (30, lo, [zi v], m) κ :=
  zkeep hT hlo (hT.1 [(6, [0, 1, 2, 3])] 6 (D + 5) 145 _ κ (And.intro (fun a1 => (o1 a1)) (fun a2 => (hT.1 [(6, [0, 1, 2, 3])] 6 (D + 5) 145 (40, [(0, zr 1), (1, zi (w : Int)), (2, zi (o : Int)), (3, zi (p : Int)), (4, zi v)], [zi 1, zi (w : Int)], m) _ (hT.1 [(6, [0, 1, 2, 3])] 6 (D + 5) 145 (47, [(0, zr 1), (1, zi (z_or (w : Int) (z_shl 1 v))), (2, zi (o : Int)), (3, zi (p : Int)), (4, zi v)], [zi 1, zi (o : Int)], m) _ (o2 a2))))))
theorem zb145_30 (hT : zRules T) {D : Nat} {κ : Option zA → zM → Prop} {m : zM} {w : Nat} {o : Nat} {p : Nat} {v : Int} {lo : zL} (hlo : z_keep [0, 1, 2, 3] lo = [(0, zr 1), (1, zi (w : Int)), (2, zi (o : Int)), (3, zi (p : Int))])  (hB : zB m) (h_w : w ≤ 255) (h_o : o ≤ 63) (h_p : p ≤ 5) (h_v : (-1) ≤ v ∧ v ≤ 7) 
    (k1 : v = (-1) → T (D + 5) 145 (6, [(0, zr 1), (1, zi (w : Int)), (2, zi (o : Int)), (3, zi ((p : Int) + 1))], [], m) κ)
    (k2 : ¬ v = (-1) → T (D + 5) 145 (6, [(0, zr 1), (1, zi (z_or (w : Int) (z_shl 1 v))), (2, zi (z_or (o : Int) (z_shl 1 (p : Int)))), (3, zi ((p : Int) + 1))], [], m) κ) :
    T (D + 5) 145 (30, lo, [zi v], m) κ := by
  have hb4 : (-2147483648) ≤ (z_shl 1 v) ∧ (z_shl 1 v) ≤ 2147483647 := z_shlB 1 v
  have hb5 : (-2147483648) ≤ (z_or (w : Int) (z_shl 1 v)) ∧ (z_or (w : Int) (z_shl 1 v)) ≤ 2147483647 := z_orB (w : Int) (z_shl 1 v)
  have hb6 : (-2147483648) ≤ (z_shl 1 (p : Int)) ∧ (z_shl 1 (p : Int)) ≤ 2147483647 := z_shlB 1 (p : Int)
  have hb7 : (-2147483648) ≤ (z_or (o : Int) (z_shl 1 (p : Int))) ∧ (z_or (o : Int) (z_shl 1 (p : Int))) ≤ 2147483647 := z_orB (o : Int) (z_shl 1 (p : Int))
  have he0 : wr v = v := wr_id (by omega) (by omega)
  have key := @zb145_30r T hT D κ m w o p v lo hlo
  simp only [he0, Int.toNat_natCast] at key
  exact key
    k1
    k2
theorem zb145_65r (hT : zRules T) {D : Nat} {κ : Option zA → zM → Prop} {m : zM} {o : Nat} {lo : zL} (hlo : z_keep [2] lo = [(2, zi (o : Int))]) 
    (o1 : T (D + 4) 293 (0, [(0, zi (o : Int))], [], m) (fun r m1 => T (D + 5) 145 (69, [(2, zi (o : Int))], r.toList ++ [], m1) κ)) :
    T (D + 5) 145 (65, lo, [], m) κ :=
  zkeep hT hlo (hT.1 [(6, [0, 1, 2, 3])] 6 (D + 5) 145 _ κ (o1))
theorem zb145_65 (hT : zRules T) {D : Nat} {κ : Option zA → zM → Prop} {m : zM} {o : Nat} {lo : zL} (hlo : z_keep [2] lo = [(2, zi (o : Int))])  (hB : zB m) (h_o : o ≤ 63) 
    (k1 : T (D + 4) 293 (0, [(0, zi (o : Int))], [], m) (fun r m1 => T (D + 5) 145 (69, [(2, zi (o : Int))], r.toList ++ [], m1) κ)) :
    T (D + 5) 145 (65, lo, [], m) κ := by
  exact zb145_65r hT hlo
    k1
theorem zb145_69r (hT : zRules T) {D : Nat} {κ : Option zA → zM → Prop} {m : zM} {v : Int} {lo : zL} (hlo : z_keep [] lo = []) 
    (o1 : κ (some (zi (wr v))) m) :
    T (D + 5) 145 (69, lo, [zi v], m) κ :=
  zkeep hT hlo (hT.1 [(6, [0, 1, 2, 3])] 6 (D + 5) 145 _ κ (o1))
theorem zb145_69 (hT : zRules T) {D : Nat} {κ : Option zA → zM → Prop} {m : zM} {v : Int} {lo : zL} (hlo : z_keep [] lo = [])  (h_v : (-2147483648) ≤ v ∧ v ≤ 2147483647) 
    (k1 : κ (some (zi v)) m) :
    T (D + 5) 145 (69, lo, [zi v], m) κ := by
  have he0 : wr v = v := wr_id (by omega) (by omega)
  have key := @zb145_69r T hT D κ m v lo hlo
  simp only [he0, Int.toNat_natCast] at key
  exact key
    k1
theorem zb31_0r (hT : zRules T) {D : Nat} {κ : Option zA → zM → Prop} {m : zM} {v : Int} {w : Nat} 
    (o1 : T (D + 1) 31 (2, [(0, zr 17), (1, zi v), (2, zi (w : Int)), (3, zi 0)], [], m) κ) :
    T (D + 1) 31 (0, [(0, zr 17), (1, zi v), (2, zi (w : Int))], [], m) κ :=
  hT.1 [(2, [0, 1, 2, 3])] 6 (D + 1) 31 _ κ (o1)
theorem zb31_0 (hT : zRules T) {D : Nat} {κ : Option zA → zM → Prop} {m : zM} {v : Int} {w : Nat}  (hB : zB m) (h_v : 0 ≤ v ∧ v ≤ 99) (h_w : w ≤ 255) 
    (k1 : T (D + 1) 31 (2, [(0, zr 17), (1, zi v), (2, zi (w : Int)), (3, zi 0)], [], m) κ) :
    T (D + 1) 31 (0, [(0, zr 17), (1, zi v), (2, zi (w : Int))], [], m) κ := by
  exact zb31_0r hT
    k1
theorem zb31_2r (hT : zRules T) {D : Nat} {κ : Option zA → zM → Prop} {m : zM} {v : Int} {w : Nat} {i : Nat} {lo : zL} (hlo : z_keep [0, 1, 2, 3] lo = [(0, zr 17), (1, zi v), (2, zi (w : Int)), (3, zi (i : Int))]) 
    (o1 : ¬ wr (i : Int) < wr (m 17 1) → κ (some (zi (-1))) m)
    (o2 : wr (i : Int) < wr (m 17 1) → ¬ wr (z_and (z_shr (w : Int) (i : Int)) 1) = 0 → T (D + 1) 31 (2, [(0, zr 17), (1, zi v), (2, zi (w : Int)), (3, zi ((i : Int) + 1))], [], m) κ)
    (o3 : wr (i : Int) < wr (m 17 1) → wr (z_and (z_shr (w : Int) (i : Int)) 1) = 0 → (0 ≤ wr (i : Int) ∧ wr (i : Int) < 8))
    (o4 : wr (i : Int) < wr (m 17 1) → wr (z_and (z_shr (w : Int) (i : Int)) 1) = 0 → ¬ wr (m 21 ((wr (i : Int)).toNat)) = wr v → T (D + 1) 31 (2, [(0, zr 17), (1, zi v), (2, zi (w : Int)), (3, zi ((i : Int) + 1))], [], m) κ)
    (o5 : wr (i : Int) < wr (m 17 1) → wr (z_and (z_shr (w : Int) (i : Int)) 1) = 0 → wr (m 21 ((wr (i : Int)).toNat)) = wr v → κ (some (zi (wr (i : Int)))) m) :
    T (D + 1) 31 (2, lo, [], m) κ :=
  zkeep hT hlo (hT.1 [(2, [0, 1, 2, 3])] 6 (D + 1) 31 _ κ (And.intro (fun a1 => (o1 a1)) (fun a2 => (hT.1 [(2, [0, 1, 2, 3])] 6 (D + 1) 31 (12, [(0, zr 17), (1, zi v), (2, zi (w : Int)), (3, zi (i : Int))], [zi (i : Int), zi (w : Int)], m) _ (And.intro (fun a3 => (o2 (Classical.byContradiction a2) a3)) (fun a4 => (hT.1 [(2, [0, 1, 2, 3])] 6 (D + 1) 31 (22, [(0, zr 17), (1, zi v), (2, zi (w : Int)), (3, zi (i : Int))], [zr 21], m) _ (And.intro (o3 (Classical.byContradiction a2) (Classical.byContradiction a4)) (And.intro (fun a5 => (o4 (Classical.byContradiction a2) (Classical.byContradiction a4) a5)) (fun a6 => (o5 (Classical.byContradiction a2) (Classical.byContradiction a4) (Classical.byContradiction a6))))))))))))
theorem zb31_2 (hT : zRules T) {D : Nat} {κ : Option zA → zM → Prop} {m : zM} {v : Int} {w : Nat} {i : Nat} {lo : zL} (hlo : z_keep [0, 1, 2, 3] lo = [(0, zr 17), (1, zi v), (2, zi (w : Int)), (3, zi (i : Int))])  (hB : zB m) (h_v : 0 ≤ v ∧ v ≤ 99) (h_w : w ≤ 255) (h_i : i ≤ 8) 
    (k1 : ¬ (i : Int) < (m 17 1) → κ (some (zi (-1))) m)
    (k2 : (i : Int) < (m 17 1) → ¬ (z_and (z_shr (w : Int) (i : Int)) 1) = 0 → T (D + 1) 31 (2, [(0, zr 17), (1, zi v), (2, zi (w : Int)), (3, zi ((i : Int) + 1))], [], m) κ)
    (k3 : (i : Int) < (m 17 1) → (z_and (z_shr (w : Int) (i : Int)) 1) = 0 → ¬ (m 21 i) = v → T (D + 1) 31 (2, [(0, zr 17), (1, zi v), (2, zi (w : Int)), (3, zi ((i : Int) + 1))], [], m) κ)
    (k4 : (i : Int) < (m 17 1) → (z_and (z_shr (w : Int) (i : Int)) 1) = 0 → (m 21 i) = v → κ (some (zi (i : Int))) m) :
    T (D + 1) 31 (2, lo, [], m) κ := by
  have hb3 : 0 ≤ (m 17 1) ∧ (m 17 1) ≤ 8 := hB 17 1
  have hb4 : (-2147483648) ≤ (z_shr (w : Int) (i : Int)) ∧ (z_shr (w : Int) (i : Int)) ≤ 2147483647 := z_shrB (w : Int) (i : Int)
  have hb5 : 0 ≤ (z_and (z_shr (w : Int) (i : Int)) 1) ∧ (z_and (z_shr (w : Int) (i : Int)) 1) ≤ 1 := z_andC (z_shr (w : Int) (i : Int)) 1 (by decide)
  have hb6 : (-1) ≤ (m 21 i) ∧ (m 21 i) ≤ 99 := hB 21 i
  have he0 : wr (i : Int) = (i : Int) := wr_id (by omega) (by omega)
  have he1 : wr (m 17 1) = (m 17 1) := wr_id (by omega) (by omega)
  have he2 : wr (z_and (z_shr (w : Int) (i : Int)) 1) = (z_and (z_shr (w : Int) (i : Int)) 1) := wr_id (by omega) (by omega)
  have he3 : (i : Int).toNat = i := by omega
  have he4 : wr (m 21 i) = (m 21 i) := wr_id (by omega) (by omega)
  have he5 : wr v = v := wr_id (by omega) (by omega)
  have key := @zb31_2r T hT D κ m v w i lo hlo
  simp only [he0, he1, he2, he3, he4, he5, Int.toNat_natCast] at key
  exact key
    k1
    k2
    (fun x0 x1 => by refine ⟨?_, ?_⟩ <;> omega)
    k3
    k4
theorem zb292_0r (hT : zRules T) {D : Nat} {κ : Option zA → zM → Prop} {m : zM} {x : Nat} 
    (o1 : 0 < wr (z_and (z_xor (x : Int) (-1)) ((x : Int) - 1)) → ¬ 65536 < wr (z_and (z_xor (x : Int) (-1)) ((x : Int) - 1)) → ¬ 256 < wr (z_and (z_xor (x : Int) (-1)) ((x : Int) - 1)) → ¬ 16 < wr (z_and (z_xor (x : Int) (-1)) ((x : Int) - 1)) → ¬ 4 < wr (z_and (z_xor (x : Int) (-1)) ((x : Int) - 1)) → κ (some (zi (wr (1 + (z_ush (z_and (z_xor (x : Int) (-1)) ((x : Int) - 1)) 1))))) m)
    (o2 : 0 < wr (z_and (z_xor (x : Int) (-1)) ((x : Int) - 1)) → ¬ 65536 < wr (z_and (z_xor (x : Int) (-1)) ((x : Int) - 1)) → ¬ 256 < wr (z_and (z_xor (x : Int) (-1)) ((x : Int) - 1)) → ¬ 16 < wr (z_and (z_xor (x : Int) (-1)) ((x : Int) - 1)) → 4 < wr (z_and (z_xor (x : Int) (-1)) ((x : Int) - 1)) → κ (some (zi (wr (3 + (z_ush (z_ush (z_and (z_xor (x : Int) (-1)) ((x : Int) - 1)) 2) 1))))) m)
    (o3 : 0 < wr (z_and (z_xor (x : Int) (-1)) ((x : Int) - 1)) → ¬ 65536 < wr (z_and (z_xor (x : Int) (-1)) ((x : Int) - 1)) → ¬ 256 < wr (z_and (z_xor (x : Int) (-1)) ((x : Int) - 1)) → 16 < wr (z_and (z_xor (x : Int) (-1)) ((x : Int) - 1)) → ¬ 4 < wr (z_ush (z_and (z_xor (x : Int) (-1)) ((x : Int) - 1)) 4) → κ (some (zi (wr (5 + (z_ush (z_ush (z_and (z_xor (x : Int) (-1)) ((x : Int) - 1)) 4) 1))))) m)
    (o4 : 0 < wr (z_and (z_xor (x : Int) (-1)) ((x : Int) - 1)) → ¬ 65536 < wr (z_and (z_xor (x : Int) (-1)) ((x : Int) - 1)) → ¬ 256 < wr (z_and (z_xor (x : Int) (-1)) ((x : Int) - 1)) → 16 < wr (z_and (z_xor (x : Int) (-1)) ((x : Int) - 1)) → 4 < wr (z_ush (z_and (z_xor (x : Int) (-1)) ((x : Int) - 1)) 4) → κ (some (zi (wr (7 + (z_ush (z_ush (z_ush (z_and (z_xor (x : Int) (-1)) ((x : Int) - 1)) 4) 2) 1))))) m)
    (o5 : 0 < wr (z_and (z_xor (x : Int) (-1)) ((x : Int) - 1)) → ¬ 65536 < wr (z_and (z_xor (x : Int) (-1)) ((x : Int) - 1)) → 256 < wr (z_and (z_xor (x : Int) (-1)) ((x : Int) - 1)) → ¬ 16 < wr (z_ush (z_and (z_xor (x : Int) (-1)) ((x : Int) - 1)) 8) → ¬ 4 < wr (z_ush (z_and (z_xor (x : Int) (-1)) ((x : Int) - 1)) 8) → κ (some (zi (wr (9 + (z_ush (z_ush (z_and (z_xor (x : Int) (-1)) ((x : Int) - 1)) 8) 1))))) m)
    (o6 : 0 < wr (z_and (z_xor (x : Int) (-1)) ((x : Int) - 1)) → ¬ 65536 < wr (z_and (z_xor (x : Int) (-1)) ((x : Int) - 1)) → 256 < wr (z_and (z_xor (x : Int) (-1)) ((x : Int) - 1)) → ¬ 16 < wr (z_ush (z_and (z_xor (x : Int) (-1)) ((x : Int) - 1)) 8) → 4 < wr (z_ush (z_and (z_xor (x : Int) (-1)) ((x : Int) - 1)) 8) → κ (some (zi (wr (11 + (z_ush (z_ush (z_ush (z_and (z_xor (x : Int) (-1)) ((x : Int) - 1)) 8) 2) 1))))) m)
    (o7 : 0 < wr (z_and (z_xor (x : Int) (-1)) ((x : Int) - 1)) → ¬ 65536 < wr (z_and (z_xor (x : Int) (-1)) ((x : Int) - 1)) → 256 < wr (z_and (z_xor (x : Int) (-1)) ((x : Int) - 1)) → 16 < wr (z_ush (z_and (z_xor (x : Int) (-1)) ((x : Int) - 1)) 8) → ¬ 4 < wr (z_ush (z_ush (z_and (z_xor (x : Int) (-1)) ((x : Int) - 1)) 8) 4) → κ (some (zi (wr (13 + (z_ush (z_ush (z_ush (z_and (z_xor (x : Int) (-1)) ((x : Int) - 1)) 8) 4) 1))))) m)
    (o8 : 0 < wr (z_and (z_xor (x : Int) (-1)) ((x : Int) - 1)) → ¬ 65536 < wr (z_and (z_xor (x : Int) (-1)) ((x : Int) - 1)) → 256 < wr (z_and (z_xor (x : Int) (-1)) ((x : Int) - 1)) → 16 < wr (z_ush (z_and (z_xor (x : Int) (-1)) ((x : Int) - 1)) 8) → 4 < wr (z_ush (z_ush (z_and (z_xor (x : Int) (-1)) ((x : Int) - 1)) 8) 4) → κ (some (zi (wr (15 + (z_ush (z_ush (z_ush (z_ush (z_and (z_xor (x : Int) (-1)) ((x : Int) - 1)) 8) 4) 2) 1))))) m)
    (o9 : 0 < wr (z_and (z_xor (x : Int) (-1)) ((x : Int) - 1)) → 65536 < wr (z_and (z_xor (x : Int) (-1)) ((x : Int) - 1)) → ¬ 256 < wr (z_ush (z_and (z_xor (x : Int) (-1)) ((x : Int) - 1)) 16) → ¬ 16 < wr (z_ush (z_and (z_xor (x : Int) (-1)) ((x : Int) - 1)) 16) → ¬ 4 < wr (z_ush (z_and (z_xor (x : Int) (-1)) ((x : Int) - 1)) 16) → κ (some (zi (wr (17 + (z_ush (z_ush (z_and (z_xor (x : Int) (-1)) ((x : Int) - 1)) 16) 1))))) m)
    (o10 : 0 < wr (z_and (z_xor (x : Int) (-1)) ((x : Int) - 1)) → 65536 < wr (z_and (z_xor (x : Int) (-1)) ((x : Int) - 1)) → ¬ 256 < wr (z_ush (z_and (z_xor (x : Int) (-1)) ((x : Int) - 1)) 16) → ¬ 16 < wr (z_ush (z_and (z_xor (x : Int) (-1)) ((x : Int) - 1)) 16) → 4 < wr (z_ush (z_and (z_xor (x : Int) (-1)) ((x : Int) - 1)) 16) → κ (some (zi (wr (19 + (z_ush (z_ush (z_ush (z_and (z_xor (x : Int) (-1)) ((x : Int) - 1)) 16) 2) 1))))) m)
    (o11 : 0 < wr (z_and (z_xor (x : Int) (-1)) ((x : Int) - 1)) → 65536 < wr (z_and (z_xor (x : Int) (-1)) ((x : Int) - 1)) → ¬ 256 < wr (z_ush (z_and (z_xor (x : Int) (-1)) ((x : Int) - 1)) 16) → 16 < wr (z_ush (z_and (z_xor (x : Int) (-1)) ((x : Int) - 1)) 16) → ¬ 4 < wr (z_ush (z_ush (z_and (z_xor (x : Int) (-1)) ((x : Int) - 1)) 16) 4) → κ (some (zi (wr (21 + (z_ush (z_ush (z_ush (z_and (z_xor (x : Int) (-1)) ((x : Int) - 1)) 16) 4) 1))))) m)
    (o12 : 0 < wr (z_and (z_xor (x : Int) (-1)) ((x : Int) - 1)) → 65536 < wr (z_and (z_xor (x : Int) (-1)) ((x : Int) - 1)) → ¬ 256 < wr (z_ush (z_and (z_xor (x : Int) (-1)) ((x : Int) - 1)) 16) → 16 < wr (z_ush (z_and (z_xor (x : Int) (-1)) ((x : Int) - 1)) 16) → 4 < wr (z_ush (z_ush (z_and (z_xor (x : Int) (-1)) ((x : Int) - 1)) 16) 4) → κ (some (zi (wr (23 + (z_ush (z_ush (z_ush (z_ush (z_and (z_xor (x : Int) (-1)) ((x : Int) - 1)) 16) 4) 2) 1))))) m)
    (o13 : 0 < wr (z_and (z_xor (x : Int) (-1)) ((x : Int) - 1)) → 65536 < wr (z_and (z_xor (x : Int) (-1)) ((x : Int) - 1)) → 256 < wr (z_ush (z_and (z_xor (x : Int) (-1)) ((x : Int) - 1)) 16) → ¬ 16 < wr (z_ush (z_ush (z_and (z_xor (x : Int) (-1)) ((x : Int) - 1)) 16) 8) → ¬ 4 < wr (z_ush (z_ush (z_and (z_xor (x : Int) (-1)) ((x : Int) - 1)) 16) 8) → κ (some (zi (wr (25 + (z_ush (z_ush (z_ush (z_and (z_xor (x : Int) (-1)) ((x : Int) - 1)) 16) 8) 1))))) m)
    (o14 : 0 < wr (z_and (z_xor (x : Int) (-1)) ((x : Int) - 1)) → 65536 < wr (z_and (z_xor (x : Int) (-1)) ((x : Int) - 1)) → 256 < wr (z_ush (z_and (z_xor (x : Int) (-1)) ((x : Int) - 1)) 16) → ¬ 16 < wr (z_ush (z_ush (z_and (z_xor (x : Int) (-1)) ((x : Int) - 1)) 16) 8) → 4 < wr (z_ush (z_ush (z_and (z_xor (x : Int) (-1)) ((x : Int) - 1)) 16) 8) → κ (some (zi (wr (27 + (z_ush (z_ush (z_ush (z_ush (z_and (z_xor (x : Int) (-1)) ((x : Int) - 1)) 16) 8) 2) 1))))) m)
    (o15 : 0 < wr (z_and (z_xor (x : Int) (-1)) ((x : Int) - 1)) → 65536 < wr (z_and (z_xor (x : Int) (-1)) ((x : Int) - 1)) → 256 < wr (z_ush (z_and (z_xor (x : Int) (-1)) ((x : Int) - 1)) 16) → 16 < wr (z_ush (z_ush (z_and (z_xor (x : Int) (-1)) ((x : Int) - 1)) 16) 8) → ¬ 4 < wr (z_ush (z_ush (z_ush (z_and (z_xor (x : Int) (-1)) ((x : Int) - 1)) 16) 8) 4) → κ (some (zi (wr (29 + (z_ush (z_ush (z_ush (z_ush (z_and (z_xor (x : Int) (-1)) ((x : Int) - 1)) 16) 8) 4) 1))))) m)
    (o16 : 0 < wr (z_and (z_xor (x : Int) (-1)) ((x : Int) - 1)) → 65536 < wr (z_and (z_xor (x : Int) (-1)) ((x : Int) - 1)) → 256 < wr (z_ush (z_and (z_xor (x : Int) (-1)) ((x : Int) - 1)) 16) → 16 < wr (z_ush (z_ush (z_and (z_xor (x : Int) (-1)) ((x : Int) - 1)) 16) 8) → 4 < wr (z_ush (z_ush (z_ush (z_and (z_xor (x : Int) (-1)) ((x : Int) - 1)) 16) 8) 4) → κ (some (zi (wr (31 + (z_ush (z_ush (z_ush (z_ush (z_ush (z_and (z_xor (x : Int) (-1)) ((x : Int) - 1)) 16) 8) 4) 2) 1))))) m)
    (o17 : ¬ 0 < wr (z_and (z_xor (x : Int) (-1)) ((x : Int) - 1)) → κ (some (zi (wr (z_and (z_and (z_xor (x : Int) (-1)) ((x : Int) - 1)) 32)))) m) :
    T (D + 1) 292 (0, [(0, zi (x : Int))], [], m) κ :=
  hT.1 [] 6 (D + 1) 292 _ κ (hT.1 [] 6 (D + 1) 292 (6, [(0, zi (x : Int))], [zi ((x : Int) - 1), zi (z_xor (x : Int) (-1))], m) _ (And.intro (fun a1 => (hT.1 [] 6 (D + 1) 292 (19, [(0, zi (z_and (z_xor (x : Int) (-1)) ((x : Int) - 1))), (1, zi 1)], [], m) _ (And.intro (fun a3 => (And.intro (fun a5 => (hT.1 [] 6 (D + 1) 292 (49, [(0, zi (z_and (z_xor (x : Int) (-1)) ((x : Int) - 1))), (1, zi 1)], [], m) _ (And.intro (fun a7 => (And.intro (fun a9 => (hT.1 [] 6 (D + 1) 292 (74, [(0, zi (z_and (z_xor (x : Int) (-1)) ((x : Int) - 1))), (1, zi 1)], [], m) _ (o1 a1 a3 a5 a7 a9))) (fun a10 => (hT.1 [] 6 (D + 1) 292 (67, [(0, zi (z_and (z_xor (x : Int) (-1)) ((x : Int) - 1))), (1, zi 1)], [], m) _ (hT.1 [] 6 (D + 1) 292 (75, [(0, zi (z_ush (z_and (z_xor (x : Int) (-1)) ((x : Int) - 1)) 2)), (1, zi 3)], [zi 3], m) _ (o2 a1 a3 a5 a7 (Classical.byContradiction a10))))))) (fun a8 => (hT.1 [] 6 (D + 1) 292 (60, [(0, zi (z_and (z_xor (x : Int) (-1)) ((x : Int) - 1))), (1, zi 5)], [zi 4, zi (z_and (z_xor (x : Int) (-1)) ((x : Int) - 1))], m) _ (And.intro (fun a11 => (hT.1 [] 6 (D + 1) 292 (75, [(0, zi (z_ush (z_and (z_xor (x : Int) (-1)) ((x : Int) - 1)) 4)), (1, zi 5)], [zi 5], m) _ (o3 a1 a3 a5 (Classical.byContradiction a8) a11))) (fun a12 => (hT.1 [] 6 (D + 1) 292 (70, [(0, zi (z_ush (z_and (z_xor (x : Int) (-1)) ((x : Int) - 1)) 4)), (1, zi 7)], [], m) _ (hT.1 [] 6 (D + 1) 292 (76, [(0, zi (z_ush (z_ush (z_and (z_xor (x : Int) (-1)) ((x : Int) - 1)) 4) 2)), (1, zi 7)], [zi (z_ush (z_ush (z_and (z_xor (x : Int) (-1)) ((x : Int) - 1)) 4) 2), zi 7], m) _ (o4 a1 a3 a5 (Classical.byContradiction a8) (Classical.byContradiction a12))))))))))) (fun a6 => (hT.1 [] 6 (D + 1) 292 (41, [(0, zi (z_and (z_xor (x : Int) (-1)) ((x : Int) - 1))), (1, zi 1)], [], m) _ (hT.1 [] 6 (D + 1) 292 (50, [(0, zi (z_ush (z_and (z_xor (x : Int) (-1)) ((x : Int) - 1)) 8)), (1, zi 9)], [zi (z_ush (z_and (z_xor (x : Int) (-1)) ((x : Int) - 1)) 8)], m) _ (And.intro (fun a13 => (And.intro (fun a15 => (hT.1 [] 6 (D + 1) 292 (75, [(0, zi (z_ush (z_and (z_xor (x : Int) (-1)) ((x : Int) - 1)) 8)), (1, zi 9)], [zi 9], m) _ (o5 a1 a3 (Classical.byContradiction a6) a13 a15))) (fun a16 => (hT.1 [] 6 (D + 1) 292 (70, [(0, zi (z_ush (z_and (z_xor (x : Int) (-1)) ((x : Int) - 1)) 8)), (1, zi 11)], [], m) _ (hT.1 [] 6 (D + 1) 292 (76, [(0, zi (z_ush (z_ush (z_and (z_xor (x : Int) (-1)) ((x : Int) - 1)) 8) 2)), (1, zi 11)], [zi (z_ush (z_ush (z_and (z_xor (x : Int) (-1)) ((x : Int) - 1)) 8) 2), zi 11], m) _ (o6 a1 a3 (Classical.byContradiction a6) a13 (Classical.byContradiction a16))))))) (fun a14 => (hT.1 [] 6 (D + 1) 292 (61, [(0, zi (z_ush (z_and (z_xor (x : Int) (-1)) ((x : Int) - 1)) 8)), (1, zi 13)], [zi (z_ush (z_ush (z_and (z_xor (x : Int) (-1)) ((x : Int) - 1)) 8) 4)], m) _ (And.intro (fun a17 => (hT.1 [] 6 (D + 1) 292 (76, [(0, zi (z_ush (z_ush (z_and (z_xor (x : Int) (-1)) ((x : Int) - 1)) 8) 4)), (1, zi 13)], [zi (z_ush (z_ush (z_and (z_xor (x : Int) (-1)) ((x : Int) - 1)) 8) 4), zi 13], m) _ (o7 a1 a3 (Classical.byContradiction a6) (Classical.byContradiction a14) a17))) (fun a18 => (hT.1 [] 6 (D + 1) 292 (71, [(0, zi (z_ush (z_ush (z_and (z_xor (x : Int) (-1)) ((x : Int) - 1)) 8) 4)), (1, zi 15)], [zi (z_ush (z_ush (z_and (z_xor (x : Int) (-1)) ((x : Int) - 1)) 8) 4)], m) _ (hT.1 [] 6 (D + 1) 292 (77, [(0, zi (z_ush (z_ush (z_ush (z_and (z_xor (x : Int) (-1)) ((x : Int) - 1)) 8) 4) 2)), (1, zi 15)], [zi 1, zi (z_ush (z_ush (z_ush (z_and (z_xor (x : Int) (-1)) ((x : Int) - 1)) 8) 4) 2), zi 15], m) _ (o8 a1 a3 (Classical.byContradiction a6) (Classical.byContradiction a14) (Classical.byContradiction a18)))))))))))))) (fun a4 => (hT.1 [] 6 (D + 1) 292 (32, [(0, zi (z_and (z_xor (x : Int) (-1)) ((x : Int) - 1))), (1, zi 17)], [zi 16, zi (z_and (z_xor (x : Int) (-1)) ((x : Int) - 1))], m) _ (And.intro (fun a19 => (hT.1 [] 6 (D + 1) 292 (50, [(0, zi (z_ush (z_and (z_xor (x : Int) (-1)) ((x : Int) - 1)) 16)), (1, zi 17)], [zi (z_ush (z_and (z_xor (x : Int) (-1)) ((x : Int) - 1)) 16)], m) _ (And.intro (fun a21 => (And.intro (fun a23 => (hT.1 [] 6 (D + 1) 292 (75, [(0, zi (z_ush (z_and (z_xor (x : Int) (-1)) ((x : Int) - 1)) 16)), (1, zi 17)], [zi 17], m) _ (o9 a1 (Classical.byContradiction a4) a19 a21 a23))) (fun a24 => (hT.1 [] 6 (D + 1) 292 (70, [(0, zi (z_ush (z_and (z_xor (x : Int) (-1)) ((x : Int) - 1)) 16)), (1, zi 19)], [], m) _ (hT.1 [] 6 (D + 1) 292 (76, [(0, zi (z_ush (z_ush (z_and (z_xor (x : Int) (-1)) ((x : Int) - 1)) 16) 2)), (1, zi 19)], [zi (z_ush (z_ush (z_and (z_xor (x : Int) (-1)) ((x : Int) - 1)) 16) 2), zi 19], m) _ (o10 a1 (Classical.byContradiction a4) a19 a21 (Classical.byContradiction a24))))))) (fun a22 => (hT.1 [] 6 (D + 1) 292 (61, [(0, zi (z_ush (z_and (z_xor (x : Int) (-1)) ((x : Int) - 1)) 16)), (1, zi 21)], [zi (z_ush (z_ush (z_and (z_xor (x : Int) (-1)) ((x : Int) - 1)) 16) 4)], m) _ (And.intro (fun a25 => (hT.1 [] 6 (D + 1) 292 (76, [(0, zi (z_ush (z_ush (z_and (z_xor (x : Int) (-1)) ((x : Int) - 1)) 16) 4)), (1, zi 21)], [zi (z_ush (z_ush (z_and (z_xor (x : Int) (-1)) ((x : Int) - 1)) 16) 4), zi 21], m) _ (o11 a1 (Classical.byContradiction a4) a19 (Classical.byContradiction a22) a25))) (fun a26 => (hT.1 [] 6 (D + 1) 292 (71, [(0, zi (z_ush (z_ush (z_and (z_xor (x : Int) (-1)) ((x : Int) - 1)) 16) 4)), (1, zi 23)], [zi (z_ush (z_ush (z_and (z_xor (x : Int) (-1)) ((x : Int) - 1)) 16) 4)], m) _ (hT.1 [] 6 (D + 1) 292 (77, [(0, zi (z_ush (z_ush (z_ush (z_and (z_xor (x : Int) (-1)) ((x : Int) - 1)) 16) 4) 2)), (1, zi 23)], [zi 1, zi (z_ush (z_ush (z_ush (z_and (z_xor (x : Int) (-1)) ((x : Int) - 1)) 16) 4) 2), zi 23], m) _ (o12 a1 (Classical.byContradiction a4) a19 (Classical.byContradiction a22) (Classical.byContradiction a26))))))))))) (fun a20 => (hT.1 [] 6 (D + 1) 292 (44, [(0, zi (z_ush (z_and (z_xor (x : Int) (-1)) ((x : Int) - 1)) 16)), (1, zi 25)], [], m) _ (hT.1 [] 6 (D + 1) 292 (52, [(0, zi (z_ush (z_ush (z_and (z_xor (x : Int) (-1)) ((x : Int) - 1)) 16) 8)), (1, zi 25)], [zi 16, zi (z_ush (z_ush (z_and (z_xor (x : Int) (-1)) ((x : Int) - 1)) 16) 8)], m) _ (And.intro (fun a27 => (And.intro (fun a29 => (hT.1 [] 6 (D + 1) 292 (76, [(0, zi (z_ush (z_ush (z_and (z_xor (x : Int) (-1)) ((x : Int) - 1)) 16) 8)), (1, zi 25)], [zi (z_ush (z_ush (z_and (z_xor (x : Int) (-1)) ((x : Int) - 1)) 16) 8), zi 25], m) _ (o13 a1 (Classical.byContradiction a4) (Classical.byContradiction a20) a27 a29))) (fun a30 => (hT.1 [] 6 (D + 1) 292 (71, [(0, zi (z_ush (z_ush (z_and (z_xor (x : Int) (-1)) ((x : Int) - 1)) 16) 8)), (1, zi 27)], [zi (z_ush (z_ush (z_and (z_xor (x : Int) (-1)) ((x : Int) - 1)) 16) 8)], m) _ (hT.1 [] 6 (D + 1) 292 (77, [(0, zi (z_ush (z_ush (z_ush (z_and (z_xor (x : Int) (-1)) ((x : Int) - 1)) 16) 8) 2)), (1, zi 27)], [zi 1, zi (z_ush (z_ush (z_ush (z_and (z_xor (x : Int) (-1)) ((x : Int) - 1)) 16) 8) 2), zi 27], m) _ (o14 a1 (Classical.byContradiction a4) (Classical.byContradiction a20) a27 (Classical.byContradiction a30))))))) (fun a28 => (hT.1 [] 6 (D + 1) 292 (62, [(0, zi (z_ush (z_ush (z_ush (z_and (z_xor (x : Int) (-1)) ((x : Int) - 1)) 16) 8) 4)), (1, zi 29)], [], m) _ (And.intro (fun a31 => (hT.1 [] 6 (D + 1) 292 (77, [(0, zi (z_ush (z_ush (z_ush (z_and (z_xor (x : Int) (-1)) ((x : Int) - 1)) 16) 8) 4)), (1, zi 29)], [zi 1, zi (z_ush (z_ush (z_ush (z_and (z_xor (x : Int) (-1)) ((x : Int) - 1)) 16) 8) 4), zi 29], m) _ (o15 a1 (Classical.byContradiction a4) (Classical.byContradiction a20) (Classical.byContradiction a28) a31))) (fun a32 => (hT.1 [] 6 (D + 1) 292 (72, [(0, zi (z_ush (z_ush (z_ush (z_and (z_xor (x : Int) (-1)) ((x : Int) - 1)) 16) 8) 4)), (1, zi 31)], [zi 2, zi (z_ush (z_ush (z_ush (z_and (z_xor (x : Int) (-1)) ((x : Int) - 1)) 16) 8) 4)], m) _ (hT.1 [] 6 (D + 1) 292 (78, [(0, zi (z_ush (z_ush (z_ush (z_ush (z_and (z_xor (x : Int) (-1)) ((x : Int) - 1)) 16) 8) 4) 2)), (1, zi 31)], [zi (z_ush (z_ush (z_ush (z_ush (z_ush (z_and (z_xor (x : Int) (-1)) ((x : Int) - 1)) 16) 8) 4) 2) 1), zi 31], m) _ (o16 a1 (Classical.byContradiction a4) (Classical.byContradiction a20) (Classical.byContradiction a28) (Classical.byContradiction a32)))))))))))))))))) (fun a2 => (hT.1 [] 6 (D + 1) 292 (15, [(0, zi (z_and (z_xor (x : Int) (-1)) ((x : Int) - 1)))], [zi 32, zi (z_and (z_xor (x : Int) (-1)) ((x : Int) - 1))], m) _ (o17 a2)))))
theorem zb292_0 (hT : zRules T) {D : Nat} {κ : Option zA → zM → Prop} {m : zM} {x : Nat}  (h_x : x ≤ 1048576) 
    (k1 : 0 < (z_and (z_xor (x : Int) (-1)) ((x : Int) - 1)) → ¬ 65536 < (z_and (z_xor (x : Int) (-1)) ((x : Int) - 1)) → ¬ 256 < (z_and (z_xor (x : Int) (-1)) ((x : Int) - 1)) → ¬ 16 < (z_and (z_xor (x : Int) (-1)) ((x : Int) - 1)) → ¬ 4 < (z_and (z_xor (x : Int) (-1)) ((x : Int) - 1)) → κ (some (zi (wr (1 + (z_ush (z_and (z_xor (x : Int) (-1)) ((x : Int) - 1)) 1))))) m)
    (k2 : 0 < (z_and (z_xor (x : Int) (-1)) ((x : Int) - 1)) → ¬ 65536 < (z_and (z_xor (x : Int) (-1)) ((x : Int) - 1)) → ¬ 256 < (z_and (z_xor (x : Int) (-1)) ((x : Int) - 1)) → ¬ 16 < (z_and (z_xor (x : Int) (-1)) ((x : Int) - 1)) → 4 < (z_and (z_xor (x : Int) (-1)) ((x : Int) - 1)) → κ (some (zi (wr (3 + (z_ush (z_ush (z_and (z_xor (x : Int) (-1)) ((x : Int) - 1)) 2) 1))))) m)
    (k3 : 0 < (z_and (z_xor (x : Int) (-1)) ((x : Int) - 1)) → ¬ 65536 < (z_and (z_xor (x : Int) (-1)) ((x : Int) - 1)) → ¬ 256 < (z_and (z_xor (x : Int) (-1)) ((x : Int) - 1)) → 16 < (z_and (z_xor (x : Int) (-1)) ((x : Int) - 1)) → ¬ 4 < (z_ush (z_and (z_xor (x : Int) (-1)) ((x : Int) - 1)) 4) → κ (some (zi (wr (5 + (z_ush (z_ush (z_and (z_xor (x : Int) (-1)) ((x : Int) - 1)) 4) 1))))) m)
    (k4 : 0 < (z_and (z_xor (x : Int) (-1)) ((x : Int) - 1)) → ¬ 65536 < (z_and (z_xor (x : Int) (-1)) ((x : Int) - 1)) → ¬ 256 < (z_and (z_xor (x : Int) (-1)) ((x : Int) - 1)) → 16 < (z_and (z_xor (x : Int) (-1)) ((x : Int) - 1)) → 4 < (z_ush (z_and (z_xor (x : Int) (-1)) ((x : Int) - 1)) 4) → κ (some (zi (wr (7 + (z_ush (z_ush (z_ush (z_and (z_xor (x : Int) (-1)) ((x : Int) - 1)) 4) 2) 1))))) m)
    (k5 : 0 < (z_and (z_xor (x : Int) (-1)) ((x : Int) - 1)) → ¬ 65536 < (z_and (z_xor (x : Int) (-1)) ((x : Int) - 1)) → 256 < (z_and (z_xor (x : Int) (-1)) ((x : Int) - 1)) → ¬ 16 < (z_ush (z_and (z_xor (x : Int) (-1)) ((x : Int) - 1)) 8) → ¬ 4 < (z_ush (z_and (z_xor (x : Int) (-1)) ((x : Int) - 1)) 8) → κ (some (zi (wr (9 + (z_ush (z_ush (z_and (z_xor (x : Int) (-1)) ((x : Int) - 1)) 8) 1))))) m)
    (k6 : 0 < (z_and (z_xor (x : Int) (-1)) ((x : Int) - 1)) → ¬ 65536 < (z_and (z_xor (x : Int) (-1)) ((x : Int) - 1)) → 256 < (z_and (z_xor (x : Int) (-1)) ((x : Int) - 1)) → ¬ 16 < (z_ush (z_and (z_xor (x : Int) (-1)) ((x : Int) - 1)) 8) → 4 < (z_ush (z_and (z_xor (x : Int) (-1)) ((x : Int) - 1)) 8) → κ (some (zi (wr (11 + (z_ush (z_ush (z_ush (z_and (z_xor (x : Int) (-1)) ((x : Int) - 1)) 8) 2) 1))))) m)
    (k7 : 0 < (z_and (z_xor (x : Int) (-1)) ((x : Int) - 1)) → ¬ 65536 < (z_and (z_xor (x : Int) (-1)) ((x : Int) - 1)) → 256 < (z_and (z_xor (x : Int) (-1)) ((x : Int) - 1)) → 16 < (z_ush (z_and (z_xor (x : Int) (-1)) ((x : Int) - 1)) 8) → ¬ 4 < (z_ush (z_ush (z_and (z_xor (x : Int) (-1)) ((x : Int) - 1)) 8) 4) → κ (some (zi (wr (13 + (z_ush (z_ush (z_ush (z_and (z_xor (x : Int) (-1)) ((x : Int) - 1)) 8) 4) 1))))) m)
    (k8 : 0 < (z_and (z_xor (x : Int) (-1)) ((x : Int) - 1)) → ¬ 65536 < (z_and (z_xor (x : Int) (-1)) ((x : Int) - 1)) → 256 < (z_and (z_xor (x : Int) (-1)) ((x : Int) - 1)) → 16 < (z_ush (z_and (z_xor (x : Int) (-1)) ((x : Int) - 1)) 8) → 4 < (z_ush (z_ush (z_and (z_xor (x : Int) (-1)) ((x : Int) - 1)) 8) 4) → κ (some (zi (wr (15 + (z_ush (z_ush (z_ush (z_ush (z_and (z_xor (x : Int) (-1)) ((x : Int) - 1)) 8) 4) 2) 1))))) m)
    (k9 : 0 < (z_and (z_xor (x : Int) (-1)) ((x : Int) - 1)) → 65536 < (z_and (z_xor (x : Int) (-1)) ((x : Int) - 1)) → ¬ 256 < (z_ush (z_and (z_xor (x : Int) (-1)) ((x : Int) - 1)) 16) → ¬ 16 < (z_ush (z_and (z_xor (x : Int) (-1)) ((x : Int) - 1)) 16) → ¬ 4 < (z_ush (z_and (z_xor (x : Int) (-1)) ((x : Int) - 1)) 16) → κ (some (zi (wr (17 + (z_ush (z_ush (z_and (z_xor (x : Int) (-1)) ((x : Int) - 1)) 16) 1))))) m)
    (k10 : 0 < (z_and (z_xor (x : Int) (-1)) ((x : Int) - 1)) → 65536 < (z_and (z_xor (x : Int) (-1)) ((x : Int) - 1)) → ¬ 256 < (z_ush (z_and (z_xor (x : Int) (-1)) ((x : Int) - 1)) 16) → ¬ 16 < (z_ush (z_and (z_xor (x : Int) (-1)) ((x : Int) - 1)) 16) → 4 < (z_ush (z_and (z_xor (x : Int) (-1)) ((x : Int) - 1)) 16) → κ (some (zi (wr (19 + (z_ush (z_ush (z_ush (z_and (z_xor (x : Int) (-1)) ((x : Int) - 1)) 16) 2) 1))))) m)
    (k11 : 0 < (z_and (z_xor (x : Int) (-1)) ((x : Int) - 1)) → 65536 < (z_and (z_xor (x : Int) (-1)) ((x : Int) - 1)) → ¬ 256 < (z_ush (z_and (z_xor (x : Int) (-1)) ((x : Int) - 1)) 16) → 16 < (z_ush (z_and (z_xor (x : Int) (-1)) ((x : Int) - 1)) 16) → ¬ 4 < (z_ush (z_ush (z_and (z_xor (x : Int) (-1)) ((x : Int) - 1)) 16) 4) → κ (some (zi (wr (21 + (z_ush (z_ush (z_ush (z_and (z_xor (x : Int) (-1)) ((x : Int) - 1)) 16) 4) 1))))) m)
    (k12 : 0 < (z_and (z_xor (x : Int) (-1)) ((x : Int) - 1)) → 65536 < (z_and (z_xor (x : Int) (-1)) ((x : Int) - 1)) → ¬ 256 < (z_ush (z_and (z_xor (x : Int) (-1)) ((x : Int) - 1)) 16) → 16 < (z_ush (z_and (z_xor (x : Int) (-1)) ((x : Int) - 1)) 16) → 4 < (z_ush (z_ush (z_and (z_xor (x : Int) (-1)) ((x : Int) - 1)) 16) 4) → κ (some (zi (wr (23 + (z_ush (z_ush (z_ush (z_ush (z_and (z_xor (x : Int) (-1)) ((x : Int) - 1)) 16) 4) 2) 1))))) m)
    (k13 : 0 < (z_and (z_xor (x : Int) (-1)) ((x : Int) - 1)) → 65536 < (z_and (z_xor (x : Int) (-1)) ((x : Int) - 1)) → 256 < (z_ush (z_and (z_xor (x : Int) (-1)) ((x : Int) - 1)) 16) → ¬ 16 < (z_ush (z_ush (z_and (z_xor (x : Int) (-1)) ((x : Int) - 1)) 16) 8) → ¬ 4 < (z_ush (z_ush (z_and (z_xor (x : Int) (-1)) ((x : Int) - 1)) 16) 8) → κ (some (zi (wr (25 + (z_ush (z_ush (z_ush (z_and (z_xor (x : Int) (-1)) ((x : Int) - 1)) 16) 8) 1))))) m)
    (k14 : 0 < (z_and (z_xor (x : Int) (-1)) ((x : Int) - 1)) → 65536 < (z_and (z_xor (x : Int) (-1)) ((x : Int) - 1)) → 256 < (z_ush (z_and (z_xor (x : Int) (-1)) ((x : Int) - 1)) 16) → ¬ 16 < (z_ush (z_ush (z_and (z_xor (x : Int) (-1)) ((x : Int) - 1)) 16) 8) → 4 < (z_ush (z_ush (z_and (z_xor (x : Int) (-1)) ((x : Int) - 1)) 16) 8) → κ (some (zi (wr (27 + (z_ush (z_ush (z_ush (z_ush (z_and (z_xor (x : Int) (-1)) ((x : Int) - 1)) 16) 8) 2) 1))))) m)
    (k15 : 0 < (z_and (z_xor (x : Int) (-1)) ((x : Int) - 1)) → 65536 < (z_and (z_xor (x : Int) (-1)) ((x : Int) - 1)) → 256 < (z_ush (z_and (z_xor (x : Int) (-1)) ((x : Int) - 1)) 16) → 16 < (z_ush (z_ush (z_and (z_xor (x : Int) (-1)) ((x : Int) - 1)) 16) 8) → ¬ 4 < (z_ush (z_ush (z_ush (z_and (z_xor (x : Int) (-1)) ((x : Int) - 1)) 16) 8) 4) → κ (some (zi (wr (29 + (z_ush (z_ush (z_ush (z_ush (z_and (z_xor (x : Int) (-1)) ((x : Int) - 1)) 16) 8) 4) 1))))) m)
    (k16 : 0 < (z_and (z_xor (x : Int) (-1)) ((x : Int) - 1)) → 65536 < (z_and (z_xor (x : Int) (-1)) ((x : Int) - 1)) → 256 < (z_ush (z_and (z_xor (x : Int) (-1)) ((x : Int) - 1)) 16) → 16 < (z_ush (z_ush (z_and (z_xor (x : Int) (-1)) ((x : Int) - 1)) 16) 8) → 4 < (z_ush (z_ush (z_ush (z_and (z_xor (x : Int) (-1)) ((x : Int) - 1)) 16) 8) 4) → κ (some (zi (wr (31 + (z_ush (z_ush (z_ush (z_ush (z_ush (z_and (z_xor (x : Int) (-1)) ((x : Int) - 1)) 16) 8) 4) 2) 1))))) m)
    (k17 : ¬ 0 < (z_and (z_xor (x : Int) (-1)) ((x : Int) - 1)) → κ (some (zi (z_and (z_and (z_xor (x : Int) (-1)) ((x : Int) - 1)) 32))) m) :
    T (D + 1) 292 (0, [(0, zi (x : Int))], [], m) κ := by
  have hb1 : (-2147483648) ≤ (z_xor (x : Int) (-1)) ∧ (z_xor (x : Int) (-1)) ≤ 2147483647 := z_xorB (x : Int) (-1)
  have hb2 : (-2147483648) ≤ (z_and (z_xor (x : Int) (-1)) ((x : Int) - 1)) ∧ (z_and (z_xor (x : Int) (-1)) ((x : Int) - 1)) ≤ 2147483647 := z_andB (z_xor (x : Int) (-1)) ((x : Int) - 1)
  have hb3 : (-2147483648) ≤ (z_ush (z_and (z_xor (x : Int) (-1)) ((x : Int) - 1)) 16) ∧ (z_ush (z_and (z_xor (x : Int) (-1)) ((x : Int) - 1)) 16) ≤ 2147483647 := z_ushB (z_and (z_xor (x : Int) (-1)) ((x : Int) - 1)) 16
  have hb4 : (-2147483648) ≤ (z_ush (z_ush (z_and (z_xor (x : Int) (-1)) ((x : Int) - 1)) 16) 8) ∧ (z_ush (z_ush (z_and (z_xor (x : Int) (-1)) ((x : Int) - 1)) 16) 8) ≤ 2147483647 := z_ushB (z_ush (z_and (z_xor (x : Int) (-1)) ((x : Int) - 1)) 16) 8
  have hb5 : (-2147483648) ≤ (z_ush (z_ush (z_ush (z_and (z_xor (x : Int) (-1)) ((x : Int) - 1)) 16) 8) 4) ∧ (z_ush (z_ush (z_ush (z_and (z_xor (x : Int) (-1)) ((x : Int) - 1)) 16) 8) 4) ≤ 2147483647 := z_ushB (z_ush (z_ush (z_and (z_xor (x : Int) (-1)) ((x : Int) - 1)) 16) 8) 4
  have hb6 : (-2147483648) ≤ (z_ush (z_ush (z_ush (z_ush (z_and (z_xor (x : Int) (-1)) ((x : Int) - 1)) 16) 8) 4) 2) ∧ (z_ush (z_ush (z_ush (z_ush (z_and (z_xor (x : Int) (-1)) ((x : Int) - 1)) 16) 8) 4) 2) ≤ 2147483647 := z_ushB (z_ush (z_ush (z_ush (z_and (z_xor (x : Int) (-1)) ((x : Int) - 1)) 16) 8) 4) 2
  have hb7 : (-2147483648) ≤ (z_ush (z_ush (z_ush (z_ush (z_ush (z_and (z_xor (x : Int) (-1)) ((x : Int) - 1)) 16) 8) 4) 2) 1) ∧ (z_ush (z_ush (z_ush (z_ush (z_ush (z_and (z_xor (x : Int) (-1)) ((x : Int) - 1)) 16) 8) 4) 2) 1) ≤ 2147483647 := z_ushB (z_ush (z_ush (z_ush (z_ush (z_and (z_xor (x : Int) (-1)) ((x : Int) - 1)) 16) 8) 4) 2) 1
  have hb8 : (-2147483648) ≤ wr (31 + (z_ush (z_ush (z_ush (z_ush (z_ush (z_and (z_xor (x : Int) (-1)) ((x : Int) - 1)) 16) 8) 4) 2) 1)) ∧ wr (31 + (z_ush (z_ush (z_ush (z_ush (z_ush (z_and (z_xor (x : Int) (-1)) ((x : Int) - 1)) 16) 8) 4) 2) 1)) ≤ 2147483647 := wrB (31 + (z_ush (z_ush (z_ush (z_ush (z_ush (z_and (z_xor (x : Int) (-1)) ((x : Int) - 1)) 16) 8) 4) 2) 1))
  have hb9 : (-2147483648) ≤ (z_ush (z_ush (z_ush (z_ush (z_and (z_xor (x : Int) (-1)) ((x : Int) - 1)) 16) 8) 4) 1) ∧ (z_ush (z_ush (z_ush (z_ush (z_and (z_xor (x : Int) (-1)) ((x : Int) - 1)) 16) 8) 4) 1) ≤ 2147483647 := z_ushB (z_ush (z_ush (z_ush (z_and (z_xor (x : Int) (-1)) ((x : Int) - 1)) 16) 8) 4) 1
  have hb10 : (-2147483648) ≤ wr (29 + (z_ush (z_ush (z_ush (z_ush (z_and (z_xor (x : Int) (-1)) ((x : Int) - 1)) 16) 8) 4) 1)) ∧ wr (29 + (z_ush (z_ush (z_ush (z_ush (z_and (z_xor (x : Int) (-1)) ((x : Int) - 1)) 16) 8) 4) 1)) ≤ 2147483647 := wrB (29 + (z_ush (z_ush (z_ush (z_ush (z_and (z_xor (x : Int) (-1)) ((x : Int) - 1)) 16) 8) 4) 1))
  have hb11 : (-2147483648) ≤ (z_ush (z_ush (z_ush (z_and (z_xor (x : Int) (-1)) ((x : Int) - 1)) 16) 8) 2) ∧ (z_ush (z_ush (z_ush (z_and (z_xor (x : Int) (-1)) ((x : Int) - 1)) 16) 8) 2) ≤ 2147483647 := z_ushB (z_ush (z_ush (z_and (z_xor (x : Int) (-1)) ((x : Int) - 1)) 16) 8) 2
  have hb12 : (-2147483648) ≤ (z_ush (z_ush (z_ush (z_ush (z_and (z_xor (x : Int) (-1)) ((x : Int) - 1)) 16) 8) 2) 1) ∧ (z_ush (z_ush (z_ush (z_ush (z_and (z_xor (x : Int) (-1)) ((x : Int) - 1)) 16) 8) 2) 1) ≤ 2147483647 := z_ushB (z_ush (z_ush (z_ush (z_and (z_xor (x : Int) (-1)) ((x : Int) - 1)) 16) 8) 2) 1
  have hb13 : (-2147483648) ≤ wr (27 + (z_ush (z_ush (z_ush (z_ush (z_and (z_xor (x : Int) (-1)) ((x : Int) - 1)) 16) 8) 2) 1)) ∧ wr (27 + (z_ush (z_ush (z_ush (z_ush (z_and (z_xor (x : Int) (-1)) ((x : Int) - 1)) 16) 8) 2) 1)) ≤ 2147483647 := wrB (27 + (z_ush (z_ush (z_ush (z_ush (z_and (z_xor (x : Int) (-1)) ((x : Int) - 1)) 16) 8) 2) 1))
  have hb14 : (-2147483648) ≤ (z_ush (z_ush (z_ush (z_and (z_xor (x : Int) (-1)) ((x : Int) - 1)) 16) 8) 1) ∧ (z_ush (z_ush (z_ush (z_and (z_xor (x : Int) (-1)) ((x : Int) - 1)) 16) 8) 1) ≤ 2147483647 := z_ushB (z_ush (z_ush (z_and (z_xor (x : Int) (-1)) ((x : Int) - 1)) 16) 8) 1
  have hb15 : (-2147483648) ≤ wr (25 + (z_ush (z_ush (z_ush (z_and (z_xor (x : Int) (-1)) ((x : Int) - 1)) 16) 8) 1)) ∧ wr (25 + (z_ush (z_ush (z_ush (z_and (z_xor (x : Int) (-1)) ((x : Int) - 1)) 16) 8) 1)) ≤ 2147483647 := wrB (25 + (z_ush (z_ush (z_ush (z_and (z_xor (x : Int) (-1)) ((x : Int) - 1)) 16) 8) 1))
  have hb16 : (-2147483648) ≤ (z_ush (z_ush (z_and (z_xor (x : Int) (-1)) ((x : Int) - 1)) 16) 4) ∧ (z_ush (z_ush (z_and (z_xor (x : Int) (-1)) ((x : Int) - 1)) 16) 4) ≤ 2147483647 := z_ushB (z_ush (z_and (z_xor (x : Int) (-1)) ((x : Int) - 1)) 16) 4
  have hb17 : (-2147483648) ≤ (z_ush (z_ush (z_ush (z_and (z_xor (x : Int) (-1)) ((x : Int) - 1)) 16) 4) 2) ∧ (z_ush (z_ush (z_ush (z_and (z_xor (x : Int) (-1)) ((x : Int) - 1)) 16) 4) 2) ≤ 2147483647 := z_ushB (z_ush (z_ush (z_and (z_xor (x : Int) (-1)) ((x : Int) - 1)) 16) 4) 2
  have hb18 : (-2147483648) ≤ (z_ush (z_ush (z_ush (z_ush (z_and (z_xor (x : Int) (-1)) ((x : Int) - 1)) 16) 4) 2) 1) ∧ (z_ush (z_ush (z_ush (z_ush (z_and (z_xor (x : Int) (-1)) ((x : Int) - 1)) 16) 4) 2) 1) ≤ 2147483647 := z_ushB (z_ush (z_ush (z_ush (z_and (z_xor (x : Int) (-1)) ((x : Int) - 1)) 16) 4) 2) 1
  have hb19 : (-2147483648) ≤ wr (23 + (z_ush (z_ush (z_ush (z_ush (z_and (z_xor (x : Int) (-1)) ((x : Int) - 1)) 16) 4) 2) 1)) ∧ wr (23 + (z_ush (z_ush (z_ush (z_ush (z_and (z_xor (x : Int) (-1)) ((x : Int) - 1)) 16) 4) 2) 1)) ≤ 2147483647 := wrB (23 + (z_ush (z_ush (z_ush (z_ush (z_and (z_xor (x : Int) (-1)) ((x : Int) - 1)) 16) 4) 2) 1))
  have hb20 : (-2147483648) ≤ (z_ush (z_ush (z_ush (z_and (z_xor (x : Int) (-1)) ((x : Int) - 1)) 16) 4) 1) ∧ (z_ush (z_ush (z_ush (z_and (z_xor (x : Int) (-1)) ((x : Int) - 1)) 16) 4) 1) ≤ 2147483647 := z_ushB (z_ush (z_ush (z_and (z_xor (x : Int) (-1)) ((x : Int) - 1)) 16) 4) 1
  have hb21 : (-2147483648) ≤ wr (21 + (z_ush (z_ush (z_ush (z_and (z_xor (x : Int) (-1)) ((x : Int) - 1)) 16) 4) 1)) ∧ wr (21 + (z_ush (z_ush (z_ush (z_and (z_xor (x : Int) (-1)) ((x : Int) - 1)) 16) 4) 1)) ≤ 2147483647 := wrB (21 + (z_ush (z_ush (z_ush (z_and (z_xor (x : Int) (-1)) ((x : Int) - 1)) 16) 4) 1))
  have hb22 : (-2147483648) ≤ (z_ush (z_ush (z_and (z_xor (x : Int) (-1)) ((x : Int) - 1)) 16) 2) ∧ (z_ush (z_ush (z_and (z_xor (x : Int) (-1)) ((x : Int) - 1)) 16) 2) ≤ 2147483647 := z_ushB (z_ush (z_and (z_xor (x : Int) (-1)) ((x : Int) - 1)) 16) 2
  have hb23 : (-2147483648) ≤ (z_ush (z_ush (z_ush (z_and (z_xor (x : Int) (-1)) ((x : Int) - 1)) 16) 2) 1) ∧ (z_ush (z_ush (z_ush (z_and (z_xor (x : Int) (-1)) ((x : Int) - 1)) 16) 2) 1) ≤ 2147483647 := z_ushB (z_ush (z_ush (z_and (z_xor (x : Int) (-1)) ((x : Int) - 1)) 16) 2) 1
  have hb24 : (-2147483648) ≤ wr (19 + (z_ush (z_ush (z_ush (z_and (z_xor (x : Int) (-1)) ((x : Int) - 1)) 16) 2) 1)) ∧ wr (19 + (z_ush (z_ush (z_ush (z_and (z_xor (x : Int) (-1)) ((x : Int) - 1)) 16) 2) 1)) ≤ 2147483647 := wrB (19 + (z_ush (z_ush (z_ush (z_and (z_xor (x : Int) (-1)) ((x : Int) - 1)) 16) 2) 1))
  have hb25 : (-2147483648) ≤ (z_ush (z_ush (z_and (z_xor (x : Int) (-1)) ((x : Int) - 1)) 16) 1) ∧ (z_ush (z_ush (z_and (z_xor (x : Int) (-1)) ((x : Int) - 1)) 16) 1) ≤ 2147483647 := z_ushB (z_ush (z_and (z_xor (x : Int) (-1)) ((x : Int) - 1)) 16) 1
  have hb26 : (-2147483648) ≤ wr (17 + (z_ush (z_ush (z_and (z_xor (x : Int) (-1)) ((x : Int) - 1)) 16) 1)) ∧ wr (17 + (z_ush (z_ush (z_and (z_xor (x : Int) (-1)) ((x : Int) - 1)) 16) 1)) ≤ 2147483647 := wrB (17 + (z_ush (z_ush (z_and (z_xor (x : Int) (-1)) ((x : Int) - 1)) 16) 1))
  have hb27 : (-2147483648) ≤ (z_ush (z_and (z_xor (x : Int) (-1)) ((x : Int) - 1)) 8) ∧ (z_ush (z_and (z_xor (x : Int) (-1)) ((x : Int) - 1)) 8) ≤ 2147483647 := z_ushB (z_and (z_xor (x : Int) (-1)) ((x : Int) - 1)) 8
  have hb28 : (-2147483648) ≤ (z_ush (z_ush (z_and (z_xor (x : Int) (-1)) ((x : Int) - 1)) 8) 4) ∧ (z_ush (z_ush (z_and (z_xor (x : Int) (-1)) ((x : Int) - 1)) 8) 4) ≤ 2147483647 := z_ushB (z_ush (z_and (z_xor (x : Int) (-1)) ((x : Int) - 1)) 8) 4
  have hb29 : (-2147483648) ≤ (z_ush (z_ush (z_ush (z_and (z_xor (x : Int) (-1)) ((x : Int) - 1)) 8) 4) 2) ∧ (z_ush (z_ush (z_ush (z_and (z_xor (x : Int) (-1)) ((x : Int) - 1)) 8) 4) 2) ≤ 2147483647 := z_ushB (z_ush (z_ush (z_and (z_xor (x : Int) (-1)) ((x : Int) - 1)) 8) 4) 2
  have hb30 : (-2147483648) ≤ (z_ush (z_ush (z_ush (z_ush (z_and (z_xor (x : Int) (-1)) ((x : Int) - 1)) 8) 4) 2) 1) ∧ (z_ush (z_ush (z_ush (z_ush (z_and (z_xor (x : Int) (-1)) ((x : Int) - 1)) 8) 4) 2) 1) ≤ 2147483647 := z_ushB (z_ush (z_ush (z_ush (z_and (z_xor (x : Int) (-1)) ((x : Int) - 1)) 8) 4) 2) 1
  have hb31 : (-2147483648) ≤ wr (15 + (z_ush (z_ush (z_ush (z_ush (z_and (z_xor (x : Int) (-1)) ((x : Int) - 1)) 8) 4) 2) 1)) ∧ wr (15 + (z_ush (z_ush (z_ush (z_ush (z_and (z_xor (x : Int) (-1)) ((x : Int) - 1)) 8) 4) 2) 1)) ≤ 2147483647 := wrB (15 + (z_ush (z_ush (z_ush (z_ush (z_and (z_xor (x : Int) (-1)) ((x : Int) - 1)) 8) 4) 2) 1))
  have hb32 : (-2147483648) ≤ (z_ush (z_ush (z_ush (z_and (z_xor (x : Int) (-1)) ((x : Int) - 1)) 8) 4) 1) ∧ (z_ush (z_ush (z_ush (z_and (z_xor (x : Int) (-1)) ((x : Int) - 1)) 8) 4) 1) ≤ 2147483647 := z_ushB (z_ush (z_ush (z_and (z_xor (x : Int) (-1)) ((x : Int) - 1)) 8) 4) 1
  have hb33 : (-2147483648) ≤ wr (13 + (z_ush (z_ush (z_ush (z_and (z_xor (x : Int) (-1)) ((x : Int) - 1)) 8) 4) 1)) ∧ wr (13 + (z_ush (z_ush (z_ush (z_and (z_xor (x : Int) (-1)) ((x : Int) - 1)) 8) 4) 1)) ≤ 2147483647 := wrB (13 + (z_ush (z_ush (z_ush (z_and (z_xor (x : Int) (-1)) ((x : Int) - 1)) 8) 4) 1))
  have hb34 : (-2147483648) ≤ (z_ush (z_ush (z_and (z_xor (x : Int) (-1)) ((x : Int) - 1)) 8) 2) ∧ (z_ush (z_ush (z_and (z_xor (x : Int) (-1)) ((x : Int) - 1)) 8) 2) ≤ 2147483647 := z_ushB (z_ush (z_and (z_xor (x : Int) (-1)) ((x : Int) - 1)) 8) 2
  have hb35 : (-2147483648) ≤ (z_ush (z_ush (z_ush (z_and (z_xor (x : Int) (-1)) ((x : Int) - 1)) 8) 2) 1) ∧ (z_ush (z_ush (z_ush (z_and (z_xor (x : Int) (-1)) ((x : Int) - 1)) 8) 2) 1) ≤ 2147483647 := z_ushB (z_ush (z_ush (z_and (z_xor (x : Int) (-1)) ((x : Int) - 1)) 8) 2) 1
  have hb36 : (-2147483648) ≤ wr (11 + (z_ush (z_ush (z_ush (z_and (z_xor (x : Int) (-1)) ((x : Int) - 1)) 8) 2) 1)) ∧ wr (11 + (z_ush (z_ush (z_ush (z_and (z_xor (x : Int) (-1)) ((x : Int) - 1)) 8) 2) 1)) ≤ 2147483647 := wrB (11 + (z_ush (z_ush (z_ush (z_and (z_xor (x : Int) (-1)) ((x : Int) - 1)) 8) 2) 1))
  have hb37 : (-2147483648) ≤ (z_ush (z_ush (z_and (z_xor (x : Int) (-1)) ((x : Int) - 1)) 8) 1) ∧ (z_ush (z_ush (z_and (z_xor (x : Int) (-1)) ((x : Int) - 1)) 8) 1) ≤ 2147483647 := z_ushB (z_ush (z_and (z_xor (x : Int) (-1)) ((x : Int) - 1)) 8) 1
  have hb38 : (-2147483648) ≤ wr (9 + (z_ush (z_ush (z_and (z_xor (x : Int) (-1)) ((x : Int) - 1)) 8) 1)) ∧ wr (9 + (z_ush (z_ush (z_and (z_xor (x : Int) (-1)) ((x : Int) - 1)) 8) 1)) ≤ 2147483647 := wrB (9 + (z_ush (z_ush (z_and (z_xor (x : Int) (-1)) ((x : Int) - 1)) 8) 1))
  have hb39 : (-2147483648) ≤ (z_ush (z_and (z_xor (x : Int) (-1)) ((x : Int) - 1)) 4) ∧ (z_ush (z_and (z_xor (x : Int) (-1)) ((x : Int) - 1)) 4) ≤ 2147483647 := z_ushB (z_and (z_xor (x : Int) (-1)) ((x : Int) - 1)) 4
  have hb40 : (-2147483648) ≤ (z_ush (z_ush (z_and (z_xor (x : Int) (-1)) ((x : Int) - 1)) 4) 2) ∧ (z_ush (z_ush (z_and (z_xor (x : Int) (-1)) ((x : Int) - 1)) 4) 2) ≤ 2147483647 := z_ushB (z_ush (z_and (z_xor (x : Int) (-1)) ((x : Int) - 1)) 4) 2
  have hb41 : (-2147483648) ≤ (z_ush (z_ush (z_ush (z_and (z_xor (x : Int) (-1)) ((x : Int) - 1)) 4) 2) 1) ∧ (z_ush (z_ush (z_ush (z_and (z_xor (x : Int) (-1)) ((x : Int) - 1)) 4) 2) 1) ≤ 2147483647 := z_ushB (z_ush (z_ush (z_and (z_xor (x : Int) (-1)) ((x : Int) - 1)) 4) 2) 1
  have hb42 : (-2147483648) ≤ wr (7 + (z_ush (z_ush (z_ush (z_and (z_xor (x : Int) (-1)) ((x : Int) - 1)) 4) 2) 1)) ∧ wr (7 + (z_ush (z_ush (z_ush (z_and (z_xor (x : Int) (-1)) ((x : Int) - 1)) 4) 2) 1)) ≤ 2147483647 := wrB (7 + (z_ush (z_ush (z_ush (z_and (z_xor (x : Int) (-1)) ((x : Int) - 1)) 4) 2) 1))
  have hb43 : (-2147483648) ≤ (z_ush (z_ush (z_and (z_xor (x : Int) (-1)) ((x : Int) - 1)) 4) 1) ∧ (z_ush (z_ush (z_and (z_xor (x : Int) (-1)) ((x : Int) - 1)) 4) 1) ≤ 2147483647 := z_ushB (z_ush (z_and (z_xor (x : Int) (-1)) ((x : Int) - 1)) 4) 1
  have hb44 : (-2147483648) ≤ wr (5 + (z_ush (z_ush (z_and (z_xor (x : Int) (-1)) ((x : Int) - 1)) 4) 1)) ∧ wr (5 + (z_ush (z_ush (z_and (z_xor (x : Int) (-1)) ((x : Int) - 1)) 4) 1)) ≤ 2147483647 := wrB (5 + (z_ush (z_ush (z_and (z_xor (x : Int) (-1)) ((x : Int) - 1)) 4) 1))
  have hb45 : (-2147483648) ≤ (z_ush (z_and (z_xor (x : Int) (-1)) ((x : Int) - 1)) 2) ∧ (z_ush (z_and (z_xor (x : Int) (-1)) ((x : Int) - 1)) 2) ≤ 2147483647 := z_ushB (z_and (z_xor (x : Int) (-1)) ((x : Int) - 1)) 2
  have hb46 : (-2147483648) ≤ (z_ush (z_ush (z_and (z_xor (x : Int) (-1)) ((x : Int) - 1)) 2) 1) ∧ (z_ush (z_ush (z_and (z_xor (x : Int) (-1)) ((x : Int) - 1)) 2) 1) ≤ 2147483647 := z_ushB (z_ush (z_and (z_xor (x : Int) (-1)) ((x : Int) - 1)) 2) 1
  have hb47 : (-2147483648) ≤ wr (3 + (z_ush (z_ush (z_and (z_xor (x : Int) (-1)) ((x : Int) - 1)) 2) 1)) ∧ wr (3 + (z_ush (z_ush (z_and (z_xor (x : Int) (-1)) ((x : Int) - 1)) 2) 1)) ≤ 2147483647 := wrB (3 + (z_ush (z_ush (z_and (z_xor (x : Int) (-1)) ((x : Int) - 1)) 2) 1))
  have hb48 : (-2147483648) ≤ (z_ush (z_and (z_xor (x : Int) (-1)) ((x : Int) - 1)) 1) ∧ (z_ush (z_and (z_xor (x : Int) (-1)) ((x : Int) - 1)) 1) ≤ 2147483647 := z_ushB (z_and (z_xor (x : Int) (-1)) ((x : Int) - 1)) 1
  have hb49 : (-2147483648) ≤ wr (1 + (z_ush (z_and (z_xor (x : Int) (-1)) ((x : Int) - 1)) 1)) ∧ wr (1 + (z_ush (z_and (z_xor (x : Int) (-1)) ((x : Int) - 1)) 1)) ≤ 2147483647 := wrB (1 + (z_ush (z_and (z_xor (x : Int) (-1)) ((x : Int) - 1)) 1))
  have hb50 : 0 ≤ (z_and (z_and (z_xor (x : Int) (-1)) ((x : Int) - 1)) 32) ∧ (z_and (z_and (z_xor (x : Int) (-1)) ((x : Int) - 1)) 32) ≤ 32 := z_andC (z_and (z_xor (x : Int) (-1)) ((x : Int) - 1)) 32 (by decide)
  have he0 : wr (z_and (z_xor (x : Int) (-1)) ((x : Int) - 1)) = (z_and (z_xor (x : Int) (-1)) ((x : Int) - 1)) := wr_id (by omega) (by omega)
  have he1 : wr (z_ush (z_and (z_xor (x : Int) (-1)) ((x : Int) - 1)) 16) = (z_ush (z_and (z_xor (x : Int) (-1)) ((x : Int) - 1)) 16) := wr_id (by omega) (by omega)
  have he2 : wr (z_ush (z_ush (z_and (z_xor (x : Int) (-1)) ((x : Int) - 1)) 16) 8) = (z_ush (z_ush (z_and (z_xor (x : Int) (-1)) ((x : Int) - 1)) 16) 8) := wr_id (by omega) (by omega)
  have he3 : wr (z_ush (z_ush (z_ush (z_and (z_xor (x : Int) (-1)) ((x : Int) - 1)) 16) 8) 4) = (z_ush (z_ush (z_ush (z_and (z_xor (x : Int) (-1)) ((x : Int) - 1)) 16) 8) 4) := wr_id (by omega) (by omega)
  have he4 : wr (z_ush (z_ush (z_and (z_xor (x : Int) (-1)) ((x : Int) - 1)) 16) 4) = (z_ush (z_ush (z_and (z_xor (x : Int) (-1)) ((x : Int) - 1)) 16) 4) := wr_id (by omega) (by omega)
  have he5 : wr (z_ush (z_and (z_xor (x : Int) (-1)) ((x : Int) - 1)) 8) = (z_ush (z_and (z_xor (x : Int) (-1)) ((x : Int) - 1)) 8) := wr_id (by omega) (by omega)
  have he6 : wr (z_ush (z_ush (z_and (z_xor (x : Int) (-1)) ((x : Int) - 1)) 8) 4) = (z_ush (z_ush (z_and (z_xor (x : Int) (-1)) ((x : Int) - 1)) 8) 4) := wr_id (by omega) (by omega)
  have he7 : wr (z_ush (z_and (z_xor (x : Int) (-1)) ((x : Int) - 1)) 4) = (z_ush (z_and (z_xor (x : Int) (-1)) ((x : Int) - 1)) 4) := wr_id (by omega) (by omega)
  have he8 : wr (z_and (z_and (z_xor (x : Int) (-1)) ((x : Int) - 1)) 32) = (z_and (z_and (z_xor (x : Int) (-1)) ((x : Int) - 1)) 32) := wr_id (by omega) (by omega)
  have key := @zb292_0r T hT D κ m x
  simp only [he0, he1, he2, he3, he4, he5, he6, he7, he8, Int.toNat_natCast] at key
  exact key
    k1
    k2
    k3
    k4
    k5
    k6
    k7
    k8
    k9
    k10
    k11
    k12
    k13
    k14
    k15
    k16
    k17
theorem zb266_0r (hT : zRules T) {D : Nat} {κ : Option zA → zM → Prop} {m : zM} 
    (o1 : T (D + 3) 266 (9, [(0, zr 74), (1, zi 0), (2, zi 1)], [], (zu m 74 12 0)) κ) :
    T (D + 3) 266 (0, [(0, zr 74)], [], m) κ :=
  hT.1 [(9, [0, 1, 2])] 6 (D + 3) 266 _ κ (And.intro trivial (hT.1 [(9, [0, 1, 2])] 6 (D + 3) 266 (8, [(0, zr 74), (1, zi 0)], [zi 1], (zu m 74 12 0)) _ (o1)))
theorem zb266_0 (hT : zRules T) {D : Nat} {κ : Option zA → zM → Prop} {m : zM}  (hB : zB m) 
    (k1 : zB (zu m 74 12 0) → T (D + 3) 266 (9, [(0, zr 74), (1, zi 0), (2, zi 1)], [], (zu m 74 12 0)) κ) :
    T (D + 3) 266 (0, [(0, zr 74)], [], m) κ := by
  exact zb266_0r hT
    (k1  (zB_u hB trivial))
theorem zb266_9r (hT : zRules T) {D : Nat} {κ : Option zA → zM → Prop} {m : zM} {b : Nat} {x : Nat} {lo : zL} (hlo : z_keep [0, 1, 2] lo = [(0, zr 74), (1, zi (b : Int)), (2, zi (x : Int))]) 
    (o1 : ¬ wr (x : Int) < wr (z_shl 1 (m 74 4)) → T (D + 2) 293 (0, [(0, zi (b : Int))], [], (zu (zu (zu m 74 11 0) 81 0 (b : Int)) 74 11 1)) (fun r m1 => T (D + 3) 266 (61, [(0, zr 74), (1, zi (b : Int)), (2, zi (x : Int))], r.toList ++ [], m1) κ))
    (o2 : wr (x : Int) < wr (z_shl 1 (m 74 4)) → T (D + 2) 293 (0, [(0, zi (x : Int))], [], m) (fun r m1 => T (D + 3) 266 (23, [(0, zr 74), (1, zi (b : Int)), (2, zi (x : Int))], r.toList ++ [], m1) κ)) :
    T (D + 3) 266 (9, lo, [], m) κ :=
  zkeep hT hlo (hT.1 [(9, [0, 1, 2])] 6 (D + 3) 266 _ κ (And.intro (fun a1 => (hT.1 [(9, [0, 1, 2])] 6 (D + 3) 266 (47, [(0, zr 74), (1, zi (b : Int)), (2, zi (x : Int))], [], m) _ (And.intro trivial (hT.1 [] 6 (D + 2) 189 _ _ (And.intro (And.intro (z_ixL rfl) trivial) (hT.1 [] 6 (D + 2) 189 (10, [(0, zr 74), (1, zi (b : Int))], [], (zu (zu m 74 11 0) 81 0 (b : Int))) _ (And.intro trivial (hT.1 [] 6 (D + 2) 189 (20, [(0, zr 74), (1, zi (b : Int))], [], (zu (zu (zu m 74 11 0) 81 0 (b : Int)) 74 11 1)) _ (hT.1 [(9, [0, 1, 2])] 6 (D + 3) 266 _ _ (o1 a1)))))))))) (fun a2 => (hT.1 [(9, [0, 1, 2])] 6 (D + 3) 266 (19, [(0, zr 74), (1, zi (b : Int)), (2, zi (x : Int))], [], m) _ (o2 (Classical.byContradiction a2))))))
theorem zb266_9 (hT : zRules T) {D : Nat} {κ : Option zA → zM → Prop} {m : zM} {b : Nat} {x : Nat} {lo : zL} (hlo : z_keep [0, 1, 2] lo = [(0, zr 74), (1, zi (b : Int)), (2, zi (x : Int))])  (hB : zB m) (h_b : b ≤ 63) (h_x : x ≤ 64) 
    (k1 : ¬ (x : Int) < (z_shl 1 (m 74 4)) → zB (zu (zu (zu m 74 11 0) 81 0 (b : Int)) 74 11 1) → T (D + 2) 293 (0, [(0, zi (b : Int))], [], (zu (zu (zu m 74 11 0) 81 0 (b : Int)) 74 11 1)) (fun r m1 => T (D + 3) 266 (61, [(0, zr 74), (1, zi (b : Int)), (2, zi (x : Int))], r.toList ++ [], m1) κ))
    (k2 : (x : Int) < (z_shl 1 (m 74 4)) → T (D + 2) 293 (0, [(0, zi (x : Int))], [], m) (fun r m1 => T (D + 3) 266 (23, [(0, zr 74), (1, zi (b : Int)), (2, zi (x : Int))], r.toList ++ [], m1) κ)) :
    T (D + 3) 266 (9, lo, [], m) κ := by
  have hb2 : 0 ≤ (m 74 4) ∧ (m 74 4) ≤ 6 := hB 74 4
  have hb3 : (-2147483648) ≤ (z_shl 1 (m 74 4)) ∧ (z_shl 1 (m 74 4)) ≤ 2147483647 := z_shlB 1 (m 74 4)
  have he0 : wr (x : Int) = (x : Int) := wr_id (by omega) (by omega)
  have he1 : wr (z_shl 1 (m 74 4)) = (z_shl 1 (m 74 4)) := wr_id (by omega) (by omega)
  have key := @zb266_9r T hT D κ m b x lo hlo
  simp only [he0, he1, Int.toNat_natCast] at key
  exact key
    (fun x0 => k1 x0 (zB_u (zB_u (zB_u hB (show 0 ≤ 0 ∧ 0 ≤ 32 from ⟨by omega, by omega⟩)) trivial) (show 0 ≤ 1 ∧ 1 ≤ 32 from ⟨by omega, by omega⟩)))
    k2
theorem zb266_23r (hT : zRules T) {D : Nat} {κ : Option zA → zM → Prop} {m : zM} {b : Nat} {x : Nat} {v : Int} {lo : zL} (hlo : z_keep [0, 1, 2] lo = [(0, zr 74), (1, zi (b : Int)), (2, zi (x : Int))]) 
    (o1 : T (D + 2) 293 (0, [(0, zi (b : Int))], [], m) (fun r m1 => T (D + 3) 266 (27, [(0, zr 74), (1, zi (b : Int)), (2, zi (x : Int))], r.toList ++ [zi v], m1) κ)) :
    T (D + 3) 266 (23, lo, [zi v], m) κ :=
  zkeep hT hlo (hT.1 [(9, [0, 1, 2])] 6 (D + 3) 266 _ κ (o1))
theorem zb266_23 (hT : zRules T) {D : Nat} {κ : Option zA → zM → Prop} {m : zM} {b : Nat} {x : Nat} {v : Int} {lo : zL} (hlo : z_keep [0, 1, 2] lo = [(0, zr 74), (1, zi (b : Int)), (2, zi (x : Int))])  (hB : zB m) (h_b : b ≤ 63) (h_x : x ≤ 63) (h_v : (-2147483648) ≤ v ∧ v ≤ 2147483647) 
    (k1 : T (D + 2) 293 (0, [(0, zi (b : Int))], [], m) (fun r m1 => T (D + 3) 266 (27, [(0, zr 74), (1, zi (b : Int)), (2, zi (x : Int))], r.toList ++ [zi v], m1) κ)) :
    T (D + 3) 266 (23, lo, [zi v], m) κ := by
  exact zb266_23r hT hlo
    k1
theorem zb266_27r (hT : zRules T) {D : Nat} {κ : Option zA → zM → Prop} {m : zM} {b : Nat} {x : Nat} {v : Int} {y : Int} {lo : zL} (hlo : z_keep [0, 1, 2] lo = [(0, zr 74), (1, zi (b : Int)), (2, zi (x : Int))]) 
    (o1 : ¬ wr y < wr v → T (D + 3) 266 (9, [(0, zr 74), (1, zi (b : Int)), (2, zi ((x : Int) + 1))], [], m) κ)
    (o2 : wr y < wr v → T (D + 2) 265 (0, [(0, zr 74), (1, zi (x : Int)), (2, zi 0)], [], m) (fun r m1 => T (D + 3) 266 (36, [(0, zr 74), (1, zi (b : Int)), (2, zi (x : Int))], r.toList ++ [], m1) κ)) :
    T (D + 3) 266 (27, lo, [zi y, zi v], m) κ :=
  zkeep hT hlo (hT.1 [(9, [0, 1, 2])] 6 (D + 3) 266 _ κ (And.intro (fun a1 => (o1 a1)) (fun a2 => (o2 (Classical.byContradiction a2)))))
theorem zb266_27 (hT : zRules T) {D : Nat} {κ : Option zA → zM → Prop} {m : zM} {b : Nat} {x : Nat} {v : Int} {y : Int} {lo : zL} (hlo : z_keep [0, 1, 2] lo = [(0, zr 74), (1, zi (b : Int)), (2, zi (x : Int))])  (hB : zB m) (h_b : b ≤ 63) (h_x : x ≤ 63) (h_v : (-2147483648) ≤ v ∧ v ≤ 2147483647) (h_y : (-2147483648) ≤ y ∧ y ≤ 2147483647) 
    (k1 : ¬ y < v → T (D + 3) 266 (9, [(0, zr 74), (1, zi (b : Int)), (2, zi ((x : Int) + 1))], [], m) κ)
    (k2 : y < v → T (D + 2) 265 (0, [(0, zr 74), (1, zi (x : Int)), (2, zi 0)], [], m) (fun r m1 => T (D + 3) 266 (36, [(0, zr 74), (1, zi (b : Int)), (2, zi (x : Int))], r.toList ++ [], m1) κ)) :
    T (D + 3) 266 (27, lo, [zi y, zi v], m) κ := by
  have he0 : wr y = y := wr_id (by omega) (by omega)
  have he1 : wr v = v := wr_id (by omega) (by omega)
  have key := @zb266_27r T hT D κ m b x v y lo hlo
  simp only [he0, he1, Int.toNat_natCast] at key
  exact key
    k1
    k2
theorem zb266_36r (hT : zRules T) {D : Nat} {κ : Option zA → zM → Prop} {m : zM} {b : Nat} {x : Nat} {v : Int} {lo : zL} (hlo : z_keep [0, 1, 2] lo = [(0, zr 74), (1, zi (b : Int)), (2, zi (x : Int))]) 
    (o1 : wr v = 0 → T (D + 3) 266 (9, [(0, zr 74), (1, zi (b : Int)), (2, zi ((x : Int) + 1))], [], m) κ)
    (o2 : ¬ wr v = 0 → T (D + 3) 266 (9, [(0, zr 74), (1, zi (x : Int)), (2, zi ((x : Int) + 1))], [], m) κ) :
    T (D + 3) 266 (36, lo, [zi v], m) κ :=
  zkeep hT hlo (hT.1 [(9, [0, 1, 2])] 6 (D + 3) 266 _ κ (And.intro (fun a1 => (o1 a1)) (fun a2 => (o2 a2))))
theorem zb266_36 (hT : zRules T) {D : Nat} {κ : Option zA → zM → Prop} {m : zM} {b : Nat} {x : Nat} {v : Int} {lo : zL} (hlo : z_keep [0, 1, 2] lo = [(0, zr 74), (1, zi (b : Int)), (2, zi (x : Int))])  (hB : zB m) (h_b : b ≤ 63) (h_x : x ≤ 63) (h_v : 0 ≤ v ∧ v ≤ 1) 
    (k1 : v = 0 → T (D + 3) 266 (9, [(0, zr 74), (1, zi (b : Int)), (2, zi ((x : Int) + 1))], [], m) κ)
    (k2 : ¬ v = 0 → T (D + 3) 266 (9, [(0, zr 74), (1, zi (x : Int)), (2, zi ((x : Int) + 1))], [], m) κ) :
    T (D + 3) 266 (36, lo, [zi v], m) κ := by
  have he0 : wr v = v := wr_id (by omega) (by omega)
  have key := @zb266_36r T hT D κ m b x v lo hlo
  simp only [he0, Int.toNat_natCast] at key
  exact key
    k1
    k2
theorem zb266_61r (hT : zRules T) {D : Nat} {κ : Option zA → zM → Prop} {m : zM} {v : Int} {lo : zL} (hlo : z_keep [] lo = []) 
    (o1 : κ (some (zi (wr v))) m) :
    T (D + 3) 266 (61, lo, [zi v], m) κ :=
  zkeep hT hlo (hT.1 [(9, [0, 1, 2])] 6 (D + 3) 266 _ κ (o1))
theorem zb266_61 (hT : zRules T) {D : Nat} {κ : Option zA → zM → Prop} {m : zM} {v : Int} {lo : zL} (hlo : z_keep [] lo = [])  (h_v : (-2147483648) ≤ v ∧ v ≤ 2147483647) 
    (k1 : κ (some (zi v)) m) :
    T (D + 3) 266 (61, lo, [zi v], m) κ := by
  have he0 : wr v = v := wr_id (by omega) (by omega)
  have key := @zb266_61r T hT D κ m v lo hlo
  simp only [he0, Int.toNat_natCast] at key
  exact key
    k1
theorem zb265_0r (hT : zRules T) {D : Nat} {κ : Option zA → zM → Prop} {m : zM} {x : Nat} {u : Nat} 
    (o1 : ¬ wr (x : Int) = 0 → T (D + 1) 292 (0, [(0, zi (x : Int))], [], m) (fun r m1 => T (D + 2) 265 (10, [(0, zr 74), (1, zi (x : Int)), (2, zi (u : Int))], r.toList ++ [], m1) κ))
    (o2 : wr (x : Int) = 0 → κ (some (zi 1)) m) :
    T (D + 2) 265 (0, [(0, zr 74), (1, zi (x : Int)), (2, zi (u : Int))], [], m) κ :=
  hT.1 [(14, [0, 1, 2, 3, 4])] 6 (D + 2) 265 _ κ (And.intro (fun a1 => (o1 a1)) (fun a2 => (And.intro (z_b01L rfl) (o2 (Classical.byContradiction a2)))))
theorem zb265_0 (hT : zRules T) {D : Nat} {κ : Option zA → zM → Prop} {m : zM} {x : Nat} {u : Nat}  (hB : zB m) (h_x : x ≤ 63) (h_u : u ≤ 255) 
    (k1 : ¬ (x : Int) = 0 → T (D + 1) 292 (0, [(0, zi (x : Int))], [], m) (fun r m1 => T (D + 2) 265 (10, [(0, zr 74), (1, zi (x : Int)), (2, zi (u : Int))], r.toList ++ [], m1) κ))
    (k2 : (x : Int) = 0 → κ (some (zi 1)) m) :
    T (D + 2) 265 (0, [(0, zr 74), (1, zi (x : Int)), (2, zi (u : Int))], [], m) κ := by
  have he0 : wr (x : Int) = (x : Int) := wr_id (by omega) (by omega)
  have key := @zb265_0r T hT D κ m x u
  simp only [he0, Int.toNat_natCast] at key
  exact key
    k1
    k2
theorem zb265_10r (hT : zRules T) {D : Nat} {κ : Option zA → zM → Prop} {m : zM} {x : Nat} {u : Nat} {t : Nat} {lo : zL} (hlo : z_keep [0, 1, 2] lo = [(0, zr 74), (1, zi (x : Int)), (2, zi (u : Int))]) 
    (o1 : T (D + 2) 265 (14, [(0, zr 74), (1, zi (x : Int)), (2, zi (u : Int)), (3, zi (t : Int)), (4, zi 0)], [], m) κ) :
    T (D + 2) 265 (10, lo, [zi (t : Int)], m) κ :=
  zkeep hT hlo (hT.1 [(14, [0, 1, 2, 3, 4])] 6 (D + 2) 265 _ κ (o1))
theorem zb265_10 (hT : zRules T) {D : Nat} {κ : Option zA → zM → Prop} {m : zM} {x : Nat} {u : Nat} {t : Nat} {lo : zL} (hlo : z_keep [0, 1, 2] lo = [(0, zr 74), (1, zi (x : Int)), (2, zi (u : Int))])  (hB : zB m) (h_x : x ≤ 63) (h_u : u ≤ 255) (h_t : t ≤ 5) 
    (k1 : T (D + 2) 265 (14, [(0, zr 74), (1, zi (x : Int)), (2, zi (u : Int)), (3, zi (t : Int)), (4, zi 0)], [], m) κ) :
    T (D + 2) 265 (10, lo, [zi (t : Int)], m) κ := by
  exact zb265_10r hT hlo
    k1
theorem zb265_14r (hT : zRules T) {D : Nat} {κ : Option zA → zM → Prop} {m : zM} {x : Nat} {u : Nat} {t : Nat} {c : Nat} {lo : zL} (hlo : z_keep [0, 1, 2, 3, 4] lo = [(0, zr 74), (1, zi (x : Int)), (2, zi (u : Int)), (3, zi (t : Int)), (4, zi (c : Int))]) 
    (o1 : ¬ wr (c : Int) < wr (m 74 6) → κ (some (zi 0)) m)
    (o2 : wr (c : Int) < wr (m 74 6) → ¬ wr (z_and (z_shr (u : Int) (c : Int)) 1) = 1 → (0 ≤ wr (12 + (c : Int)) ∧ wr (12 + (c : Int)) < 59))
    (o3 : wr (c : Int) < wr (m 74 6) → ¬ wr (z_and (z_shr (u : Int) (c : Int)) 1) = 1 → T (D + 1) 216 (0, [(0, zr 74), (1, zi (t : Int)), (2, zi 0)], [], m) (fun r m1 => T (D + 2) 265 (48, [(0, zr 74), (1, zi (x : Int)), (2, zi (u : Int)), (3, zi (t : Int)), (4, zi (c : Int))], r.toList ++ [zi (m 75 ((wr (12 + (c : Int))).toNat))], m1) κ))
    (o4 : wr (c : Int) < wr (m 74 6) → wr (z_and (z_shr (u : Int) (c : Int)) 1) = 1 → T (D + 2) 265 (14, [(0, zr 74), (1, zi (x : Int)), (2, zi (u : Int)), (3, zi (t : Int)), (4, zi ((c : Int) + 1))], [], m) κ) :
    T (D + 2) 265 (14, lo, [], m) κ :=
  zkeep hT hlo (hT.1 [(14, [0, 1, 2, 3, 4])] 6 (D + 2) 265 _ κ (And.intro (fun a1 => (And.intro (z_b01L rfl) (o1 a1))) (fun a2 => (hT.1 [(14, [0, 1, 2, 3, 4])] 6 (D + 2) 265 (26, [(0, zr 74), (1, zi (x : Int)), (2, zi (u : Int)), (3, zi (t : Int)), (4, zi (c : Int))], [zi (c : Int), zi (u : Int)], m) _ (hT.1 [] 6 (D + 1) 187 _ _ (hT.1 [] 6 (D + 1) 187 (6, [(0, zi (u : Int)), (1, zi (c : Int))], [zi 1, zi (z_and (z_shr (u : Int) (c : Int)) 1)], m) _ (And.intro (fun a3 => (And.intro (z_b01L rfl) (hT.1 [(14, [0, 1, 2, 3, 4])] 6 (D + 2) 265 _ _ (And.intro (fun a5 => (z_litF a5 rfl).elim) (fun _ => (hT.1 [(14, [0, 1, 2, 3, 4])] 6 (D + 2) 265 (41, [(0, zr 74), (1, zi (x : Int)), (2, zi (u : Int)), (3, zi (t : Int)), (4, zi (c : Int))], [zi (12 + (c : Int)), zr 75], m) _ (And.intro (o2 (Classical.byContradiction a2) a3) (o3 (Classical.byContradiction a2) a3)))))))) (fun a4 => (And.intro (z_b01L rfl) (hT.1 [(14, [0, 1, 2, 3, 4])] 6 (D + 2) 265 _ _ (And.intro (fun _ => (o4 (Classical.byContradiction a2) (Classical.byContradiction a4))) (fun a6 => (a6 (z_litT rfl)).elim))))))))))))
theorem zb265_14 (hT : zRules T) {D : Nat} {κ : Option zA → zM → Prop} {m : zM} {x : Nat} {u : Nat} {t : Nat} {c : Nat} {lo : zL} (hlo : z_keep [0, 1, 2, 3, 4] lo = [(0, zr 74), (1, zi (x : Int)), (2, zi (u : Int)), (3, zi (t : Int)), (4, zi (c : Int))])  (hB : zB m) (h_x : x ≤ 63) (h_u : u ≤ 255) (h_t : t ≤ 5) (h_c : c ≤ 8) 
    (k1 : ¬ (c : Int) < (m 74 6) → κ (some (zi 0)) m)
    (k2 : (c : Int) < (m 74 6) → ¬ (z_and (z_shr (u : Int) (c : Int)) 1) = 1 → T (D + 1) 216 (0, [(0, zr 74), (1, zi (t : Int)), (2, zi 0)], [], m) (fun r m1 => T (D + 2) 265 (48, [(0, zr 74), (1, zi (x : Int)), (2, zi (u : Int)), (3, zi (t : Int)), (4, zi (c : Int))], r.toList ++ [zi (m 75 (c + 12))], m1) κ))
    (k3 : (c : Int) < (m 74 6) → (z_and (z_shr (u : Int) (c : Int)) 1) = 1 → T (D + 2) 265 (14, [(0, zr 74), (1, zi (x : Int)), (2, zi (u : Int)), (3, zi (t : Int)), (4, zi ((c : Int) + 1))], [], m) κ) :
    T (D + 2) 265 (14, lo, [], m) κ := by
  have hb4 : 0 ≤ (m 74 6) ∧ (m 74 6) ≤ 8 := hB 74 6
  have hb5 : (-2147483648) ≤ (z_shr (u : Int) (c : Int)) ∧ (z_shr (u : Int) (c : Int)) ≤ 2147483647 := z_shrB (u : Int) (c : Int)
  have hb6 : 0 ≤ (z_and (z_shr (u : Int) (c : Int)) 1) ∧ (z_and (z_shr (u : Int) (c : Int)) 1) ≤ 1 := z_andC (z_shr (u : Int) (c : Int)) 1 (by decide)
  have hb7 : (-1) ≤ (m 75 (c + 12)) ∧ (m 75 (c + 12)) ≤ 99 := zSg hB 75 12 28 (-1) 99 rfl (c + 12) (by omega) (by omega)
  have he0 : wr (c : Int) = (c : Int) := wr_id (by omega) (by omega)
  have he1 : wr (m 74 6) = (m 74 6) := wr_id (by omega) (by omega)
  have he2 : wr (z_and (z_shr (u : Int) (c : Int)) 1) = (z_and (z_shr (u : Int) (c : Int)) 1) := wr_id (by omega) (by omega)
  have he3 : wr (12 + (c : Int)) = (12 + (c : Int)) := wr_id (by omega) (by omega)
  have he4 : (12 + (c : Int)).toNat = c + 12 := by omega
  have key := @zb265_14r T hT D κ m x u t c lo hlo
  simp only [he0, he1, he2, he3, he4, Int.toNat_natCast] at key
  exact key
    k1
    (fun x0 x1 => by refine ⟨?_, ?_⟩ <;> omega)
    k2
    k3
theorem zb265_48r (hT : zRules T) {D : Nat} {κ : Option zA → zM → Prop} {m : zM} {x : Nat} {u : Nat} {t : Nat} {c : Nat} {l : Int} {v : Int} {lo : zL} (hlo : z_keep [0, 1, 2, 3, 4] lo = [(0, zr 74), (1, zi (x : Int)), (2, zi (u : Int)), (3, zi (t : Int)), (4, zi (c : Int))]) 
    (o1 : ¬ wr l = wr v → T (D + 2) 265 (14, [(0, zr 74), (1, zi (x : Int)), (2, zi (u : Int)), (3, zi (t : Int)), (4, zi ((c : Int) + 1))], [], m) κ)
    (o2 : wr l = wr v → T (D + 1) 265 (0, [(0, zr 74), (1, zi (z_and (x : Int) ((x : Int) - 1))), (2, zi (z_or (u : Int) (z_shl 1 (c : Int))))], [], m) (fun r m1 => T (D + 2) 265 (66, [(0, zr 74), (1, zi (x : Int)), (2, zi (u : Int)), (3, zi (t : Int)), (4, zi (c : Int))], r.toList ++ [], m1) κ)) :
    T (D + 2) 265 (48, lo, [zi v, zi l], m) κ :=
  zkeep hT hlo (hT.1 [(14, [0, 1, 2, 3, 4])] 6 (D + 2) 265 _ κ (And.intro (fun a1 => (o1 a1)) (fun a2 => (hT.1 [(14, [0, 1, 2, 3, 4])] 6 (D + 2) 265 (56, [(0, zr 74), (1, zi (x : Int)), (2, zi (u : Int)), (3, zi (t : Int)), (4, zi (c : Int))], [zi ((x : Int) - 1), zi (x : Int), zr 74], m) _ (hT.1 [(14, [0, 1, 2, 3, 4])] 6 (D + 2) 265 (63, [(0, zr 74), (1, zi (x : Int)), (2, zi (u : Int)), (3, zi (t : Int)), (4, zi (c : Int))], [zi (z_or (u : Int) (z_shl 1 (c : Int))), zi (z_and (x : Int) ((x : Int) - 1)), zr 74], m) _ (o2 (Classical.byContradiction a2)))))))
theorem zb265_48 (hT : zRules T) {D : Nat} {κ : Option zA → zM → Prop} {m : zM} {x : Nat} {u : Nat} {t : Nat} {c : Nat} {l : Int} {v : Int} {lo : zL} (hlo : z_keep [0, 1, 2, 3, 4] lo = [(0, zr 74), (1, zi (x : Int)), (2, zi (u : Int)), (3, zi (t : Int)), (4, zi (c : Int))])  (hB : zB m) (h_x : x ≤ 63) (h_u : u ≤ 255) (h_t : t ≤ 5) (h_c : c ≤ 7) (h_l : (-1) ≤ l ∧ l ≤ 99) (h_v : 0 ≤ v ∧ v ≤ 99) 
    (k1 : ¬ l = v → T (D + 2) 265 (14, [(0, zr 74), (1, zi (x : Int)), (2, zi (u : Int)), (3, zi (t : Int)), (4, zi ((c : Int) + 1))], [], m) κ)
    (k2 : l = v → T (D + 1) 265 (0, [(0, zr 74), (1, zi (z_and (x : Int) ((x : Int) - 1))), (2, zi (z_or (u : Int) (z_shl 1 (c : Int))))], [], m) (fun r m1 => T (D + 2) 265 (66, [(0, zr 74), (1, zi (x : Int)), (2, zi (u : Int)), (3, zi (t : Int)), (4, zi (c : Int))], r.toList ++ [], m1) κ)) :
    T (D + 2) 265 (48, lo, [zi v, zi l], m) κ := by
  have hb6 : (-2147483648) ≤ (z_and (x : Int) ((x : Int) - 1)) ∧ (z_and (x : Int) ((x : Int) - 1)) ≤ 2147483647 := z_andB (x : Int) ((x : Int) - 1)
  have hb7 : (-2147483648) ≤ (z_shl 1 (c : Int)) ∧ (z_shl 1 (c : Int)) ≤ 2147483647 := z_shlB 1 (c : Int)
  have hb8 : (-2147483648) ≤ (z_or (u : Int) (z_shl 1 (c : Int))) ∧ (z_or (u : Int) (z_shl 1 (c : Int))) ≤ 2147483647 := z_orB (u : Int) (z_shl 1 (c : Int))
  have he0 : wr l = l := wr_id (by omega) (by omega)
  have he1 : wr v = v := wr_id (by omega) (by omega)
  have key := @zb265_48r T hT D κ m x u t c l v lo hlo
  simp only [he0, he1, Int.toNat_natCast] at key
  exact key
    k1
    k2
theorem zb265_66r (hT : zRules T) {D : Nat} {κ : Option zA → zM → Prop} {m : zM} {x : Nat} {u : Nat} {t : Nat} {c : Nat} {v : Int} {lo : zL} (hlo : z_keep [0, 1, 2, 3, 4] lo = [(0, zr 74), (1, zi (x : Int)), (2, zi (u : Int)), (3, zi (t : Int)), (4, zi (c : Int))]) 
    (o1 : wr v = 0 → T (D + 2) 265 (14, [(0, zr 74), (1, zi (x : Int)), (2, zi (u : Int)), (3, zi (t : Int)), (4, zi ((c : Int) + 1))], [], m) κ)
    (o2 : ¬ wr v = 0 → κ (some (zi 1)) m) :
    T (D + 2) 265 (66, lo, [zi v], m) κ :=
  zkeep hT hlo (hT.1 [(14, [0, 1, 2, 3, 4])] 6 (D + 2) 265 _ κ (And.intro (fun a1 => (o1 a1)) (fun a2 => (And.intro (z_b01L rfl) (o2 a2)))))
theorem zb265_66 (hT : zRules T) {D : Nat} {κ : Option zA → zM → Prop} {m : zM} {x : Nat} {u : Nat} {t : Nat} {c : Nat} {v : Int} {lo : zL} (hlo : z_keep [0, 1, 2, 3, 4] lo = [(0, zr 74), (1, zi (x : Int)), (2, zi (u : Int)), (3, zi (t : Int)), (4, zi (c : Int))])  (hB : zB m) (h_x : x ≤ 63) (h_u : u ≤ 255) (h_t : t ≤ 5) (h_c : c ≤ 7) (h_v : 0 ≤ v ∧ v ≤ 1) 
    (k1 : v = 0 → T (D + 2) 265 (14, [(0, zr 74), (1, zi (x : Int)), (2, zi (u : Int)), (3, zi (t : Int)), (4, zi ((c : Int) + 1))], [], m) κ)
    (k2 : ¬ v = 0 → κ (some (zi 1)) m) :
    T (D + 2) 265 (66, lo, [zi v], m) κ := by
  have he0 : wr v = v := wr_id (by omega) (by omega)
  have key := @zb265_66r T hT D κ m x u t c v lo hlo
  simp only [he0, Int.toNat_natCast] at key
  exact key
    k1
    k2
end ZBlocks
