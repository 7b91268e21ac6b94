section ZBlocks
variable {T : Nat → Nat → zG → (Option zA → zM → Prop) → Prop}
theorem zb157_0r (hT : zRules T) {D : Nat} {κ : Option zA → zM → Prop} {m : zM} {w : Int} 
    (o1 : wr w < 1 → κ (some (zi (-1))) m)
    (o2 : ¬ wr w < 1 → ¬ 3 < wr w → T (D + 4) 104 (0, [(0, zr 64), (1, zi w)], [], m) (fun r m1 => T (D + 5) 157 (20, [(0, zr 1), (1, zi w)], r.toList ++ [], m1) κ))
    (o3 : ¬ wr w < 1 → 3 < wr w → κ (some (zi (-1))) m) :
    T (D + 5) 157 (0, [(0, zr 1), (1, zi w)], [], m) κ :=
  hT.1 [] 6 (D + 5) 157 _ κ (And.intro (fun a1 => (o1 a1)) (fun a2 => (And.intro (fun a3 => (hT.1 [] 6 (D + 5) 157 (12, [(0, zr 1), (1, zi w)], [], m) _ (o2 a2 a3))) (fun a4 => (hT.1 [] 6 (D + 5) 157 (10, [(0, zr 1), (1, zi w)], [], m) _ (o3 a2 (Classical.byContradiction a4)))))))
theorem zb157_0 (hT : zRules T) {D : Nat} {κ : Option zA → zM → Prop} {m : zM} {w : Int}  (hB : zB m) (h_w : (-2147483648) ≤ w ∧ w ≤ 2147483647) 
    (k1 : w < 1 → κ (some (zi (-1))) m)
    (k2 : ¬ w < 1 → ¬ 3 < w → T (D + 4) 104 (0, [(0, zr 64), (1, zi w)], [], m) (fun r m1 => T (D + 5) 157 (20, [(0, zr 1), (1, zi w)], r.toList ++ [], m1) κ))
    (k3 : ¬ w < 1 → 3 < w → κ (some (zi (-1))) m) :
    T (D + 5) 157 (0, [(0, zr 1), (1, zi w)], [], m) κ := by
  have he0 : wr w = w := wr_id (by omega) (by omega)
  have key := @zb157_0r T hT D κ m w
  simp only [he0, Int.toNat_natCast] at key
  exact key
    k1
    k2
    k3
theorem zb157_20r (hT : zRules T) {D : Nat} {κ : Option zA → zM → Prop} {m : zM} {v : Int} {lo : zL} (hlo : z_keep [0] lo = [(0, zr 1)]) 
    (o1 : T (D + 4) 48 (0, [(0, zr 72), (1, zr 67), (2, zi (m 64 2))], [], m) (fun r m1 => T (D + 5) 157 (42, [(0, zr 1), (2, zi v)], r.toList ++ [], m1) κ)) :
    T (D + 5) 157 (20, lo, [zi v], m) κ :=
  zkeep hT hlo (hT.1 [] 6 (D + 5) 157 _ κ (hT.1 [] 6 (D + 5) 157 (32, [(0, zr 1), (2, zi v)], [zr 67, zr 72], m) _ (o1)))
theorem zb157_20 (hT : zRules T) {D : Nat} {κ : Option zA → zM → Prop} {m : zM} {v : Int} {lo : zL} (hlo : z_keep [0] lo = [(0, zr 1)])  (hB : zB m) (h_v : (-2147483648) ≤ v ∧ v ≤ 2147483647) 
    (k1 : T (D + 4) 48 (0, [(0, zr 72), (1, zr 67), (2, zi (m 64 2))], [], m) (fun r m1 => T (D + 5) 157 (42, [(0, zr 1), (2, zi v)], r.toList ++ [], m1) κ)) :
    T (D + 5) 157 (20, lo, [zi v], m) κ := by
  have hb1 : 0 ≤ (m 64 2) ∧ (m 64 2) ≤ 7 := hB 64 2
  exact zb157_20r hT hlo
    k1
theorem zb157_42r (hT : zRules T) {D : Nat} {κ : Option zA → zM → Prop} {m : zM} {v : Int} {lo : zL} (hlo : z_keep [2] lo = [(2, zi v)]) 
    (o1 : κ (some (zi (wr v))) m) :
    T (D + 5) 157 (42, lo, [], m) κ :=
  zkeep hT hlo (hT.1 [] 6 (D + 5) 157 _ κ (o1))
theorem zb157_42 (hT : zRules T) {D : Nat} {κ : Option zA → zM → Prop} {m : zM} {v : Int} {lo : zL} (hlo : z_keep [2] lo = [(2, zi v)])  (h_v : (-2147483648) ≤ v ∧ v ≤ 2147483647) 
    (k1 : κ (some (zi v)) m) :
    T (D + 5) 157 (42, lo, [], m) κ := by
  have he0 : wr v = v := wr_id (by omega) (by omega)
  have key := @zb157_42r T hT D κ m v lo hlo
  simp only [he0, Int.toNat_natCast] at key
  exact key
    k1
theorem zb104_0r (hT : zRules T) {D : Nat} {κ : Option zA → zM → Prop} {m : zM} {w : Nat} 
    (o1 : T (D + 4) 104 (4, [(0, zr 64), (1, zi (w : Int)), (2, zi 1), (3, zi 1)], [], m) κ) :
    T (D + 4) 104 (0, [(0, zr 64), (1, zi (w : Int))], [], m) κ :=
  hT.1 [(4, [0, 1, 2, 3]), (27, [0, 1, 2, 3, 4])] 6 (D + 4) 104 _ κ (o1)
theorem zb104_0 (hT : zRules T) {D : Nat} {κ : Option zA → zM → Prop} {m : zM} {w : Nat}  (hB : zB m) (h_w : w ≤ 3) 
    (k1 : T (D + 4) 104 (4, [(0, zr 64), (1, zi (w : Int)), (2, zi 1), (3, zi 1)], [], m) κ) :
    T (D + 4) 104 (0, [(0, zr 64), (1, zi (w : Int))], [], m) κ := by
  exact zb104_0r hT
    k1
theorem zb104_4r (hT : zRules T) {D : Nat} {κ : Option zA → zM → Prop} {m : zM} {w : Nat} {a : Nat} {i : Nat} {lo : zL} (hlo : z_keep [0, 1, 2, 3] lo = [(0, zr 64), (1, zi (w : Int)), (2, zi (a : Int)), (3, zi (i : Int))]) 
    (o1 : ¬ wr (i : Int) < wr (m 64 2) → T (D + 4) 104 (27, [(0, zr 64), (1, zi (w : Int)), (2, zi (a : Int)), (3, zi (-1)), (4, zi 0)], [], m) κ)
    (o2 : wr (i : Int) < wr (m 64 2) → T (D + 4) 104 (4, [(0, zr 64), (1, zi (w : Int)), (2, zi ((a : Int) * (w : Int))), (3, zi ((i : Int) + 1))], [], m) κ) :
    T (D + 4) 104 (4, lo, [], m) κ :=
  zkeep hT hlo (hT.1 [(4, [0, 1, 2, 3]), (27, [0, 1, 2, 3, 4])] 6 (D + 4) 104 _ κ (And.intro (fun a1 => (hT.1 [(4, [0, 1, 2, 3]), (27, [0, 1, 2, 3, 4])] 6 (D + 4) 104 (24, [(0, zr 64), (1, zi (w : Int)), (2, zi (a : Int)), (3, zi (-1))], [], m) _ (o1 a1))) (fun a2 => (hT.1 [(4, [0, 1, 2, 3]), (27, [0, 1, 2, 3, 4])] 6 (D + 4) 104 (14, [(0, zr 64), (1, zi (w : Int)), (2, zi (a : Int)), (3, zi (i : Int))], [zi (w : Int), zi (a : Int)], m) _ (o2 (Classical.byContradiction a2))))))
theorem zb104_4 (hT : zRules T) {D : Nat} {κ : Option zA → zM → Prop} {m : zM} {w : Nat} {a : Nat} {i : Nat} {lo : zL} (hlo : z_keep [0, 1, 2, 3] lo = [(0, zr 64), (1, zi (w : Int)), (2, zi (a : Int)), (3, zi (i : Int))])  (hB : zB m) (h_w : w ≤ 3) (h_a : a ≤ 2187) (h_i : i ≤ 7) 
    (k1 : ¬ (i : Int) < (m 64 2) → T (D + 4) 104 (27, [(0, zr 64), (1, zi (w : Int)), (2, zi (a : Int)), (3, zi (-1)), (4, zi 0)], [], m) κ)
    (k2 : (i : Int) < (m 64 2) → T (D + 4) 104 (4, [(0, zr 64), (1, zi (w : Int)), (2, zi ((a : Int) * (w : Int))), (3, zi ((i : Int) + 1))], [], m) κ) :
    T (D + 4) 104 (4, lo, [], m) κ := by
  have hb3 : 0 ≤ (m 64 2) ∧ (m 64 2) ≤ 7 := hB 64 2
  have hb4 : 0 ≤ ((a : Int) * (w : Int)) ∧ ((a : Int) * (w : Int)) ≤ 6561 := z_mulB (a : Int) (w : Int) 2187 3 6561 (by omega) (by omega) (by omega) (by omega) rfl
  have he0 : wr (i : Int) = (i : Int) := wr_id (by omega) (by omega)
  have he1 : wr (m 64 2) = (m 64 2) := wr_id (by omega) (by omega)
  have key := @zb104_4r T hT D κ m w a i lo hlo
  simp only [he0, he1, Int.toNat_natCast] at key
  exact key
    k1
    k2
theorem zb104_27r (hT : zRules T) {D : Nat} {κ : Option zA → zM → Prop} {m : zM} {w : Nat} {a : Nat} {b : Int} {q : Nat} {lo : zL} (hlo : z_keep [0, 1, 2, 3, 4] lo = [(0, zr 64), (1, zi (w : Int)), (2, zi (a : Int)), (3, zi b), (4, zi (q : Int))]) 
    (o1 : ¬ wr (q : Int) < wr (a : Int) → κ (some (zi (wr b))) m)
    (o2 : wr (q : Int) < wr (a : Int) → T (D + 3) 105 (0, [(0, zr 64), (1, zi (q : Int)), (2, zi (w : Int))], [], m) (fun r m1 => T (D + 4) 104 (40, [(0, zr 64), (1, zi (w : Int)), (2, zi (a : Int)), (3, zi b), (4, zi (q : Int))], r.toList ++ [], m1) κ)) :
    T (D + 4) 104 (27, lo, [], m) κ :=
  zkeep hT hlo (hT.1 [(4, [0, 1, 2, 3]), (27, [0, 1, 2, 3, 4])] 6 (D + 4) 104 _ κ (And.intro (fun a1 => (o1 a1)) (fun a2 => (hT.1 [(4, [0, 1, 2, 3]), (27, [0, 1, 2, 3, 4])] 6 (D + 4) 104 (37, [(0, zr 64), (1, zi (w : Int)), (2, zi (a : Int)), (3, zi b), (4, zi (q : Int))], [zi (w : Int), zi (q : Int), zr 64], m) _ (o2 (Classical.byContradiction a2))))))
theorem zb104_27 (hT : zRules T) {D : Nat} {κ : Option zA → zM → Prop} {m : zM} {w : Nat} {a : Nat} {b : Int} {q : Nat} {lo : zL} (hlo : z_keep [0, 1, 2, 3, 4] lo = [(0, zr 64), (1, zi (w : Int)), (2, zi (a : Int)), (3, zi b), (4, zi (q : Int))])  (hB : zB m) (h_w : w ≤ 3) (h_a : a ≤ 6561) (h_b : (-2147483648) ≤ b ∧ b ≤ 2147483647) (h_q : q ≤ 6561) 
    (k1 : ¬ (q : Int) < (a : Int) → κ (some (zi b)) m)
    (k2 : (q : Int) < (a : Int) → T (D + 3) 105 (0, [(0, zr 64), (1, zi (q : Int)), (2, zi (w : Int))], [], m) (fun r m1 => T (D + 4) 104 (40, [(0, zr 64), (1, zi (w : Int)), (2, zi (a : Int)), (3, zi b), (4, zi (q : Int))], r.toList ++ [], m1) κ)) :
    T (D + 4) 104 (27, lo, [], m) κ := by
  have he0 : wr (q : Int) = (q : Int) := wr_id (by omega) (by omega)
  have he1 : wr (a : Int) = (a : Int) := wr_id (by omega) (by omega)
  have he2 : wr b = b := wr_id (by omega) (by omega)
  have key := @zb104_27r T hT D κ m w a b q lo hlo
  simp only [he0, he1, he2, Int.toNat_natCast] at key
  exact key
    k1
    k2
theorem zb104_40r (hT : zRules T) {D : Nat} {κ : Option zA → zM → Prop} {m : zM} {w : Nat} {a : Nat} {b : Int} {q : Nat} {v : Int} {lo : zL} (hlo : z_keep [0, 1, 2, 3, 4] lo = [(0, zr 64), (1, zi (w : Int)), (2, zi (a : Int)), (3, zi b), (4, zi (q : Int))]) 
    (o1 : wr b = (-1) → ((0 : Int) ≤ 0 ∧ (0 : Int) ≤ 0 ∧ (0 : Int) ≤ wr (m 64 2) ∧ 0 + wr (m 64 2) ≤ 7 ∧ 0 + wr (m 64 2) ≤ 7))
    (o2 : wr b = (-1) → T (D + 4) 104 (27, [(0, zr 64), (1, zi (w : Int)), (2, zi (a : Int)), (3, zi v), (4, zi ((q : Int) + 1))], [], (z_cp m 68 67 0 0 ((wr (m 64 2)).toNat))) κ)
    (o3 : ¬ wr b = (-1) → ¬ wr v < wr b → T (D + 4) 104 (27, [(0, zr 64), (1, zi (w : Int)), (2, zi (a : Int)), (3, zi b), (4, zi ((q : Int) + 1))], [], m) κ)
    (o4 : ¬ wr b = (-1) → wr v < wr b → ((0 : Int) ≤ 0 ∧ (0 : Int) ≤ 0 ∧ (0 : Int) ≤ wr (m 64 2) ∧ 0 + wr (m 64 2) ≤ 7 ∧ 0 + wr (m 64 2) ≤ 7))
    (o5 : ¬ wr b = (-1) → wr v < wr b → T (D + 4) 104 (27, [(0, zr 64), (1, zi (w : Int)), (2, zi (a : Int)), (3, zi v), (4, zi ((q : Int) + 1))], [], (z_cp m 68 67 0 0 ((wr (m 64 2)).toNat))) κ) :
    T (D + 4) 104 (40, lo, [zi v], m) κ :=
  zkeep hT hlo (hT.1 [(4, [0, 1, 2, 3]), (27, [0, 1, 2, 3, 4])] 6 (D + 4) 104 _ κ (And.intro (fun a1 => (hT.1 [(4, [0, 1, 2, 3]), (27, [0, 1, 2, 3, 4])] 6 (D + 4) 104 (56, [(0, zr 64), (1, zi (w : Int)), (2, zi (a : Int)), (3, zi v), (4, zi (q : Int)), (5, zi v)], [], m) _ (hT.1 [(4, [0, 1, 2, 3]), (27, [0, 1, 2, 3, 4])] 6 (D + 4) 104 (66, [(0, zr 64), (1, zi (w : Int)), (2, zi (a : Int)), (3, zi v), (4, zi (q : Int)), (5, zi v)], [zi 0, zr 67, zi 0, zr 68], m) _ (And.intro (o1 a1) (o2 a1))))) (fun a2 => (hT.1 [(4, [0, 1, 2, 3]), (27, [0, 1, 2, 3, 4])] 6 (D + 4) 104 (50, [(0, zr 64), (1, zi (w : Int)), (2, zi (a : Int)), (3, zi b), (4, zi (q : Int)), (5, zi v)], [zi b, zi v], m) _ (And.intro (fun a3 => (o3 a2 a3)) (fun a4 => (hT.1 [(4, [0, 1, 2, 3]), (27, [0, 1, 2, 3, 4])] 6 (D + 4) 104 (61, [(0, zr 64), (1, zi (w : Int)), (2, zi (a : Int)), (3, zi v), (4, zi (q : Int)), (5, zi v)], [zi 0, zr 68], m) _ (And.intro (o4 a2 (Classical.byContradiction a4)) (hT.1 [(4, [0, 1, 2, 3]), (27, [0, 1, 2, 3, 4])] 6 (D + 4) 104 (73, [(0, zr 64), (1, zi (w : Int)), (2, zi (a : Int)), (3, zi v), (4, zi (q : Int)), (5, zi v)], [], (z_cp m 68 67 0 0 ((wr (m 64 2)).toNat))) _ (o5 a2 (Classical.byContradiction a4)))))))))))
theorem zb104_40 (hT : zRules T) {D : Nat} {κ : Option zA → zM → Prop} {m : zM} {w : Nat} {a : Nat} {b : Int} {q : Nat} {v : Int} {lo : zL} (hlo : z_keep [0, 1, 2, 3, 4] lo = [(0, zr 64), (1, zi (w : Int)), (2, zi (a : Int)), (3, zi b), (4, zi (q : Int))])  (hB : zB m) (h_w : w ≤ 3) (h_a : a ≤ 6561) (h_b : (-2147483648) ≤ b ∧ b ≤ 2147483647) (h_q : q ≤ 6561) (h_v : (-2147483648) ≤ v ∧ v ≤ 2147483647) 
    (k1 : b = (-1) → zB (z_cp m 68 67 0 0 ((m 64 2).toNat)) → T (D + 4) 104 (27, [(0, zr 64), (1, zi (w : Int)), (2, zi (a : Int)), (3, zi v), (4, zi ((q : Int) + 1))], [], (z_cp m 68 67 0 0 ((m 64 2).toNat))) κ)
    (k2 : ¬ b = (-1) → ¬ v < b → T (D + 4) 104 (27, [(0, zr 64), (1, zi (w : Int)), (2, zi (a : Int)), (3, zi b), (4, zi ((q : Int) + 1))], [], m) κ)
    (k3 : ¬ b = (-1) → v < b → zB (z_cp m 68 67 0 0 ((m 64 2).toNat)) → T (D + 4) 104 (27, [(0, zr 64), (1, zi (w : Int)), (2, zi (a : Int)), (3, zi v), (4, zi ((q : Int) + 1))], [], (z_cp m 68 67 0 0 ((m 64 2).toNat))) κ) :
    T (D + 4) 104 (40, lo, [zi v], m) κ := by
  have hb5 : 0 ≤ (m 64 2) ∧ (m 64 2) ≤ 7 := hB 64 2
  have he0 : wr b = b := wr_id (by omega) (by omega)
  have he1 : wr (m 64 2) = (m 64 2) := wr_id (by omega) (by omega)
  have he2 : wr v = v := wr_id (by omega) (by omega)
  have key := @zb104_40r T hT D κ m w a b q v lo hlo
  simp only [he0, he1, he2, Int.toNat_natCast] at key
  exact key
    (fun x0 => by refine ⟨?_, ?_, ?_, ?_, ?_⟩ <;> omega)
    (fun x0 => k1 x0 (zB_cp hB (fun _ _ _ => trivial)))
    k2
    (fun x0 x1 => by refine ⟨?_, ?_, ?_, ?_, ?_⟩ <;> omega)
    (fun x0 x1 => k3 x0 x1 (zB_cp hB (fun _ _ _ => trivial)))
theorem zb105_0r (hT : zRules T) {D : Nat} {κ : Option zA → zM → Prop} {m : zM} {w : Nat} {q : Nat} 
    (o1 : T (D + 3) 105 (34, [(0, zr 64), (2, zi (w : Int)), (3, zi (q : Int)), (4, zi 0), (5, zi ((m 64 2) - 1))], [], (zu (zu (zu m 69 0 0) 69 1 0) 69 2 0)) κ) :
    T (D + 3) 105 (0, [(0, zr 64), (1, zi (q : Int)), (2, zi (w : Int))], [], m) κ :=
  hT.1 [(34, [0, 2, 3, 4, 5])] 6 (D + 3) 105 _ κ (And.intro (And.intro (z_ixL rfl) trivial) (hT.1 [(34, [0, 2, 3, 4, 5])] 6 (D + 3) 105 (8, [(0, zr 64), (1, zi (q : Int)), (2, zi (w : Int))], [zr 64], (zu m 69 0 0)) _ (And.intro (And.intro (z_ixL rfl) trivial) (hT.1 [(34, [0, 2, 3, 4, 5])] 6 (D + 3) 105 (18, [(0, zr 64), (1, zi (q : Int)), (2, zi (w : Int))], [zr 69], (zu (zu m 69 0 0) 69 1 0)) _ (And.intro (And.intro (z_ixL rfl) trivial) (hT.1 [(34, [0, 2, 3, 4, 5])] 6 (D + 3) 105 (24, [(0, zr 64), (1, zi (q : Int)), (2, zi (w : Int)), (3, zi (q : Int))], [zi 0], (zu (zu (zu m 69 0 0) 69 1 0) 69 2 0)) _ (o1)))))))
theorem zb105_0 (hT : zRules T) {D : Nat} {κ : Option zA → zM → Prop} {m : zM} {w : Nat} {q : Nat}  (hB : zB m) (h_w : w ≤ 3) (h_q : q ≤ 6561) 
    (k1 : zB (zu (zu (zu m 69 0 0) 69 1 0) 69 2 0) → T (D + 3) 105 (34, [(0, zr 64), (2, zi (w : Int)), (3, zi (q : Int)), (4, zi 0), (5, zi ((m 64 2) - 1))], [], (zu (zu (zu m 69 0 0) 69 1 0) 69 2 0)) κ) :
    T (D + 3) 105 (0, [(0, zr 64), (1, zi (q : Int)), (2, zi (w : Int))], [], m) κ := by
  have hb2 : 0 ≤ (m 64 2) ∧ (m 64 2) ≤ 7 := hB 64 2
  exact zb105_0r hT
    (k1  (zB_u (zB_u (zB_u hB trivial) trivial) trivial))
theorem zb105_34r (hT : zRules T) {D : Nat} {κ : Option zA → zM → Prop} {m : zM} {w : Nat} {q : Nat} {b : Int} {i : Int} {lo : zL} (hlo : z_keep [0, 2, 3, 4, 5] lo = [(0, zr 64), (2, zi (w : Int)), (3, zi (q : Int)), (4, zi b), (5, zi i)]) 
    (o1 : wr i < 0 → κ (some (zi (wr b))) m)
    (o2 : ¬ wr i < 0 → ¬ wr (w : Int) < 1 → ¬ wr (w : Int) = 0)
    (o3 : ¬ wr i < 0 → ¬ wr (w : Int) < 1 → ¬ wr (w : Int) < 1 → ¬ wr (w : Int) = 0)
    (o4 : ¬ wr i < 0 → ¬ wr (w : Int) < 1 → ¬ wr (w : Int) < 1 → (0 ≤ wr i ∧ wr i < 7))
    (o5 : ¬ wr i < 0 → ¬ wr (w : Int) < 1 → ¬ wr (w : Int) < 1 → (0 ≤ wr (Int.tmod (wr (q : Int)) (wr (w : Int))) ∧ wr (Int.tmod (wr (q : Int)) (wr (w : Int))) < 3))
    (o6 : ¬ wr i < 0 → ¬ wr (w : Int) < 1 → ¬ wr (w : Int) < 1 → (0 ≤ wr i ∧ wr i < 7))
    (o7 : ¬ wr i < 0 → ¬ wr (w : Int) < 1 → ¬ wr (w : Int) < 1 → (0 ≤ wr (Int.tmod (wr (q : Int)) (wr (w : Int))) ∧ wr (Int.tmod (wr (q : Int)) (wr (w : Int))) < 3))
    (o8 : ¬ wr i < 0 → ¬ wr (w : Int) < 1 → ¬ wr (w : Int) < 1 → (0 ≤ wr (Int.tmod (wr (q : Int)) (wr (w : Int))) ∧ wr (Int.tmod (wr (q : Int)) (wr (w : Int))) < 3))
    (o9 : ¬ wr i < 0 → ¬ wr (w : Int) < 1 → ¬ wr (w : Int) < 1 → wr b < wr ((zu (zu m 68 ((wr i).toNat) (Int.tmod (wr (q : Int)) (wr (w : Int)))) 69 ((wr (Int.tmod (wr (q : Int)) (wr (w : Int)))).toNat) ((m 69 ((wr (Int.tmod (wr (q : Int)) (wr (w : Int)))).toNat)) + (m 65 ((wr i).toNat)))) 69 ((wr (Int.tmod (wr (q : Int)) (wr (w : Int)))).toNat)) → T (D + 3) 105 (34, [(0, zr 64), (2, zi (w : Int)), (3, zi (Int.tdiv (wr (q : Int)) (wr (w : Int)))), (4, zi (wr ((zu (zu m 68 ((wr i).toNat) (Int.tmod (wr (q : Int)) (wr (w : Int)))) 69 ((wr (Int.tmod (wr (q : Int)) (wr (w : Int)))).toNat) ((m 69 ((wr (Int.tmod (wr (q : Int)) (wr (w : Int)))).toNat)) + (m 65 ((wr i).toNat)))) 69 ((wr (Int.tmod (wr (q : Int)) (wr (w : Int)))).toNat)))), (5, zi (i + (-1)))], [], (zu (zu m 68 ((wr i).toNat) (Int.tmod (wr (q : Int)) (wr (w : Int)))) 69 ((wr (Int.tmod (wr (q : Int)) (wr (w : Int)))).toNat) ((m 69 ((wr (Int.tmod (wr (q : Int)) (wr (w : Int)))).toNat)) + (m 65 ((wr i).toNat))))) κ)
    (o10 : ¬ wr i < 0 → ¬ wr (w : Int) < 1 → ¬ wr (w : Int) < 1 → ¬ wr b < wr ((zu (zu m 68 ((wr i).toNat) (Int.tmod (wr (q : Int)) (wr (w : Int)))) 69 ((wr (Int.tmod (wr (q : Int)) (wr (w : Int)))).toNat) ((m 69 ((wr (Int.tmod (wr (q : Int)) (wr (w : Int)))).toNat)) + (m 65 ((wr i).toNat)))) 69 ((wr (Int.tmod (wr (q : Int)) (wr (w : Int)))).toNat)) → T (D + 3) 105 (34, [(0, zr 64), (2, zi (w : Int)), (3, zi (Int.tdiv (wr (q : Int)) (wr (w : Int)))), (4, zi (wr b)), (5, zi (i + (-1)))], [], (zu (zu m 68 ((wr i).toNat) (Int.tmod (wr (q : Int)) (wr (w : Int)))) 69 ((wr (Int.tmod (wr (q : Int)) (wr (w : Int)))).toNat) ((m 69 ((wr (Int.tmod (wr (q : Int)) (wr (w : Int)))).toNat)) + (m 65 ((wr i).toNat))))) κ)
    (o11 : ¬ wr i < 0 → ¬ wr (w : Int) < 1 → wr (w : Int) < 1 → False)
    (o12 : ¬ wr i < 0 → wr (w : Int) < 1 → ¬ wr (w : Int) < 1 → False)
    (o13 : ¬ wr i < 0 → wr (w : Int) < 1 → wr (w : Int) < 1 → (0 ≤ wr i ∧ wr i < 7))
    (o14 : ¬ wr i < 0 → wr (w : Int) < 1 → wr (w : Int) < 1 → (0 ≤ wr i ∧ wr i < 7))
    (o15 : ¬ wr i < 0 → wr (w : Int) < 1 → wr (w : Int) < 1 → wr b < wr ((m 69 0) + (m 65 ((wr i).toNat))) → T (D + 3) 105 (34, [(0, zr 64), (2, zi (w : Int)), (3, zi 0), (4, zi (wr ((m 69 0) + (m 65 ((wr i).toNat))))), (5, zi (i + (-1)))], [], (zu (zu m 68 ((wr i).toNat) 0) 69 0 ((m 69 0) + (m 65 ((wr i).toNat))))) κ)
    (o16 : ¬ wr i < 0 → wr (w : Int) < 1 → wr (w : Int) < 1 → ¬ wr b < wr ((m 69 0) + (m 65 ((wr i).toNat))) → T (D + 3) 105 (34, [(0, zr 64), (2, zi (w : Int)), (3, zi 0), (4, zi (wr b)), (5, zi (i + (-1)))], [], (zu (zu m 68 ((wr i).toNat) 0) 69 0 ((m 69 0) + (m 65 ((wr i).toNat))))) κ) :
    T (D + 3) 105 (34, lo, [], m) κ :=
  zkeep hT hlo (hT.1 [(34, [0, 2, 3, 4, 5])] 6 (D + 3) 105 _ κ (And.intro (fun a1 => (o1 a1)) (fun a2 => (And.intro (fun a3 => (hT.1 [(34, [0, 2, 3, 4, 5])] 6 (D + 3) 105 (49, [(0, zr 64), (2, zi (w : Int)), (3, zi (q : Int)), (4, zi b), (5, zi i)], [zi (q : Int)], m) _ (And.intro (o2 a2 a3) (And.intro (fun a5 => (hT.1 [(34, [0, 2, 3, 4, 5])] 6 (D + 3) 105 (62, [(0, zr 64), (2, zi (w : Int)), (3, zi (q : Int)), (4, zi b), (5, zi i), (6, zi (Int.tmod (wr (q : Int)) (wr (w : Int))))], [], m) _ (And.intro (o3 a2 a3 a5) (hT.1 [(34, [0, 2, 3, 4, 5])] 6 (D + 3) 105 (70, [(0, zr 64), (2, zi (w : Int)), (3, zi (Int.tdiv (wr (q : Int)) (wr (w : Int)))), (4, zi b), (5, zi i), (6, zi (Int.tmod (wr (q : Int)) (wr (w : Int))))], [zr 68], m) _ (And.intro (And.intro (o4 a2 a3 a5) trivial) (hT.1 [(34, [0, 2, 3, 4, 5])] 6 (D + 3) 105 (81, [(0, zr 64), (2, zi (w : Int)), (3, zi (Int.tdiv (wr (q : Int)) (wr (w : Int)))), (4, zi b), (5, zi i), (6, zi (Int.tmod (wr (q : Int)) (wr (w : Int))))], [zi (Int.tmod (wr (q : Int)) (wr (w : Int))), zr 69], (zu m 68 ((wr i).toNat) (Int.tmod (wr (q : Int)) (wr (w : Int))))) _ (And.intro (o5 a2 a3 a5) (And.intro (o6 a2 a3 a5) (hT.1 [(34, [0, 2, 3, 4, 5])] 6 (D + 3) 105 (90, [(0, zr 64), (2, zi (w : Int)), (3, zi (Int.tdiv (wr (q : Int)) (wr (w : Int)))), (4, zi b), (5, zi i), (6, zi (Int.tmod (wr (q : Int)) (wr (w : Int))))], [zi (m 65 ((wr i).toNat)), zi (m 69 ((wr (Int.tmod (wr (q : Int)) (wr (w : Int)))).toNat)), zi (Int.tmod (wr (q : Int)) (wr (w : Int))), zr 69], (zu m 68 ((wr i).toNat) (Int.tmod (wr (q : Int)) (wr (w : Int))))) _ (And.intro (And.intro (o7 a2 a3 a5) trivial) (hT.1 [(34, [0, 2, 3, 4, 5])] 6 (D + 3) 105 (100, [(0, zr 64), (2, zi (w : Int)), (3, zi (Int.tdiv (wr (q : Int)) (wr (w : Int)))), (4, zi b), (5, zi i), (6, zi (Int.tmod (wr (q : Int)) (wr (w : Int))))], [zi (Int.tmod (wr (q : Int)) (wr (w : Int))), zr 69, zi b], (zu (zu m 68 ((wr i).toNat) (Int.tmod (wr (q : Int)) (wr (w : Int)))) 69 ((wr (Int.tmod (wr (q : Int)) (wr (w : Int)))).toNat) ((m 69 ((wr (Int.tmod (wr (q : Int)) (wr (w : Int)))).toNat)) + (m 65 ((wr i).toNat))))) _ (And.intro (o8 a2 a3 a5) (hT.1 [] 6 (D + 2) 295 _ _ (And.intro (fun a7 => (hT.1 [(34, [0, 2, 3, 4, 5])] 6 (D + 3) 105 _ _ (o9 a2 a3 a5 a7))) (fun a8 => (hT.1 [(34, [0, 2, 3, 4, 5])] 6 (D + 3) 105 _ _ (o10 a2 a3 a5 a8))))))))))))))))) (fun a6 => (o11 a2 a3 (Classical.byContradiction a6)).elim))))) (fun a4 => (hT.1 [(34, [0, 2, 3, 4, 5])] 6 (D + 3) 105 (45, [(0, zr 64), (2, zi (w : Int)), (3, zi (q : Int)), (4, zi b), (5, zi i)], [zi 0], m) _ (And.intro (fun a9 => (o12 a2 (Classical.byContradiction a4) a9).elim) (fun a10 => (hT.1 [(34, [0, 2, 3, 4, 5])] 6 (D + 3) 105 (59, [(0, zr 64), (2, zi (w : Int)), (3, zi (q : Int)), (4, zi b), (5, zi i), (6, zi 0)], [zi 0], m) _ (hT.1 [(34, [0, 2, 3, 4, 5])] 6 (D + 3) 105 (74, [(0, zr 64), (2, zi (w : Int)), (3, zi 0), (4, zi b), (5, zi i), (6, zi 0)], [zi 0, zi i, zr 68], m) _ (And.intro (And.intro (o13 a2 (Classical.byContradiction a4) (Classical.byContradiction a10)) trivial) (And.intro (z_ixL rfl) (hT.1 [(34, [0, 2, 3, 4, 5])] 6 (D + 3) 105 (83, [(0, zr 64), (2, zi (w : Int)), (3, zi 0), (4, zi b), (5, zi i), (6, zi 0)], [zi (m 69 0), zi 0, zr 69], (zu m 68 ((wr i).toNat) 0)) _ (And.intro (o14 a2 (Classical.byContradiction a4) (Classical.byContradiction a10)) (And.intro (And.intro (z_ixL rfl) trivial) (hT.1 [(34, [0, 2, 3, 4, 5])] 6 (D + 3) 105 (92, [(0, zr 64), (2, zi (w : Int)), (3, zi 0), (4, zi b), (5, zi i), (6, zi 0)], [], (zu (zu m 68 ((wr i).toNat) 0) 69 0 ((m 69 0) + (m 65 ((wr i).toNat))))) _ (And.intro (z_ixL rfl) (hT.1 [] 6 (D + 2) 295 _ _ (And.intro (fun a11 => (hT.1 [(34, [0, 2, 3, 4, 5])] 6 (D + 3) 105 _ _ (o15 a2 (Classical.byContradiction a4) (Classical.byContradiction a10) a11))) (fun a12 => (hT.1 [(34, [0, 2, 3, 4, 5])] 6 (D + 3) 105 _ _ (o16 a2 (Classical.byContradiction a4) (Classical.byContradiction a10) a12))))))))))))))))))))))
theorem zb105_34 (hT : zRules T) {D : Nat} {κ : Option zA → zM → Prop} {m : zM} {w : Nat} {q : Nat} {b : Int} {i : Int} {lo : zL} (hlo : z_keep [0, 2, 3, 4, 5] lo = [(0, zr 64), (2, zi (w : Int)), (3, zi (q : Int)), (4, zi b), (5, zi i)])  (hB : zB m) (h_w : w ≤ 3) (h_q : q ≤ 6561) (h_b : (-2147483648) ≤ b ∧ b ≤ 2147483647) (h_i : (-1) ≤ i ∧ i ≤ 6) 
    (k1 : i < 0 → κ (some (zi b)) m)
    (k2 : ¬ i < 0 → ¬ (w : Int) < 1 → (0 ≤ wr (Int.tmod (q : Int) (w : Int)) ∧ wr (Int.tmod (q : Int) (w : Int)) < 3))
    (k3 : ¬ i < 0 → ¬ (w : Int) < 1 → (0 ≤ wr (Int.tmod (q : Int) (w : Int)) ∧ wr (Int.tmod (q : Int) (w : Int)) < 3))
    (k4 : ¬ i < 0 → ¬ (w : Int) < 1 → (0 ≤ wr (Int.tmod (q : Int) (w : Int)) ∧ wr (Int.tmod (q : Int) (w : Int)) < 3))
    (k5 : ¬ i < 0 → ¬ (w : Int) < 1 → b < wr ((m 69 ((wr (Int.tmod (q : Int) (w : Int))).toNat)) + (m 65 (i.toNat))) → zB (zu (zu m 68 (i.toNat) (Int.tmod (q : Int) (w : Int))) 69 ((wr (Int.tmod (q : Int) (w : Int))).toNat) ((m 69 ((wr (Int.tmod (q : Int) (w : Int))).toNat)) + (m 65 (i.toNat)))) → T (D + 3) 105 (34, [(0, zr 64), (2, zi (w : Int)), (3, zi (Int.tdiv (q : Int) (w : Int))), (4, zi (wr ((m 69 ((wr (Int.tmod (q : Int) (w : Int))).toNat)) + (m 65 (i.toNat))))), (5, zi (i + (-1)))], [], (zu (zu m 68 (i.toNat) (Int.tmod (q : Int) (w : Int))) 69 ((wr (Int.tmod (q : Int) (w : Int))).toNat) ((m 69 ((wr (Int.tmod (q : Int) (w : Int))).toNat)) + (m 65 (i.toNat))))) κ)
    (k6 : ¬ i < 0 → ¬ (w : Int) < 1 → ¬ b < wr ((m 69 ((wr (Int.tmod (q : Int) (w : Int))).toNat)) + (m 65 (i.toNat))) → zB (zu (zu m 68 (i.toNat) (Int.tmod (q : Int) (w : Int))) 69 ((wr (Int.tmod (q : Int) (w : Int))).toNat) ((m 69 ((wr (Int.tmod (q : Int) (w : Int))).toNat)) + (m 65 (i.toNat)))) → T (D + 3) 105 (34, [(0, zr 64), (2, zi (w : Int)), (3, zi (Int.tdiv (q : Int) (w : Int))), (4, zi b), (5, zi (i + (-1)))], [], (zu (zu m 68 (i.toNat) (Int.tmod (q : Int) (w : Int))) 69 ((wr (Int.tmod (q : Int) (w : Int))).toNat) ((m 69 ((wr (Int.tmod (q : Int) (w : Int))).toNat)) + (m 65 (i.toNat))))) κ)
    (k7 : ¬ i < 0 → (w : Int) < 1 → b < wr ((m 69 0) + (m 65 (i.toNat))) → zB (zu (zu m 68 (i.toNat) 0) 69 0 ((m 69 0) + (m 65 (i.toNat)))) → T (D + 3) 105 (34, [(0, zr 64), (2, zi (w : Int)), (3, zi 0), (4, zi (wr ((m 69 0) + (m 65 (i.toNat))))), (5, zi (i + (-1)))], [], (zu (zu m 68 (i.toNat) 0) 69 0 ((m 69 0) + (m 65 (i.toNat))))) κ)
    (k8 : ¬ i < 0 → (w : Int) < 1 → ¬ b < wr ((m 69 0) + (m 65 (i.toNat))) → zB (zu (zu m 68 (i.toNat) 0) 69 0 ((m 69 0) + (m 65 (i.toNat)))) → T (D + 3) 105 (34, [(0, zr 64), (2, zi (w : Int)), (3, zi 0), (4, zi b), (5, zi (i + (-1)))], [], (zu (zu m 68 (i.toNat) 0) 69 0 ((m 69 0) + (m 65 (i.toNat))))) κ) :
    T (D + 3) 105 (34, lo, [], m) κ := by
  have hb4 : 0 ≤ (m 65 (i.toNat)) ∧ (m 65 (i.toNat)) ≤ 20 := hB 65 (i.toNat)
  have hb5 : (-2147483648) ≤ wr ((m 69 0) + (m 65 (i.toNat))) ∧ wr ((m 69 0) + (m 65 (i.toNat))) ≤ 2147483647 := wrB ((m 69 0) + (m 65 (i.toNat)))
  have hb6 : (-2147483648) ≤ wr (Int.tmod (q : Int) (w : Int)) ∧ wr (Int.tmod (q : Int) (w : Int)) ≤ 2147483647 := wrB (Int.tmod (q : Int) (w : Int))
  have hb7 : (-2147483648) ≤ wr ((m 69 ((wr (Int.tmod (q : Int) (w : Int))).toNat)) + (m 65 (i.toNat))) ∧ wr ((m 69 ((wr (Int.tmod (q : Int) (w : Int))).toNat)) + (m 65 (i.toNat))) ≤ 2147483647 := wrB ((m 69 ((wr (Int.tmod (q : Int) (w : Int))).toNat)) + (m 65 (i.toNat)))
  have he0 : wr i = i := wr_id (by omega) (by omega)
  have he1 : wr b = b := wr_id (by omega) (by omega)
  have he2 : wr (w : Int) = (w : Int) := wr_id (by omega) (by omega)
  have he3 : wr (q : Int) = (q : Int) := wr_id (by omega) (by omega)
  have he4 : ((zu (zu m 68 (i.toNat) (Int.tmod (q : Int) (w : Int))) 69 ((wr (Int.tmod (q : Int) (w : Int))).toNat) ((m 69 ((wr (Int.tmod (q : Int) (w : Int))).toNat)) + (m 65 (i.toNat)))) 69 ((wr (Int.tmod (q : Int) (w : Int))).toNat)) = ((m 69 ((wr (Int.tmod (q : Int) (w : Int))).toNat)) + (m 65 (i.toNat))) := (zu_sm (by omega))
  have key := @zb105_34r T hT D κ m w q b i lo hlo
  simp only [he0, he1, he2, he3, he4, Int.toNat_natCast] at key
  exact key
    k1
    (fun x0 x1 => by omega)
    (fun x0 x1 x2 => by omega)
    (fun x0 x1 x2 => by refine ⟨?_, ?_⟩ <;> omega)
    (fun x0 x1 x2 => k2 x0 x1)
    (fun x0 x1 x2 => by refine ⟨?_, ?_⟩ <;> omega)
    (fun x0 x1 x2 => k3 x0 x1)
    (fun x0 x1 x2 => k4 x0 x1)
    (fun x0 x1 x2 x3 => k5 x0 x1 x3 (zB_u (zB_u hB trivial) trivial))
    (fun x0 x1 x2 x3 => k6 x0 x1 x3 (zB_u (zB_u hB trivial) trivial))
    (fun x0 x1 x2 => by omega)
    (fun x0 x1 x2 => by omega)
    (fun x0 x1 x2 => by refine ⟨?_, ?_⟩ <;> omega)
    (fun x0 x1 x2 => by refine ⟨?_, ?_⟩ <;> omega)
    (fun x0 x1 x2 x3 => k7 x0 x1 x3 (zB_u (zB_u hB trivial) trivial))
    (fun x0 x1 x2 x3 => k8 x0 x1 x3 (zB_u (zB_u hB trivial) trivial))
theorem zb285_0r (hT : zRules T) {D : Nat} {κ : Option zA → zM → Prop} {m : zM} {w : Int} 
    (o1 : wr w < 1 → κ (some (zi (-1))) (zu m 74 12 0))
    (o2 : ¬ wr w < 1 → 3 < wr w → κ (some (zi (-1))) (zu m 74 12 0))
    (o3 : ¬ wr w < 1 → ¬ 3 < wr w → T (D + 1) 284 (0, [(0, zr 74), (1, zi 0), (2, zi w), (3, zi 0)], [], (zu (zu m 74 12 0) 74 61 100000000)) (fun r m1 => T (D + 2) 285 (30, [(0, zr 74), (1, zi w)], r.toList ++ [], m1) κ)) :
    T (D + 2) 285 (0, [(0, zr 74), (1, zi w)], [], m) κ :=
  hT.1 [(37, [0, 2])] 6 (D + 2) 285 _ κ (And.intro trivial (hT.1 [(37, [0, 2])] 6 (D + 2) 285 (8, [(0, zr 74), (1, zi w)], [zi 3, zi 1, zi w], (zu m 74 12 0)) _ (hT.1 [] 6 (D + 1) 186 _ _ (And.intro (fun a1 => (And.intro (z_b01L rfl) (hT.1 [(37, [0, 2])] 6 (D + 2) 285 _ _ (And.intro (fun a3 => (z_litF a3 rfl).elim) (fun _ => (o1 a1)))))) (fun a2 => (And.intro (fun a4 => (hT.1 [] 6 (D + 1) 186 (14, [(0, zi w), (1, zi 1), (2, zi 3)], [], (zu m 74 12 0)) _ (And.intro (z_b01L rfl) (hT.1 [(37, [0, 2])] 6 (D + 2) 285 _ _ (And.intro (fun a6 => (z_litF a6 rfl).elim) (fun _ => (o2 a2 a4))))))) (fun a5 => (hT.1 [] 6 (D + 1) 186 (10, [(0, zi w), (1, zi 1), (2, zi 3)], [], (zu m 74 12 0)) _ (And.intro (z_b01L rfl) (hT.1 [(37, [0, 2])] 6 (D + 2) 285 _ _ (And.intro (fun _ => (And.intro trivial (hT.1 [(37, [0, 2])] 6 (D + 2) 285 (25, [(0, zr 74), (1, zi w)], [zi 0, zr 74], (zu (zu m 74 12 0) 74 61 100000000)) _ (o3 a2 a5)))) (fun a7 => (a7 (z_litT rfl)).elim))))))))))))
theorem zb285_0 (hT : zRules T) {D : Nat} {κ : Option zA → zM → Prop} {m : zM} {w : Int}  (hB : zB m) (h_w : (-2147483648) ≤ w ∧ w ≤ 2147483647) 
    (k1 : w < 1 → zB (zu m 74 12 0) → κ (some (zi (-1))) (zu m 74 12 0))
    (k2 : ¬ w < 1 → 3 < w → zB (zu m 74 12 0) → κ (some (zi (-1))) (zu m 74 12 0))
    (k3 : ¬ w < 1 → ¬ 3 < w → zB (zu (zu m 74 12 0) 74 61 100000000) → T (D + 1) 284 (0, [(0, zr 74), (1, zi 0), (2, zi w), (3, zi 0)], [], (zu (zu m 74 12 0) 74 61 100000000)) (fun r m1 => T (D + 2) 285 (30, [(0, zr 74), (1, zi w)], r.toList ++ [], m1) κ)) :
    T (D + 2) 285 (0, [(0, zr 74), (1, zi w)], [], m) κ := by
  have he0 : wr w = w := wr_id (by omega) (by omega)
  have key := @zb285_0r T hT D κ m w
  simp only [he0, Int.toNat_natCast] at key
  exact key
    (fun x0 => k1 x0 (zB_u hB trivial))
    (fun x0 x1 => k2 x0 x1 (zB_u hB trivial))
    (fun x0 x1 => k3 x0 x1 (zB_u (zB_u hB trivial) trivial))
theorem zb285_30r (hT : zRules T) {D : Nat} {κ : Option zA → zM → Prop} {m : zM} {lo : zL} (hlo : z_keep [0] lo = [(0, zr 74)]) 
    (o1 : T (D + 2) 285 (37, [(0, zr 74), (2, zi 0)], [], (zu m 74 11 0)) κ) :
    T (D + 2) 285 (30, lo, [], m) κ :=
  zkeep hT hlo (hT.1 [(37, [0, 2])] 6 (D + 2) 285 _ κ (And.intro trivial (o1)))
theorem zb285_30 (hT : zRules T) {D : Nat} {κ : Option zA → zM → Prop} {m : zM} {lo : zL} (hlo : z_keep [0] lo = [(0, zr 74)])  (hB : zB m) 
    (k1 : zB (zu m 74 11 0) → T (D + 2) 285 (37, [(0, zr 74), (2, zi 0)], [], (zu m 74 11 0)) κ) :
    T (D + 2) 285 (30, lo, [], m) κ := by
  exact zb285_30r hT hlo
    (k1  (zB_u hB (show 0 ≤ 0 ∧ 0 ≤ 32 from ⟨by omega, by omega⟩)))
theorem zb285_37r (hT : zRules T) {D : Nat} {κ : Option zA → zM → Prop} {m : zM} {i : Nat} {lo : zL} (hlo : z_keep [0, 2] lo = [(0, zr 74), (2, zi (i : Int))]) 
    (o1 : ¬ wr (i : Int) < wr (m 74 54) → κ (some (zi (wr (m 74 61)))) m)
    (o2 : wr (i : Int) < wr (m 74 54) → (0 ≤ wr (i : Int) ∧ wr (i : Int) < 7))
    (o3 : wr (i : Int) < wr (m 74 54) → (0 ≤ wr (m 74 11) ∧ wr (m 74 11) < 32))
    (o4 : wr (i : Int) < wr (m 74 54) → T (D + 2) 285 (37, [(0, zr 74), (2, zi ((i : Int) + 1))], [], (zu (zu m 81 ((wr (m 74 11)).toNat) (m 105 ((wr (i : Int)).toNat))) 74 11 ((m 74 11) + 1))) κ) :
    T (D + 2) 285 (37, lo, [], m) κ :=
  zkeep hT hlo (hT.1 [(37, [0, 2])] 6 (D + 2) 285 _ κ (And.intro (fun a1 => (hT.1 [(37, [0, 2])] 6 (D + 2) 285 (65, [(0, zr 74), (2, zi (i : Int))], [zi (m 74 61)], m) _ (o1 a1))) (fun a2 => (hT.1 [(37, [0, 2])] 6 (D + 2) 285 (47, [(0, zr 74), (2, zi (i : Int))], [zr 74, zr 74], m) _ (And.intro (o2 (Classical.byContradiction a2)) (hT.1 [] 6 (D + 1) 189 _ _ (And.intro (And.intro (o3 (Classical.byContradiction a2)) trivial) (hT.1 [] 6 (D + 1) 189 (10, [(0, zr 74), (1, zi (m 105 ((wr (i : Int)).toNat)))], [], (zu m 81 ((wr (m 74 11)).toNat) (m 105 ((wr (i : Int)).toNat)))) _ (And.intro trivial (hT.1 [] 6 (D + 1) 189 (20, [(0, zr 74), (1, zi (m 105 ((wr (i : Int)).toNat)))], [], (zu (zu m 81 ((wr (m 74 11)).toNat) (m 105 ((wr (i : Int)).toNat))) 74 11 ((m 74 11) + 1))) _ (hT.1 [(37, [0, 2])] 6 (D + 2) 285 _ _ (o4 (Classical.byContradiction a2)))))))))))))
theorem zb285_37 (hT : zRules T) {D : Nat} {κ : Option zA → zM → Prop} {m : zM} {i : Nat} {lo : zL} (hlo : z_keep [0, 2] lo = [(0, zr 74), (2, zi (i : Int))])  (hB : zB m) (h_i : i ≤ 7) 
    (k1 : ¬ (i : Int) < (m 74 54) → κ (some (zi (wr (m 74 61)))) m)
    (k2 : (i : Int) < (m 74 54) → (0 ≤ (m 74 11) ∧ (m 74 11) < 32))
    (k3 : (i : Int) < (m 74 54) → T (D + 2) 285 (37, [(0, zr 74), (2, zi ((i : Int) + 1))], [], (zu (zu m 81 ((m 74 11).toNat) (m 105 i)) 74 11 ((m 74 11) + 1))) κ) :
    T (D + 2) 285 (37, lo, [], m) κ := by
  have hb1 : 0 ≤ (m 74 54) ∧ (m 74 54) ≤ 7 := hB 74 54
  have hb2 : 0 ≤ (m 74 11) ∧ (m 74 11) ≤ 32 := hB 74 11
  have hb3 : (-2147483648) ≤ wr (m 74 61) ∧ wr (m 74 61) ≤ 2147483647 := wrB (m 74 61)
  have he0 : wr (i : Int) = (i : Int) := wr_id (by omega) (by omega)
  have he1 : wr (m 74 54) = (m 74 54) := wr_id (by omega) (by omega)
  have he2 : (i : Int).toNat = i := by omega
  have he3 : wr (m 74 11) = (m 74 11) := wr_id (by omega) (by omega)
  have key := @zb285_37r T hT D κ m i lo hlo
  simp only [he0, he1, he2, he3, Int.toNat_natCast] at key
  exact key
    k1
    (fun x0 => by refine ⟨?_, ?_⟩ <;> omega)
    k2
    k3
theorem zb284_0r (hT : zRules T) {D : Nat} {κ : Option zA → zM → Prop} {m : zM} {k : Nat} {w : Nat} {t : Int} 
    (o1 : wr t < wr (m 74 61) → ¬ wr (k : Int) = wr (m 74 54) → T (D + 1) 284 (58, [(0, zr 74), (1, zi (k : Int)), (2, zi (w : Int)), (3, zi t), (4, zi 0)], [], m) κ)
    (o2 : wr t < wr (m 74 61) → wr (k : Int) = wr (m 74 54) → T (D + 1) 284 (25, [(0, zr 74), (4, zi 0)], [], (zu m 74 61 t)) κ)
    (o3 : ¬ wr t < wr (m 74 61) → κ (none) m) :
    T (D + 1) 284 (0, [(0, zr 74), (1, zi (k : Int)), (2, zi (w : Int)), (3, zi t)], [], m) κ :=
  hT.1 [(25, [0, 4]), (58, [0, 1, 2, 3, 4])] 6 (D + 1) 284 _ κ (And.intro (fun a1 => (hT.1 [(25, [0, 4]), (58, [0, 1, 2, 3, 4])] 6 (D + 1) 284 (11, [(0, zr 74), (1, zi (k : Int)), (2, zi (w : Int)), (3, zi t)], [zr 74, zi (k : Int)], m) _ (And.intro (fun a3 => (o1 a1 a3)) (fun a4 => (And.intro trivial (hT.1 [(25, [0, 4]), (58, [0, 1, 2, 3, 4])] 6 (D + 1) 284 (23, [(0, zr 74), (1, zi (k : Int)), (2, zi (w : Int)), (3, zi t)], [zi 0], (zu m 74 61 t)) _ (o2 a1 (Classical.byContradiction a4)))))))) (fun a2 => (o3 a2)))
theorem zb284_0 (hT : zRules T) {D : Nat} {κ : Option zA → zM → Prop} {m : zM} {k : Nat} {w : Nat} {t : Int}  (hB : zB m) (h_k : k ≤ 7) (h_w : w ≤ 3) (h_t : (-2147483648) ≤ t ∧ t ≤ 2147483647) 
    (k1 : t < wr (m 74 61) → ¬ (k : Int) = (m 74 54) → T (D + 1) 284 (58, [(0, zr 74), (1, zi (k : Int)), (2, zi (w : Int)), (3, zi t), (4, zi 0)], [], m) κ)
    (k2 : t < wr (m 74 61) → (k : Int) = (m 74 54) → zB (zu m 74 61 t) → T (D + 1) 284 (25, [(0, zr 74), (4, zi 0)], [], (zu m 74 61 t)) κ)
    (k3 : ¬ t < wr (m 74 61) → κ (none) m) :
    T (D + 1) 284 (0, [(0, zr 74), (1, zi (k : Int)), (2, zi (w : Int)), (3, zi t)], [], m) κ := by
  have hb3 : (-2147483648) ≤ wr (m 74 61) ∧ wr (m 74 61) ≤ 2147483647 := wrB (m 74 61)
  have hb4 : 0 ≤ (m 74 54) ∧ (m 74 54) ≤ 7 := hB 74 54
  have he0 : wr t = t := wr_id (by omega) (by omega)
  have he1 : wr (k : Int) = (k : Int) := wr_id (by omega) (by omega)
  have he2 : wr (m 74 54) = (m 74 54) := wr_id (by omega) (by omega)
  have key := @zb284_0r T hT D κ m k w t
  simp only [he0, he1, he2, Int.toNat_natCast] at key
  exact key
    k1
    (fun x0 x1 => k2 x0 x1 (zB_u hB trivial))
    k3
theorem zb284_25r (hT : zRules T) {D : Nat} {κ : Option zA → zM → Prop} {m : zM} {i : Nat} {lo : zL} (hlo : z_keep [0, 4] lo = [(0, zr 74), (4, zi (i : Int))]) 
    (o1 : ¬ wr (i : Int) < wr (m 74 54) → κ (none) m)
    (o2 : wr (i : Int) < wr (m 74 54) → (0 ≤ wr (i : Int) ∧ wr (i : Int) < 7))
    (o3 : wr (i : Int) < wr (m 74 54) → (0 ≤ wr (i : Int) ∧ wr (i : Int) < 7))
    (o4 : wr (i : Int) < wr (m 74 54) → T (D + 1) 284 (25, [(0, zr 74), (4, zi ((i : Int) + 1))], [], (zu m 105 ((wr (i : Int)).toNat) (m 104 ((wr (i : Int)).toNat)))) κ) :
    T (D + 1) 284 (25, lo, [], m) κ :=
  zkeep hT hlo (hT.1 [(25, [0, 4]), (58, [0, 1, 2, 3, 4])] 6 (D + 1) 284 _ κ (And.intro (fun a1 => (o1 a1)) (fun a2 => (hT.1 [(25, [0, 4]), (58, [0, 1, 2, 3, 4])] 6 (D + 1) 284 (38, [(0, zr 74), (4, zi (i : Int))], [zr 105], m) _ (And.intro (o2 (Classical.byContradiction a2)) (And.intro (And.intro (o3 (Classical.byContradiction a2)) trivial) (hT.1 [(25, [0, 4]), (58, [0, 1, 2, 3, 4])] 6 (D + 1) 284 (48, [(0, zr 74), (4, zi (i : Int))], [], (zu m 105 ((wr (i : Int)).toNat) (m 104 ((wr (i : Int)).toNat)))) _ (o4 (Classical.byContradiction a2)))))))))
theorem zb284_25 (hT : zRules T) {D : Nat} {κ : Option zA → zM → Prop} {m : zM} {i : Nat} {lo : zL} (hlo : z_keep [0, 4] lo = [(0, zr 74), (4, zi (i : Int))])  (hB : zB m) (h_i : i ≤ 7) 
    (k1 : ¬ (i : Int) < (m 74 54) → κ (none) m)
    (k2 : (i : Int) < (m 74 54) → zB (zu m 105 i (m 104 i)) → T (D + 1) 284 (25, [(0, zr 74), (4, zi ((i : Int) + 1))], [], (zu m 105 i (m 104 i))) κ) :
    T (D + 1) 284 (25, lo, [], m) κ := by
  have hb1 : 0 ≤ (m 74 54) ∧ (m 74 54) ≤ 7 := hB 74 54
  have he0 : wr (i : Int) = (i : Int) := wr_id (by omega) (by omega)
  have he1 : wr (m 74 54) = (m 74 54) := wr_id (by omega) (by omega)
  have he2 : (i : Int).toNat = i := by omega
  have key := @zb284_25r T hT D κ m i lo hlo
  simp only [he0, he1, he2, Int.toNat_natCast] at key
  exact key
    k1
    (fun x0 => by refine ⟨?_, ?_⟩ <;> omega)
    (fun x0 => by refine ⟨?_, ?_⟩ <;> omega)
    (fun x0 => k2 x0 (zB_u hB trivial))
theorem zb284_58r (hT : zRules T) {D : Nat} {κ : Option zA → zM → Prop} {m : zM} {k : Nat} {w : Nat} {t : Int} {i : Nat} {lo : zL} (hlo : z_keep [0, 1, 2, 3, 4] lo = [(0, zr 74), (1, zi (k : Int)), (2, zi (w : Int)), (3, zi t), (4, zi (i : Int))]) 
    (o1 : ¬ wr (i : Int) < wr (w : Int) → κ (none) m)
    (o2 : wr (i : Int) < wr (w : Int) → (0 ≤ wr (k : Int) ∧ wr (k : Int) < 7))
    (o3 : wr (i : Int) < wr (w : Int) → (0 ≤ wr (i : Int) ∧ wr (i : Int) < 3))
    (o4 : wr (i : Int) < wr (w : Int) → (0 ≤ wr (2 * (k : Int)) ∧ wr (2 * (k : Int)) < 14))
    (o5 : wr (i : Int) < wr (w : Int) → (0 ≤ wr (i : Int) ∧ wr (i : Int) < 3))
    (o6 : wr (i : Int) < wr (w : Int) → (0 ≤ wr (i : Int) ∧ wr (i : Int) < 3))
    (o7 : wr (i : Int) < wr (w : Int) → wr t < wr ((zu (zu m 104 ((wr (k : Int)).toNat) (i : Int)) 103 ((wr (i : Int)).toNat) ((m 103 ((wr (i : Int)).toNat)) + (m 100 ((wr (2 * (k : Int))).toNat)))) 103 ((wr (i : Int)).toNat)) → T D 284 (0, [(0, zr 74), (1, zi ((k : Int) + 1)), (2, zi (w : Int)), (3, zi (wr ((zu (zu m 104 ((wr (k : Int)).toNat) (i : Int)) 103 ((wr (i : Int)).toNat) ((m 103 ((wr (i : Int)).toNat)) + (m 100 ((wr (2 * (k : Int))).toNat)))) 103 ((wr (i : Int)).toNat))))], [], (zu (zu m 104 ((wr (k : Int)).toNat) (i : Int)) 103 ((wr (i : Int)).toNat) ((m 103 ((wr (i : Int)).toNat)) + (m 100 ((wr (2 * (k : Int))).toNat))))) (fun r m1 => T (D + 1) 284 (109, [(0, zr 74), (1, zi (k : Int)), (2, zi (w : Int)), (3, zi t), (4, zi (i : Int))], r.toList ++ [], m1) κ))
    (o8 : wr (i : Int) < wr (w : Int) → ¬ wr t < wr ((zu (zu m 104 ((wr (k : Int)).toNat) (i : Int)) 103 ((wr (i : Int)).toNat) ((m 103 ((wr (i : Int)).toNat)) + (m 100 ((wr (2 * (k : Int))).toNat)))) 103 ((wr (i : Int)).toNat)) → T D 284 (0, [(0, zr 74), (1, zi ((k : Int) + 1)), (2, zi (w : Int)), (3, zi (wr t))], [], (zu (zu m 104 ((wr (k : Int)).toNat) (i : Int)) 103 ((wr (i : Int)).toNat) ((m 103 ((wr (i : Int)).toNat)) + (m 100 ((wr (2 * (k : Int))).toNat))))) (fun r m1 => T (D + 1) 284 (109, [(0, zr 74), (1, zi (k : Int)), (2, zi (w : Int)), (3, zi t), (4, zi (i : Int))], r.toList ++ [], m1) κ)) :
    T (D + 1) 284 (58, lo, [], m) κ :=
  zkeep hT hlo (hT.1 [(25, [0, 4]), (58, [0, 1, 2, 3, 4])] 6 (D + 1) 284 _ κ (And.intro (fun a1 => (o1 a1)) (fun a2 => (hT.1 [(25, [0, 4]), (58, [0, 1, 2, 3, 4])] 6 (D + 1) 284 (69, [(0, zr 74), (1, zi (k : Int)), (2, zi (w : Int)), (3, zi t), (4, zi (i : Int))], [zi (k : Int), zr 104], m) _ (And.intro (And.intro (o2 (Classical.byContradiction a2)) trivial) (hT.1 [(25, [0, 4]), (58, [0, 1, 2, 3, 4])] 6 (D + 1) 284 (79, [(0, zr 74), (1, zi (k : Int)), (2, zi (w : Int)), (3, zi t), (4, zi (i : Int))], [zi (i : Int), zr 103, zi (i : Int), zr 103], (zu m 104 ((wr (k : Int)).toNat) (i : Int))) _ (And.intro (o3 (Classical.byContradiction a2)) (hT.1 [(25, [0, 4]), (58, [0, 1, 2, 3, 4])] 6 (D + 1) 284 (87, [(0, zr 74), (1, zi (k : Int)), (2, zi (w : Int)), (3, zi t), (4, zi (i : Int))], [zi (2 * (k : Int)), zr 100, zi (m 103 ((wr (i : Int)).toNat)), zi (i : Int), zr 103], (zu m 104 ((wr (k : Int)).toNat) (i : Int))) _ (And.intro (o4 (Classical.byContradiction a2)) (And.intro (And.intro (o5 (Classical.byContradiction a2)) trivial) (hT.1 [(25, [0, 4]), (58, [0, 1, 2, 3, 4])] 6 (D + 1) 284 (93, [(0, zr 74), (1, zi (k : Int)), (2, zi (w : Int)), (3, zi t), (4, zi (i : Int))], [zi 1, zi (k : Int), zr 74], (zu (zu m 104 ((wr (k : Int)).toNat) (i : Int)) 103 ((wr (i : Int)).toNat) ((m 103 ((wr (i : Int)).toNat)) + (m 100 ((wr (2 * (k : Int))).toNat))))) _ (hT.1 [(25, [0, 4]), (58, [0, 1, 2, 3, 4])] 6 (D + 1) 284 (102, [(0, zr 74), (1, zi (k : Int)), (2, zi (w : Int)), (3, zi t), (4, zi (i : Int))], [zi (i : Int), zr 103, zi t, zi (w : Int), zi ((k : Int) + 1), zr 74], (zu (zu m 104 ((wr (k : Int)).toNat) (i : Int)) 103 ((wr (i : Int)).toNat) ((m 103 ((wr (i : Int)).toNat)) + (m 100 ((wr (2 * (k : Int))).toNat))))) _ (And.intro (o6 (Classical.byContradiction a2)) (hT.1 [] 6 D 295 _ _ (And.intro (fun a3 => (hT.1 [(25, [0, 4]), (58, [0, 1, 2, 3, 4])] 6 (D + 1) 284 _ _ (o7 (Classical.byContradiction a2) a3))) (fun a4 => (hT.1 [(25, [0, 4]), (58, [0, 1, 2, 3, 4])] 6 (D + 1) 284 _ _ (o8 (Classical.byContradiction a2) a4))))))))))))))))))
theorem zb284_58 (hT : zRules T) {D : Nat} {κ : Option zA → zM → Prop} {m : zM} {k : Nat} {w : Nat} {t : Int} {i : Nat} {lo : zL} (hlo : z_keep [0, 1, 2, 3, 4] lo = [(0, zr 74), (1, zi (k : Int)), (2, zi (w : Int)), (3, zi t), (4, zi (i : Int))])  (hB : zB m) (h_k : k ≤ 6) (h_w : w ≤ 3) (h_t : (-2147483648) ≤ t ∧ t ≤ 2147483647) (h_i : i ≤ 3) 
    (k1 : ¬ (i : Int) < (w : Int) → κ (none) m)
    (k2 : (i : Int) < (w : Int) → t < wr ((m 103 i) + (m 100 (2 * k))) → zB (zu (zu m 104 k (i : Int)) 103 i ((m 103 i) + (m 100 (2 * k)))) → T D 284 (0, [(0, zr 74), (1, zi ((k : Int) + 1)), (2, zi (w : Int)), (3, zi (wr ((m 103 i) + (m 100 (2 * k)))))], [], (zu (zu m 104 k (i : Int)) 103 i ((m 103 i) + (m 100 (2 * k))))) (fun r m1 => T (D + 1) 284 (109, [(0, zr 74), (1, zi (k : Int)), (2, zi (w : Int)), (3, zi t), (4, zi (i : Int))], r.toList ++ [], m1) κ))
    (k3 : (i : Int) < (w : Int) → ¬ t < wr ((m 103 i) + (m 100 (2 * k))) → zB (zu (zu m 104 k (i : Int)) 103 i ((m 103 i) + (m 100 (2 * k)))) → T D 284 (0, [(0, zr 74), (1, zi ((k : Int) + 1)), (2, zi (w : Int)), (3, zi t)], [], (zu (zu m 104 k (i : Int)) 103 i ((m 103 i) + (m 100 (2 * k))))) (fun r m1 => T (D + 1) 284 (109, [(0, zr 74), (1, zi (k : Int)), (2, zi (w : Int)), (3, zi t), (4, zi (i : Int))], r.toList ++ [], m1) κ)) :
    T (D + 1) 284 (58, lo, [], m) κ := by
  have hb4 : 0 ≤ (m 100 (2 * k)) ∧ (m 100 (2 * k)) ≤ 99 := hB 100 (2 * k)
  have hb5 : (-2147483648) ≤ wr ((m 103 i) + (m 100 (2 * k))) ∧ wr ((m 103 i) + (m 100 (2 * k))) ≤ 2147483647 := wrB ((m 103 i) + (m 100 (2 * k)))
  have he0 : wr (i : Int) = (i : Int) := wr_id (by omega) (by omega)
  have he1 : wr (w : Int) = (w : Int) := wr_id (by omega) (by omega)
  have he2 : wr (k : Int) = (k : Int) := wr_id (by omega) (by omega)
  have he3 : (k : Int).toNat = k := by omega
  have he4 : (i : Int).toNat = i := by omega
  have he5 : wr (2 * (k : Int)) = (2 * (k : Int)) := wr_id (by omega) (by omega)
  have he6 : (2 * (k : Int)).toNat = 2 * k := by omega
  have he7 : ((zu (zu m 104 k (i : Int)) 103 i ((m 103 i) + (m 100 (2 * k)))) 103 i) = ((m 103 i) + (m 100 (2 * k))) := (zu_sm (by omega))
  have he8 : wr t = t := wr_id (by omega) (by omega)
  have key := @zb284_58r T hT D κ m k w t i lo hlo
  simp only [he0, he1, he2, he3, he4, he5, he6, he7, he8, Int.toNat_natCast] at key
  exact key
    k1
    (fun x0 => by refine ⟨?_, ?_⟩ <;> omega)
    (fun x0 => by refine ⟨?_, ?_⟩ <;> omega)
    (fun x0 => by refine ⟨?_, ?_⟩ <;> omega)
    (fun x0 => by refine ⟨?_, ?_⟩ <;> omega)
    (fun x0 => by refine ⟨?_, ?_⟩ <;> omega)
    (fun x0 x1 => k2 x0 x1 (zB_u (zB_u hB trivial) trivial))
    (fun x0 x1 => k3 x0 x1 (zB_u (zB_u hB trivial) trivial))
theorem zb284_109r (hT : zRules T) {D : Nat} {κ : Option zA → zM → Prop} {m : zM} {k : Nat} {w : Nat} {t : Int} {i : Nat} {lo : zL} (hlo : z_keep [0, 1, 2, 3, 4] lo = [(0, zr 74), (1, zi (k : Int)), (2, zi (w : Int)), (3, zi t), (4, zi (i : Int))]) 
    (o1 : (0 ≤ wr (i : Int) ∧ wr (i : Int) < 3))
    (o2 : (0 ≤ wr (2 * (k : Int)) ∧ wr (2 * (k : Int)) < 14))
    (o3 : (0 ≤ wr (i : Int) ∧ wr (i : Int) < 3))
    (o4 : T (D + 1) 284 (58, [(0, zr 74), (1, zi (k : Int)), (2, zi (w : Int)), (3, zi t), (4, zi ((i : Int) + 1))], [], (zu m 103 ((wr (i : Int)).toNat) ((m 103 ((wr (i : Int)).toNat)) - (m 100 ((wr (2 * (k : Int))).toNat))))) κ) :
    T (D + 1) 284 (109, lo, [], m) κ :=
  zkeep hT hlo (hT.1 [(25, [0, 4]), (58, [0, 1, 2, 3, 4])] 6 (D + 1) 284 _ κ (And.intro (o1) (hT.1 [(25, [0, 4]), (58, [0, 1, 2, 3, 4])] 6 (D + 1) 284 (118, [(0, zr 74), (1, zi (k : Int)), (2, zi (w : Int)), (3, zi t), (4, zi (i : Int))], [zr 74, zi (m 103 ((wr (i : Int)).toNat)), zi (i : Int), zr 103], m) _ (And.intro (o2) (hT.1 [(25, [0, 4]), (58, [0, 1, 2, 3, 4])] 6 (D + 1) 284 (126, [(0, zr 74), (1, zi (k : Int)), (2, zi (w : Int)), (3, zi t), (4, zi (i : Int))], [zi ((m 103 ((wr (i : Int)).toNat)) - (m 100 ((wr (2 * (k : Int))).toNat))), zi (i : Int), zr 103], m) _ (And.intro (And.intro (o3) trivial) (o4)))))))
theorem zb284_109 (hT : zRules T) {D : Nat} {κ : Option zA → zM → Prop} {m : zM} {k : Nat} {w : Nat} {t : Int} {i : Nat} {lo : zL} (hlo : z_keep [0, 1, 2, 3, 4] lo = [(0, zr 74), (1, zi (k : Int)), (2, zi (w : Int)), (3, zi t), (4, zi (i : Int))])  (hB : zB m) (h_k : k ≤ 6) (h_w : w ≤ 3) (h_t : (-2147483648) ≤ t ∧ t ≤ 2147483647) (h_i : i ≤ 2) 
    (k1 : zB (zu m 103 i ((m 103 i) - (m 100 (2 * k)))) → T (D + 1) 284 (58, [(0, zr 74), (1, zi (k : Int)), (2, zi (w : Int)), (3, zi t), (4, zi ((i : Int) + 1))], [], (zu m 103 i ((m 103 i) - (m 100 (2 * k))))) κ) :
    T (D + 1) 284 (109, lo, [], m) κ := by
  have hb4 : 0 ≤ (m 100 (2 * k)) ∧ (m 100 (2 * k)) ≤ 99 := hB 100 (2 * k)
  have he0 : wr (i : Int) = (i : Int) := wr_id (by omega) (by omega)
  have he1 : (i : Int).toNat = i := by omega
  have he2 : wr (2 * (k : Int)) = (2 * (k : Int)) := wr_id (by omega) (by omega)
  have he3 : (2 * (k : Int)).toNat = 2 * k := by omega
  have key := @zb284_109r T hT D κ m k w t i lo hlo
  simp only [he0, he1, he2, he3, Int.toNat_natCast] at key
  exact key
    (by refine ⟨?_, ?_⟩ <;> omega)
    (by refine ⟨?_, ?_⟩ <;> omega)
    (by refine ⟨?_, ?_⟩ <;> omega)
    (k1  (zB_u hB trivial))
end ZBlocks
