section ZBlocks
variable {T : Nat → Nat → zG → (Option zA → zM → Prop) → Prop}
theorem zb268_0r (hT : zRules T) {D : Nat} {κ : Option zA → zM → Prop} {m : zM} {v : Int} {q : Nat} 
    (o1 : T (D + 3) 268 (2, [(0, zr 74), (1, zi v), (2, zi (q : Int)), (3, zi 0)], [], m) κ) :
    T (D + 3) 268 (0, [(0, zr 74), (1, zi v), (2, zi (q : Int))], [], m) κ :=
  hT.1 [(2, [0, 1, 2, 3])] 6 (D + 3) 268 _ κ (o1)
theorem zb268_0 (hT : zRules T) {D : Nat} {κ : Option zA → zM → Prop} {m : zM} {v : Int} {q : Nat}  (hB : zB m) (h_v : 0 ≤ v ∧ v ≤ 99) (h_q : q ≤ 26) 
    (k1 : T (D + 3) 268 (2, [(0, zr 74), (1, zi v), (2, zi (q : Int)), (3, zi 0)], [], m) κ) :
    T (D + 3) 268 (0, [(0, zr 74), (1, zi v), (2, zi (q : Int))], [], m) κ := by
  exact zb268_0r hT
    k1
theorem zb268_2r (hT : zRules T) {D : Nat} {κ : Option zA → zM → Prop} {m : zM} {v : Int} {q : Nat} {i : Nat} {lo : zL} (hlo : z_keep [0, 1, 2, 3] lo = [(0, zr 74), (1, zi v), (2, zi (q : Int)), (3, zi (i : Int))]) 
    (o1 : ¬ wr (i : Int) < wr (q : Int) → κ (some (zi 0)) m)
    (o2 : wr (i : Int) < wr (q : Int) → (0 ≤ wr (i : Int) ∧ wr (i : Int) < 26))
    (o3 : wr (i : Int) < wr (q : Int) → wr (m 98 ((wr (i : Int)).toNat)) < wr v → T (D + 3) 268 (2, [(0, zr 74), (1, zi v), (2, zi (q : Int)), (3, zi ((i : Int) + 1))], [], m) κ)
    (o4 : wr (i : Int) < wr (q : Int) → ¬ wr (m 98 ((wr (i : Int)).toNat)) < wr v → wr (v + (m 79 0)) < wr (m 98 ((wr (i : Int)).toNat)) → T (D + 3) 268 (2, [(0, zr 74), (1, zi v), (2, zi (q : Int)), (3, zi ((i : Int) + 1))], [], m) κ)
    (o5 : wr (i : Int) < wr (q : Int) → ¬ wr (m 98 ((wr (i : Int)).toNat)) < wr v → ¬ wr (v + (m 79 0)) < wr (m 98 ((wr (i : Int)).toNat)) → κ (some (zi 1)) m) :
    T (D + 3) 268 (2, lo, [], m) κ :=
  zkeep hT hlo (hT.1 [(2, [0, 1, 2, 3])] 6 (D + 3) 268 _ κ (And.intro (fun a1 => (And.intro (z_b01L rfl) (o1 a1))) (fun a2 => (hT.1 [(2, [0, 1, 2, 3])] 6 (D + 3) 268 (12, [(0, zr 74), (1, zi v), (2, zi (q : Int)), (3, zi (i : Int))], [zr 98, zr 74], m) _ (And.intro (o2 (Classical.byContradiction a2)) (hT.1 [] 6 (D + 2) 252 _ _ (hT.1 [] 6 (D + 2) 252 (8, [(0, zr 74), (1, zi (m 98 ((wr (i : Int)).toNat))), (2, zi v)], [zi 0, zr 79, zi v, zi v, zi (m 98 ((wr (i : Int)).toNat))], m) _ (And.intro (z_ixL rfl) (hT.1 [] 6 (D + 1) 186 _ _ (And.intro (fun a3 => (And.intro (z_b01L rfl) (hT.1 [] 6 (D + 2) 252 _ _ (And.intro (z_b01L rfl) (hT.1 [(2, [0, 1, 2, 3])] 6 (D + 3) 268 _ _ (And.intro (fun _ => (o3 (Classical.byContradiction a2) a3)) (fun a5 => (a5 (z_litT rfl)).elim))))))) (fun a4 => (And.intro (fun a6 => (hT.1 [] 6 (D + 1) 186 (14, [(0, zi (m 98 ((wr (i : Int)).toNat))), (1, zi v), (2, zi (v + (m 79 0)))], [], m) _ (And.intro (z_b01L rfl) (hT.1 [] 6 (D + 2) 252 _ _ (And.intro (z_b01L rfl) (hT.1 [(2, [0, 1, 2, 3])] 6 (D + 3) 268 _ _ (And.intro (fun _ => (o4 (Classical.byContradiction a2) a4 a6)) (fun a8 => (a8 (z_litT rfl)).elim)))))))) (fun a7 => (hT.1 [] 6 (D + 1) 186 (10, [(0, zi (m 98 ((wr (i : Int)).toNat))), (1, zi v), (2, zi (v + (m 79 0)))], [], m) _ (And.intro (z_b01L rfl) (hT.1 [] 6 (D + 2) 252 _ _ (And.intro (z_b01L rfl) (hT.1 [(2, [0, 1, 2, 3])] 6 (D + 3) 268 _ _ (And.intro (fun a9 => (z_litF a9 rfl).elim) (fun _ => (And.intro (z_b01L rfl) (o5 (Classical.byContradiction a2) a4 a7))))))))))))))))))))))
theorem zb268_2 (hT : zRules T) {D : Nat} {κ : Option zA → zM → Prop} {m : zM} {v : Int} {q : Nat} {i : Nat} {lo : zL} (hlo : z_keep [0, 1, 2, 3] lo = [(0, zr 74), (1, zi v), (2, zi (q : Int)), (3, zi (i : Int))])  (hB : zB m) (h_v : 0 ≤ v ∧ v ≤ 99) (h_q : q ≤ 26) (h_i : i ≤ 26) 
    (k1 : ¬ (i : Int) < (q : Int) → κ (some (zi 0)) m)
    (k2 : (i : Int) < (q : Int) → wr (m 98 i) < v → T (D + 3) 268 (2, [(0, zr 74), (1, zi v), (2, zi (q : Int)), (3, zi ((i : Int) + 1))], [], m) κ)
    (k3 : (i : Int) < (q : Int) → ¬ wr (m 98 i) < v → (v + (m 79 0)) < wr (m 98 i) → T (D + 3) 268 (2, [(0, zr 74), (1, zi v), (2, zi (q : Int)), (3, zi ((i : Int) + 1))], [], m) κ)
    (k4 : (i : Int) < (q : Int) → ¬ wr (m 98 i) < v → ¬ (v + (m 79 0)) < wr (m 98 i) → κ (some (zi 1)) m) :
    T (D + 3) 268 (2, lo, [], m) κ := by
  have hb3 : 0 ≤ (m 79 0) ∧ (m 79 0) ≤ 9 := hB 79 0
  have hb4 : (-2147483648) ≤ wr (m 98 i) ∧ wr (m 98 i) ≤ 2147483647 := wrB (m 98 i)
  have he0 : wr (i : Int) = (i : Int) := wr_id (by omega) (by omega)
  have he1 : wr (q : Int) = (q : Int) := wr_id (by omega) (by omega)
  have he2 : (i : Int).toNat = i := by omega
  have he3 : wr v = v := wr_id (by omega) (by omega)
  have he4 : wr (v + (m 79 0)) = (v + (m 79 0)) := wr_id (by omega) (by omega)
  have key := @zb268_2r T hT D κ m v q i lo hlo
  simp only [he0, he1, he2, he3, he4, Int.toNat_natCast] at key
  exact key
    k1
    (fun x0 => by refine ⟨?_, ?_⟩ <;> omega)
    k2
    k3
    k4
theorem zb269_0r (hT : zRules T) {D : Nat} {κ : Option zA → zM → Prop} {m : zM} {q : Nat} 
    (o1 : T (D + 4) 269 (7, [(0, zr 74), (1, zi (q : Int)), (2, zi 0), (3, zi (-1)), (4, zi 0)], [], m) κ) :
    T (D + 4) 269 (0, [(0, zr 74), (1, zi (q : Int))], [], m) κ :=
  hT.1 [(7, [0, 1, 2, 3, 4]), (20, [0, 1, 2, 3, 4, 5, 6])] 6 (D + 4) 269 _ κ (o1)
theorem zb269_0 (hT : zRules T) {D : Nat} {κ : Option zA → zM → Prop} {m : zM} {q : Nat}  (hB : zB m) (h_q : q ≤ 26) 
    (k1 : T (D + 4) 269 (7, [(0, zr 74), (1, zi (q : Int)), (2, zi 0), (3, zi (-1)), (4, zi 0)], [], m) κ) :
    T (D + 4) 269 (0, [(0, zr 74), (1, zi (q : Int))], [], m) κ := by
  exact zb269_0r hT
    k1
theorem zb269_7r (hT : zRules T) {D : Nat} {κ : Option zA → zM → Prop} {m : zM} {q : Nat} {c : Nat} {b : Int} {v : Nat} {lo : zL} (hlo : z_keep [0, 1, 2, 3, 4] lo = [(0, zr 74), (1, zi (q : Int)), (2, zi (c : Int)), (3, zi b), (4, zi (v : Int))]) 
    (o1 : 99 < wr (v : Int) → κ (some (zi (wr (c : Int)))) m)
    (o2 : ¬ 99 < wr (v : Int) → T (D + 4) 269 (20, [(0, zr 74), (1, zi (q : Int)), (2, zi (c : Int)), (3, zi b), (4, zi (v : Int)), (5, zi 0), (6, zi 0)], [], m) κ) :
    T (D + 4) 269 (7, lo, [], m) κ :=
  zkeep hT hlo (hT.1 [(7, [0, 1, 2, 3, 4]), (20, [0, 1, 2, 3, 4, 5, 6])] 6 (D + 4) 269 _ κ (And.intro (fun a1 => (o1 a1)) (fun a2 => (hT.1 [(7, [0, 1, 2, 3, 4]), (20, [0, 1, 2, 3, 4, 5, 6])] 6 (D + 4) 269 (18, [(0, zr 74), (1, zi (q : Int)), (2, zi (c : Int)), (3, zi b), (4, zi (v : Int)), (5, zi 0)], [zi 0], m) _ (o2 a2)))))
theorem zb269_7 (hT : zRules T) {D : Nat} {κ : Option zA → zM → Prop} {m : zM} {q : Nat} {c : Nat} {b : Int} {v : Nat} {lo : zL} (hlo : z_keep [0, 1, 2, 3, 4] lo = [(0, zr 74), (1, zi (q : Int)), (2, zi (c : Int)), (3, zi b), (4, zi (v : Int))])  (hB : zB m) (h_q : q ≤ 26) (h_c : c ≤ 100) (h_b : (-1) ≤ b ∧ b ≤ 108) (h_v : v ≤ 100) 
    (k1 : 99 < (v : Int) → κ (some (zi (c : Int))) m)
    (k2 : ¬ 99 < (v : Int) → T (D + 4) 269 (20, [(0, zr 74), (1, zi (q : Int)), (2, zi (c : Int)), (3, zi b), (4, zi (v : Int)), (5, zi 0), (6, zi 0)], [], m) κ) :
    T (D + 4) 269 (7, lo, [], m) κ := by
  have he0 : wr (v : Int) = (v : Int) := wr_id (by omega) (by omega)
  have he1 : wr (c : Int) = (c : Int) := wr_id (by omega) (by omega)
  have key := @zb269_7r T hT D κ m q c b v lo hlo
  simp only [he0, he1, Int.toNat_natCast] at key
  exact key
    k1
    k2
theorem zb269_20r (hT : zRules T) {D : Nat} {κ : Option zA → zM → Prop} {m : zM} {q : Nat} {c : Nat} {b : Int} {v : Nat} {f : Int} {i : Nat} {lo : zL} (hlo : z_keep [0, 1, 2, 3, 4, 5, 6] lo = [(0, zr 74), (1, zi (q : Int)), (2, zi (c : Int)), (3, zi b), (4, zi (v : Int)), (5, zi f), (6, zi (i : Int))]) 
    (o1 : ¬ wr (i : Int) < wr (m 74 49) → wr f = 0 → T (D + 4) 269 (7, [(0, zr 74), (1, zi (q : Int)), (2, zi (c : Int)), (3, zi b), (4, zi ((v : Int) + 1))], [], m) κ)
    (o2 : ¬ wr (i : Int) < wr (m 74 49) → ¬ wr f = 0 → T (D + 3) 268 (0, [(0, zr 74), (1, zi (v : Int)), (2, zi (q : Int))], [], m) (fun r m1 => T (D + 4) 269 (69, [(0, zr 74), (1, zi (q : Int)), (2, zi (c : Int)), (3, zi b), (4, zi (v : Int)), (5, zi f), (6, zi (i : Int))], r.toList ++ [], m1) κ))
    (o3 : wr (i : Int) < wr (m 74 49) → (0 ≤ wr (i : Int) ∧ wr (i : Int) < 26))
    (o4 : wr (i : Int) < wr (m 74 49) → ¬ wr (m 97 ((wr (i : Int)).toNat)) = wr (v : Int) → T (D + 4) 269 (20, [(0, zr 74), (1, zi (q : Int)), (2, zi (c : Int)), (3, zi b), (4, zi (v : Int)), (5, zi (z_or f 0)), (6, zi ((i : Int) + 1))], [], m) κ)
    (o5 : wr (i : Int) < wr (m 74 49) → wr (m 97 ((wr (i : Int)).toNat)) = wr (v : Int) → T (D + 4) 269 (20, [(0, zr 74), (1, zi (q : Int)), (2, zi (c : Int)), (3, zi b), (4, zi (v : Int)), (5, zi (z_or f 1)), (6, zi ((i : Int) + 1))], [], m) κ) :
    T (D + 4) 269 (20, lo, [], m) κ :=
  zkeep hT hlo (hT.1 [(7, [0, 1, 2, 3, 4]), (20, [0, 1, 2, 3, 4, 5, 6])] 6 (D + 4) 269 _ κ (And.intro (fun a1 => (And.intro (fun a3 => (hT.1 [(7, [0, 1, 2, 3, 4]), (20, [0, 1, 2, 3, 4, 5, 6])] 6 (D + 4) 269 (103, [(0, zr 74), (1, zi (q : Int)), (2, zi (c : Int)), (3, zi b), (4, zi (v : Int)), (5, zi f), (6, zi (i : Int))], [], m) _ (o1 a1 a3))) (fun a4 => (hT.1 [(7, [0, 1, 2, 3, 4]), (20, [0, 1, 2, 3, 4, 5, 6])] 6 (D + 4) 269 (62, [(0, zr 74), (1, zi (q : Int)), (2, zi (c : Int)), (3, zi b), (4, zi (v : Int)), (5, zi f), (6, zi (i : Int))], [], m) _ (o2 a1 a4))))) (fun a2 => (hT.1 [(7, [0, 1, 2, 3, 4]), (20, [0, 1, 2, 3, 4, 5, 6])] 6 (D + 4) 269 (32, [(0, zr 74), (1, zi (q : Int)), (2, zi (c : Int)), (3, zi b), (4, zi (v : Int)), (5, zi f), (6, zi (i : Int))], [zr 74, zi f], m) _ (And.intro (o3 (Classical.byContradiction a2)) (And.intro (fun a5 => (hT.1 [(7, [0, 1, 2, 3, 4]), (20, [0, 1, 2, 3, 4, 5, 6])] 6 (D + 4) 269 (48, [(0, zr 74), (1, zi (q : Int)), (2, zi (c : Int)), (3, zi b), (4, zi (v : Int)), (5, zi f), (6, zi (i : Int))], [zi 0, zi f], m) _ (o4 (Classical.byContradiction a2) a5))) (fun a6 => (hT.1 [(7, [0, 1, 2, 3, 4]), (20, [0, 1, 2, 3, 4, 5, 6])] 6 (D + 4) 269 (44, [(0, zr 74), (1, zi (q : Int)), (2, zi (c : Int)), (3, zi b), (4, zi (v : Int)), (5, zi f), (6, zi (i : Int))], [zi 1, zi f], m) _ (o5 (Classical.byContradiction a2) (Classical.byContradiction a6))))))))))
theorem zb269_20 (hT : zRules T) {D : Nat} {κ : Option zA → zM → Prop} {m : zM} {q : Nat} {c : Nat} {b : Int} {v : Nat} {f : Int} {i : Nat} {lo : zL} (hlo : z_keep [0, 1, 2, 3, 4, 5, 6] lo = [(0, zr 74), (1, zi (q : Int)), (2, zi (c : Int)), (3, zi b), (4, zi (v : Int)), (5, zi f), (6, zi (i : Int))])  (hB : zB m) (h_q : q ≤ 26) (h_c : c ≤ 100) (h_b : (-1) ≤ b ∧ b ≤ 108) (h_v : v ≤ 99) (h_f : 0 ≤ f ∧ f ≤ 1) (h_i : i ≤ 60) 
    (k1 : ¬ (i : Int) < (m 74 49) → f = 0 → T (D + 4) 269 (7, [(0, zr 74), (1, zi (q : Int)), (2, zi (c : Int)), (3, zi b), (4, zi ((v : Int) + 1))], [], m) κ)
    (k2 : ¬ (i : Int) < (m 74 49) → ¬ f = 0 → T (D + 3) 268 (0, [(0, zr 74), (1, zi (v : Int)), (2, zi (q : Int))], [], m) (fun r m1 => T (D + 4) 269 (69, [(0, zr 74), (1, zi (q : Int)), (2, zi (c : Int)), (3, zi b), (4, zi (v : Int)), (5, zi f), (6, zi (i : Int))], r.toList ++ [], m1) κ))
    (k3 : (i : Int) < (m 74 49) → ¬ (m 97 i) = (v : Int) → T (D + 4) 269 (20, [(0, zr 74), (1, zi (q : Int)), (2, zi (c : Int)), (3, zi b), (4, zi (v : Int)), (5, zi (z_or f 0)), (6, zi ((i : Int) + 1))], [], m) κ)
    (k4 : (i : Int) < (m 74 49) → (m 97 i) = (v : Int) → T (D + 4) 269 (20, [(0, zr 74), (1, zi (q : Int)), (2, zi (c : Int)), (3, zi b), (4, zi (v : Int)), (5, zi (z_or f 1)), (6, zi ((i : Int) + 1))], [], m) κ) :
    T (D + 4) 269 (20, lo, [], m) κ := by
  have hb6 : 0 ≤ (m 74 49) ∧ (m 74 49) ≤ 26 := hB 74 49
  have hb7 : 0 ≤ (m 97 i) ∧ (m 97 i) ≤ 99 := hB 97 i
  have hb8 : (-2147483648) ≤ (z_or f 1) ∧ (z_or f 1) ≤ 2147483647 := z_orB f 1
  have hb9 : (-2147483648) ≤ (z_or f 0) ∧ (z_or f 0) ≤ 2147483647 := z_orB f 0
  have he0 : wr (i : Int) = (i : Int) := wr_id (by omega) (by omega)
  have he1 : wr (m 74 49) = (m 74 49) := wr_id (by omega) (by omega)
  have he2 : (i : Int).toNat = i := by omega
  have he3 : wr (m 97 i) = (m 97 i) := wr_id (by omega) (by omega)
  have he4 : wr (v : Int) = (v : Int) := wr_id (by omega) (by omega)
  have he5 : wr f = f := wr_id (by omega) (by omega)
  have key := @zb269_20r T hT D κ m q c b v f i lo hlo
  simp only [he0, he1, he2, he3, he4, he5, Int.toNat_natCast] at key
  exact key
    k1
    k2
    (fun x0 => by refine ⟨?_, ?_⟩ <;> omega)
    k3
    k4
theorem zb269_69r (hT : zRules T) {D : Nat} {κ : Option zA → zM → Prop} {m : zM} {q : Nat} {c : Nat} {b : Int} {v : Nat} {f : Int} {lo : zL} (hlo : z_keep [0, 1, 2, 3, 4] lo = [(0, zr 74), (1, zi (q : Int)), (2, zi (c : Int)), (3, zi b), (4, zi (v : Int))]) 
    (o1 : ¬ wr f = 0 → T (D + 4) 269 (7, [(0, zr 74), (1, zi (q : Int)), (2, zi (c : Int)), (3, zi b), (4, zi ((v : Int) + 1))], [], m) κ)
    (o2 : wr f = 0 → wr b = (-1) → T (D + 4) 269 (7, [(0, zr 74), (1, zi (q : Int)), (2, zi ((c : Int) + 1)), (3, zi ((v : Int) + (m 79 0))), (4, zi ((v : Int) + 1))], [], m) κ)
    (o3 : wr f = 0 → ¬ wr b = (-1) → wr b < wr (v : Int) → T (D + 4) 269 (7, [(0, zr 74), (1, zi (q : Int)), (2, zi ((c : Int) + 1)), (3, zi ((v : Int) + (m 79 0))), (4, zi ((v : Int) + 1))], [], m) κ)
    (o4 : wr f = 0 → ¬ wr b = (-1) → ¬ wr b < wr (v : Int) → wr ((v : Int) + (m 79 0)) < wr b → T (D + 4) 269 (7, [(0, zr 74), (1, zi (q : Int)), (2, zi ((c : Int) + 1)), (3, zi ((v : Int) + (m 79 0))), (4, zi ((v : Int) + 1))], [], m) κ)
    (o5 : wr f = 0 → ¬ wr b = (-1) → ¬ wr b < wr (v : Int) → ¬ wr ((v : Int) + (m 79 0)) < wr b → T (D + 4) 269 (7, [(0, zr 74), (1, zi (q : Int)), (2, zi (c : Int)), (3, zi b), (4, zi ((v : Int) + 1))], [], m) κ) :
    T (D + 4) 269 (69, lo, [zi f], m) κ :=
  zkeep hT hlo (hT.1 [(7, [0, 1, 2, 3, 4]), (20, [0, 1, 2, 3, 4, 5, 6])] 6 (D + 4) 269 _ κ (And.intro (fun a1 => (o1 a1)) (fun a2 => (And.intro (fun a3 => (hT.1 [(7, [0, 1, 2, 3, 4]), (20, [0, 1, 2, 3, 4, 5, 6])] 6 (D + 4) 269 (93, [(0, zr 74), (1, zi (q : Int)), (2, zi (c : Int)), (3, zi b), (4, zi (v : Int))], [zr 74, zi (v : Int)], m) _ (And.intro (z_ixL rfl) (hT.1 [(7, [0, 1, 2, 3, 4]), (20, [0, 1, 2, 3, 4, 5, 6])] 6 (D + 4) 269 (103, [(0, zr 74), (1, zi (q : Int)), (2, zi ((c : Int) + 1)), (3, zi ((v : Int) + (m 79 0))), (4, zi (v : Int))], [], m) _ (o2 (Classical.byContradiction a2) a3))))) (fun a4 => (hT.1 [(7, [0, 1, 2, 3, 4]), (20, [0, 1, 2, 3, 4, 5, 6])] 6 (D + 4) 269 (79, [(0, zr 74), (1, zi (q : Int)), (2, zi (c : Int)), (3, zi b), (4, zi (v : Int))], [zi b, zr 74], m) _ (hT.1 [] 6 (D + 3) 252 _ _ (hT.1 [] 6 (D + 3) 252 (8, [(0, zr 74), (1, zi b), (2, zi (v : Int))], [zi 0, zr 79, zi (v : Int), zi (v : Int), zi b], m) _ (And.intro (z_ixL rfl) (hT.1 [] 6 (D + 2) 186 _ _ (And.intro (fun a5 => (And.intro (z_b01L rfl) (hT.1 [] 6 (D + 3) 252 _ _ (And.intro (z_b01L rfl) (hT.1 [(7, [0, 1, 2, 3, 4]), (20, [0, 1, 2, 3, 4, 5, 6])] 6 (D + 4) 269 _ _ (And.intro (fun _ => (And.intro (z_ixL rfl) (hT.1 [(7, [0, 1, 2, 3, 4]), (20, [0, 1, 2, 3, 4, 5, 6])] 6 (D + 4) 269 (98, [(0, zr 74), (1, zi (q : Int)), (2, zi (c : Int)), (3, zi b), (4, zi (v : Int))], [zi (m 79 0), zi (v : Int)], m) _ (o3 (Classical.byContradiction a2) a4 a5)))) (fun a7 => (a7 (z_litT rfl)).elim))))))) (fun a6 => (And.intro (fun a8 => (hT.1 [] 6 (D + 2) 186 (14, [(0, zi b), (1, zi (v : Int)), (2, zi ((v : Int) + (m 79 0)))], [], m) _ (And.intro (z_b01L rfl) (hT.1 [] 6 (D + 3) 252 _ _ (And.intro (z_b01L rfl) (hT.1 [(7, [0, 1, 2, 3, 4]), (20, [0, 1, 2, 3, 4, 5, 6])] 6 (D + 4) 269 _ _ (And.intro (fun _ => (And.intro (z_ixL rfl) (hT.1 [(7, [0, 1, 2, 3, 4]), (20, [0, 1, 2, 3, 4, 5, 6])] 6 (D + 4) 269 (98, [(0, zr 74), (1, zi (q : Int)), (2, zi (c : Int)), (3, zi b), (4, zi (v : Int))], [zi (m 79 0), zi (v : Int)], m) _ (o4 (Classical.byContradiction a2) a4 a6 a8)))) (fun a10 => (a10 (z_litT rfl)).elim)))))))) (fun a9 => (hT.1 [] 6 (D + 2) 186 (10, [(0, zi b), (1, zi (v : Int)), (2, zi ((v : Int) + (m 79 0)))], [], m) _ (And.intro (z_b01L rfl) (hT.1 [] 6 (D + 3) 252 _ _ (And.intro (z_b01L rfl) (hT.1 [(7, [0, 1, 2, 3, 4]), (20, [0, 1, 2, 3, 4, 5, 6])] 6 (D + 4) 269 _ _ (And.intro (fun a11 => (z_litF a11 rfl).elim) (fun _ => (o5 (Classical.byContradiction a2) a4 a6 a9))))))))))))))))))))))
theorem zb269_69 (hT : zRules T) {D : Nat} {κ : Option zA → zM → Prop} {m : zM} {q : Nat} {c : Nat} {b : Int} {v : Nat} {f : Int} {lo : zL} (hlo : z_keep [0, 1, 2, 3, 4] lo = [(0, zr 74), (1, zi (q : Int)), (2, zi (c : Int)), (3, zi b), (4, zi (v : Int))])  (hB : zB m) (h_q : q ≤ 26) (h_c : c ≤ 100) (h_b : (-1) ≤ b ∧ b ≤ 108) (h_v : v ≤ 99) (h_f : 0 ≤ f ∧ f ≤ 1) 
    (k1 : ¬ f = 0 → T (D + 4) 269 (7, [(0, zr 74), (1, zi (q : Int)), (2, zi (c : Int)), (3, zi b), (4, zi ((v : Int) + 1))], [], m) κ)
    (k2 : f = 0 → b = (-1) → T (D + 4) 269 (7, [(0, zr 74), (1, zi (q : Int)), (2, zi ((c : Int) + 1)), (3, zi ((v : Int) + (m 79 0))), (4, zi ((v : Int) + 1))], [], m) κ)
    (k3 : f = 0 → ¬ b = (-1) → b < (v : Int) → T (D + 4) 269 (7, [(0, zr 74), (1, zi (q : Int)), (2, zi ((c : Int) + 1)), (3, zi ((v : Int) + (m 79 0))), (4, zi ((v : Int) + 1))], [], m) κ)
    (k4 : f = 0 → ¬ b = (-1) → ¬ b < (v : Int) → ((v : Int) + (m 79 0)) < b → T (D + 4) 269 (7, [(0, zr 74), (1, zi (q : Int)), (2, zi ((c : Int) + 1)), (3, zi ((v : Int) + (m 79 0))), (4, zi ((v : Int) + 1))], [], m) κ)
    (k5 : f = 0 → ¬ b = (-1) → ¬ b < (v : Int) → ¬ ((v : Int) + (m 79 0)) < b → T (D + 4) 269 (7, [(0, zr 74), (1, zi (q : Int)), (2, zi (c : Int)), (3, zi b), (4, zi ((v : Int) + 1))], [], m) κ) :
    T (D + 4) 269 (69, lo, [zi f], m) κ := by
  have hb5 : 0 ≤ (m 79 0) ∧ (m 79 0) ≤ 9 := hB 79 0
  have he0 : wr f = f := wr_id (by omega) (by omega)
  have he1 : wr b = b := wr_id (by omega) (by omega)
  have he2 : wr (v : Int) = (v : Int) := wr_id (by omega) (by omega)
  have he3 : wr ((v : Int) + (m 79 0)) = ((v : Int) + (m 79 0)) := wr_id (by omega) (by omega)
  have key := @zb269_69r T hT D κ m q c b v f lo hlo
  simp only [he0, he1, he2, he3, Int.toNat_natCast] at key
  exact key
    k1
    k2
    k3
    k4
    k5
end ZBlocks
