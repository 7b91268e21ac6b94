section ZBlocks
variable {T : Nat → Nat → zG → (Option zA → zM → Prop) → Prop}
theorem zb147_0r (hT : zRules T) {D : Nat} {κ : Option zA → zM → Prop} {m : zM} {p : Int} 
    (o1 : T (D + 6) 181 (0, [(0, zr 1), (1, zi p)], [], m) (fun r m1 => T (D + 7) 147 (5, [(0, zr 1), (1, zi p)], r.toList ++ [], m1) κ)) :
    T (D + 7) 147 (0, [(0, zr 1), (1, zi p)], [], m) κ :=
  hT.1 [(33, [0, 3, 4, 5])] 6 (D + 7) 147 _ κ (o1)
theorem zb147_0 (hT : zRules T) {D : Nat} {κ : Option zA → zM → Prop} {m : zM} {p : Int}  (hB : zB m) (h_p : (-2147483648) ≤ p ∧ p ≤ 2147483647) 
    (k1 : T (D + 6) 181 (0, [(0, zr 1), (1, zi p)], [], m) (fun r m1 => T (D + 7) 147 (5, [(0, zr 1), (1, zi p)], r.toList ++ [], m1) κ)) :
    T (D + 7) 147 (0, [(0, zr 1), (1, zi p)], [], m) κ := by
  exact zb147_0r hT
    k1
theorem zb147_5r (hT : zRules T) {D : Nat} {κ : Option zA → zM → Prop} {m : zM} {v : Int} {lo : zL} (hlo : z_keep [0] lo = [(0, zr 1)]) 
    (o1 : wr v = 0 → T (D + 6) 91 (0, [(0, zr 52), (1, zi (wr (m 24 0)))], [], m) (fun r m1 => T (D + 7) 147 (26, [(0, zr 1), (2, zi v)], r.toList ++ [], m1) κ))
    (o2 : ¬ wr v = 0 → κ (some (zi (wr v))) m) :
    T (D + 7) 147 (5, lo, [zi v], m) κ :=
  zkeep hT hlo (hT.1 [(33, [0, 3, 4, 5])] 6 (D + 7) 147 _ κ (And.intro (fun a1 => (hT.1 [(33, [0, 3, 4, 5])] 6 (D + 7) 147 (17, [(0, zr 1), (2, zi v)], [zr 1, zr 52], m) _ (hT.1 [] 6 (D + 6) 27 _ _ (And.intro (z_ixL rfl) (hT.1 [(33, [0, 3, 4, 5])] 6 (D + 7) 147 _ _ (o1 a1)))))) (fun a2 => (o2 a2))))
theorem zb147_5 (hT : zRules T) {D : Nat} {κ : Option zA → zM → Prop} {m : zM} {v : Int} {lo : zL} (hlo : z_keep [0] lo = [(0, zr 1)])  (hB : zB m) (h_v : (-2147483648) ≤ v ∧ v ≤ 2147483647) 
    (k1 : v = 0 → T (D + 6) 91 (0, [(0, zr 52), (1, zi (m 24 0))], [], m) (fun r m1 => T (D + 7) 147 (26, [(0, zr 1), (2, zi v)], r.toList ++ [], m1) κ))
    (k2 : ¬ v = 0 → κ (some (zi v)) m) :
    T (D + 7) 147 (5, lo, [zi v], m) κ := by
  have hb1 : 0 ≤ (m 24 0) ∧ (m 24 0) ≤ 9 := hB 24 0
  have he0 : wr v = v := wr_id (by omega) (by omega)
  have he1 : wr (m 24 0) = (m 24 0) := wr_id (by omega) (by omega)
  have key := @zb147_5r T hT D κ m v lo hlo
  simp only [he0, he1, Int.toNat_natCast] at key
  exact key
    k1
    k2
theorem zb147_26r (hT : zRules T) {D : Nat} {κ : Option zA → zM → Prop} {m : zM} {c : Nat} {lo : zL} (hlo : z_keep [0] lo = [(0, zr 1)]) 
    (o1 : T (D + 7) 147 (33, [(0, zr 1), (3, zi (c : Int)), (4, zi 0), (5, zi 0)], [], m) κ) :
    T (D + 7) 147 (26, lo, [zi (c : Int)], m) κ :=
  zkeep hT hlo (hT.1 [(33, [0, 3, 4, 5])] 6 (D + 7) 147 _ κ (o1))
theorem zb147_26 (hT : zRules T) {D : Nat} {κ : Option zA → zM → Prop} {m : zM} {c : Nat} {lo : zL} (hlo : z_keep [0] lo = [(0, zr 1)])  (hB : zB m) (h_c : c ≤ 26) 
    (k1 : T (D + 7) 147 (33, [(0, zr 1), (3, zi (c : Int)), (4, zi 0), (5, zi 0)], [], m) κ) :
    T (D + 7) 147 (26, lo, [zi (c : Int)], m) κ := by
  exact zb147_26r hT hlo
    k1
theorem zb147_33r (hT : zRules T) {D : Nat} {κ : Option zA → zM → Prop} {m : zM} {c : Nat} {s : Int} {i : Nat} {lo : zL} (hlo : z_keep [0, 3, 4, 5] lo = [(0, zr 1), (3, zi (c : Int)), (4, zi s), (5, zi (i : Int))]) 
    (o1 : ¬ wr (i : Int) < wr (c : Int) → T (D + 6) 94 (0, [(0, zr 52), (1, zi (c : Int)), (2, zi (wr (m 24 0)))], [], m) (fun r m1 => T (D + 7) 147 (79, [(0, zr 1), (3, zi (c : Int)), (4, zi s), (5, zi (i : Int))], r.toList ++ [zr 72], m1) κ))
    (o2 : wr (i : Int) < wr (c : Int) → (0 ≤ wr (i : Int) ∧ wr (i : Int) < 26))
    (o3 : wr (i : Int) < wr (c : Int) → T (D + 7) 147 (33, [(0, zr 1), (3, zi (c : Int)), (4, zi (s + (m 58 ((wr (i : Int)).toNat)))), (5, zi ((i : Int) + 1))], [], m) κ) :
    T (D + 7) 147 (33, lo, [], m) κ :=
  zkeep hT hlo (hT.1 [(33, [0, 3, 4, 5])] 6 (D + 7) 147 _ κ (And.intro (fun a1 => (hT.1 [(33, [0, 3, 4, 5])] 6 (D + 7) 147 (65, [(0, zr 1), (3, zi (c : Int)), (4, zi s), (5, zi (i : Int))], [zr 1, zr 72], m) _ (hT.1 [] 6 (D + 6) 27 _ _ (And.intro (z_ixL rfl) (hT.1 [(33, [0, 3, 4, 5])] 6 (D + 7) 147 _ _ (o1 a1)))))) (fun a2 => (hT.1 [(33, [0, 3, 4, 5])] 6 (D + 7) 147 (45, [(0, zr 1), (3, zi (c : Int)), (4, zi s), (5, zi (i : Int))], [zr 52, zi s], m) _ (And.intro (o2 (Classical.byContradiction a2)) (hT.1 [(33, [0, 3, 4, 5])] 6 (D + 7) 147 (57, [(0, zr 1), (3, zi (c : Int)), (4, zi (s + (m 58 ((wr (i : Int)).toNat)))), (5, zi ((i : Int) + 1))], [], m) _ (o3 (Classical.byContradiction a2))))))))
theorem zb147_33 (hT : zRules T) {D : Nat} {κ : Option zA → zM → Prop} {m : zM} {c : Nat} {s : Int} {i : Nat} {lo : zL} (hlo : z_keep [0, 3, 4, 5] lo = [(0, zr 1), (3, zi (c : Int)), (4, zi s), (5, zi (i : Int))])  (hB : zB m) (h_c : c ≤ 26) (h_i : i ≤ 26) 
    (k1 : ¬ (i : Int) < (c : Int) → T (D + 6) 94 (0, [(0, zr 52), (1, zi (c : Int)), (2, zi (m 24 0))], [], m) (fun r m1 => T (D + 7) 147 (79, [(0, zr 1), (3, zi (c : Int)), (4, zi s), (5, zi (i : Int))], r.toList ++ [zr 72], m1) κ))
    (k2 : (i : Int) < (c : Int) → T (D + 7) 147 (33, [(0, zr 1), (3, zi (c : Int)), (4, zi (s + (m 58 i))), (5, zi ((i : Int) + 1))], [], m) κ) :
    T (D + 7) 147 (33, lo, [], m) κ := by
  have hb2 : 0 ≤ (m 24 0) ∧ (m 24 0) ≤ 9 := hB 24 0
  have he0 : wr (i : Int) = (i : Int) := wr_id (by omega) (by omega)
  have he1 : wr (c : Int) = (c : Int) := wr_id (by omega) (by omega)
  have he2 : (i : Int).toNat = i := by omega
  have he3 : wr (m 24 0) = (m 24 0) := wr_id (by omega) (by omega)
  have key := @zb147_33r T hT D κ m c s i lo hlo
  simp only [he0, he1, he2, he3, Int.toNat_natCast] at key
  exact key
    k1
    (fun x0 => by refine ⟨?_, ?_⟩ <;> omega)
    k2
theorem zb147_79r (hT : zRules T) {D : Nat} {κ : Option zA → zM → Prop} {m : zM} {s : Int} {v : Int} {lo : zL} (hlo : z_keep [4] lo = [(4, zi s)]) 
    (o1 : κ (some (zi (wr s))) (zu (zu m 72 1 1) 73 0 v)) :
    T (D + 7) 147 (79, lo, [zi v, zr 72], m) κ :=
  zkeep hT hlo (hT.1 [(33, [0, 3, 4, 5])] 6 (D + 7) 147 _ κ (hT.1 [] 6 (D + 6) 45 _ _ (And.intro trivial (hT.1 [] 6 (D + 6) 45 (10, [(0, zr 72), (1, zi v)], [zi 0, zr 73], (zu m 72 1 1)) _ (And.intro (And.intro (z_ixL rfl) trivial) (hT.1 [(33, [0, 3, 4, 5])] 6 (D + 7) 147 _ _ (o1)))))))
theorem zb147_79 (hT : zRules T) {D : Nat} {κ : Option zA → zM → Prop} {m : zM} {s : Int} {v : Int} {lo : zL} (hlo : z_keep [4] lo = [(4, zi s)])  (hB : zB m) (h_v : (-2147483648) ≤ v ∧ v ≤ 2147483647) 
    (k1 : zB (zu (zu m 72 1 1) 73 0 v) → κ (some (zi (wr s))) (zu (zu m 72 1 1) 73 0 v)) :
    T (D + 7) 147 (79, lo, [zi v, zr 72], m) κ := by
  have hb1 : (-2147483648) ≤ wr s ∧ wr s ≤ 2147483647 := wrB s
  exact zb147_79r hT hlo
    (k1  (zB_u (zB_u hB (show 0 ≤ 1 ∧ 1 ≤ 26 from ⟨by omega, by omega⟩)) trivial))
theorem zb94_0r (hT : zRules T) {D : Nat} {κ : Option zA → zM → Prop} {m : zM} {c : Nat} {h : Int} 
    (o1 : T (D + 2) 94 (8, [(0, zr 52), (1, zi (c : Int)), (2, zi h), (3, zi 0), (4, zi (-1)), (5, zi 0)], [], m) κ) :
    T (D + 2) 94 (0, [(0, zr 52), (1, zi (c : Int)), (2, zi h)], [], m) κ :=
  hT.1 [(8, [0, 1, 2, 3, 4, 5])] 6 (D + 2) 94 _ κ (o1)
theorem zb94_0 (hT : zRules T) {D : Nat} {κ : Option zA → zM → Prop} {m : zM} {c : Nat} {h : Int}  (hB : zB m) (h_c : c ≤ 26) (h_h : 0 ≤ h ∧ h ≤ 9) 
    (k1 : T (D + 2) 94 (8, [(0, zr 52), (1, zi (c : Int)), (2, zi h), (3, zi 0), (4, zi (-1)), (5, zi 0)], [], m) κ) :
    T (D + 2) 94 (0, [(0, zr 52), (1, zi (c : Int)), (2, zi h)], [], m) κ := by
  exact zb94_0r hT
    k1
theorem zb94_8r (hT : zRules T) {D : Nat} {κ : Option zA → zM → Prop} {m : zM} {c : Nat} {h : Int} {n : Nat} {a : Int} {i : Nat} {lo : zL} (hlo : z_keep [0, 1, 2, 3, 4, 5] lo = [(0, zr 52), (1, zi (c : Int)), (2, zi h), (3, zi (n : Int)), (4, zi a), (5, zi (i : Int))]) 
    (o1 : ¬ wr (i : Int) < wr (m 52 1) → κ (some (zi (wr (n : Int)))) m)
    (o2 : wr (i : Int) < wr (m 52 1) → wr (i : Int) = 0 → (0 ≤ wr (i : Int) ∧ wr (i : Int) < 60))
    (o3 : wr (i : Int) < wr (m 52 1) → wr (i : Int) = 0 → T (D + 1) 95 (0, [(0, zr 52), (1, zi (m 53 ((wr (i : Int)).toNat))), (2, zi (c : Int))], [], m) (fun r m1 => T (D + 2) 94 (50, [(0, zr 52), (1, zi (c : Int)), (2, zi h), (3, zi (n : Int)), (4, zi a), (5, zi (i : Int))], r.toList ++ [], m1) κ))
    (o4 : wr (i : Int) < wr (m 52 1) → ¬ wr (i : Int) = 0 → (0 ≤ wr (i : Int) ∧ wr (i : Int) < 60))
    (o5 : wr (i : Int) < wr (m 52 1) → ¬ wr (i : Int) = 0 → wr a < wr (m 53 ((wr (i : Int)).toNat)) → (0 ≤ wr (i : Int) ∧ wr (i : Int) < 60))
    (o6 : wr (i : Int) < wr (m 52 1) → ¬ wr (i : Int) = 0 → wr a < wr (m 53 ((wr (i : Int)).toNat)) → T (D + 1) 95 (0, [(0, zr 52), (1, zi (m 53 ((wr (i : Int)).toNat))), (2, zi (c : Int))], [], m) (fun r m1 => T (D + 2) 94 (50, [(0, zr 52), (1, zi (c : Int)), (2, zi h), (3, zi (n : Int)), (4, zi a), (5, zi (i : Int))], r.toList ++ [], m1) κ))
    (o7 : wr (i : Int) < wr (m 52 1) → ¬ wr (i : Int) = 0 → ¬ wr a < wr (m 53 ((wr (i : Int)).toNat)) → wr ((m 53 ((wr (i : Int)).toNat)) + h) < wr a → (0 ≤ wr (i : Int) ∧ wr (i : Int) < 60))
    (o8 : wr (i : Int) < wr (m 52 1) → ¬ wr (i : Int) = 0 → ¬ wr a < wr (m 53 ((wr (i : Int)).toNat)) → wr ((m 53 ((wr (i : Int)).toNat)) + h) < wr a → T (D + 1) 95 (0, [(0, zr 52), (1, zi (m 53 ((wr (i : Int)).toNat))), (2, zi (c : Int))], [], m) (fun r m1 => T (D + 2) 94 (50, [(0, zr 52), (1, zi (c : Int)), (2, zi h), (3, zi (n : Int)), (4, zi a), (5, zi (i : Int))], r.toList ++ [], m1) κ))
    (o9 : wr (i : Int) < wr (m 52 1) → ¬ wr (i : Int) = 0 → ¬ wr a < wr (m 53 ((wr (i : Int)).toNat)) → ¬ wr ((m 53 ((wr (i : Int)).toNat)) + h) < wr a → T (D + 2) 94 (8, [(0, zr 52), (1, zi (c : Int)), (2, zi h), (3, zi (n : Int)), (4, zi a), (5, zi ((i : Int) + 1))], [], m) κ) :
    T (D + 2) 94 (8, lo, [], m) κ :=
  zkeep hT hlo (hT.1 [(8, [0, 1, 2, 3, 4, 5])] 6 (D + 2) 94 _ κ (And.intro (fun a1 => (o1 a1)) (fun a2 => (And.intro (fun a3 => (hT.1 [(8, [0, 1, 2, 3, 4, 5])] 6 (D + 2) 94 (38, [(0, zr 52), (1, zi (c : Int)), (2, zi h), (3, zi (n : Int)), (4, zi a), (5, zi (i : Int))], [], m) _ (And.intro (o2 (Classical.byContradiction a2) a3) (hT.1 [(8, [0, 1, 2, 3, 4, 5])] 6 (D + 2) 94 (47, [(0, zr 52), (1, zi (c : Int)), (2, zi h), (3, zi (n : Int)), (4, zi a), (5, zi (i : Int))], [zi (c : Int), zi (m 53 ((wr (i : Int)).toNat)), zr 52], m) _ (o3 (Classical.byContradiction a2) a3))))) (fun a4 => (hT.1 [(8, [0, 1, 2, 3, 4, 5])] 6 (D + 2) 94 (22, [(0, zr 52), (1, zi (c : Int)), (2, zi h), (3, zi (n : Int)), (4, zi a), (5, zi (i : Int))], [], m) _ (And.intro (o4 (Classical.byContradiction a2) a4) (hT.1 [(8, [0, 1, 2, 3, 4, 5])] 6 (D + 2) 94 (32, [(0, zr 52), (1, zi (c : Int)), (2, zi h), (3, zi (n : Int)), (4, zi a), (5, zi (i : Int))], [zi h, zi (m 53 ((wr (i : Int)).toNat)), zi a], m) _ (hT.1 [] 6 (D + 1) 81 _ _ (And.intro (fun a5 => (And.intro (z_b01L rfl) (hT.1 [(8, [0, 1, 2, 3, 4, 5])] 6 (D + 2) 94 _ _ (And.intro (fun a7 => (z_litF a7 rfl).elim) (fun _ => (And.intro (o5 (Classical.byContradiction a2) a4 a5) (hT.1 [(8, [0, 1, 2, 3, 4, 5])] 6 (D + 2) 94 (46, [(0, zr 52), (1, zi (c : Int)), (2, zi h), (3, zi (n : Int)), (4, zi a), (5, zi (i : Int))], [zi (m 53 ((wr (i : Int)).toNat)), zr 52], m) _ (o6 (Classical.byContradiction a2) a4 a5)))))))) (fun a6 => (hT.1 [] 6 (D + 1) 81 (8, [(0, zi a), (1, zi (m 53 ((wr (i : Int)).toNat))), (2, zi h)], [zi h, zi (m 53 ((wr (i : Int)).toNat)), zi a], m) _ (And.intro (fun a8 => (And.intro (z_b01L rfl) (hT.1 [(8, [0, 1, 2, 3, 4, 5])] 6 (D + 2) 94 _ _ (And.intro (fun a10 => (z_litF a10 rfl).elim) (fun _ => (And.intro (o7 (Classical.byContradiction a2) a4 a6 a8) (hT.1 [(8, [0, 1, 2, 3, 4, 5])] 6 (D + 2) 94 (46, [(0, zr 52), (1, zi (c : Int)), (2, zi h), (3, zi (n : Int)), (4, zi a), (5, zi (i : Int))], [zi (m 53 ((wr (i : Int)).toNat)), zr 52], m) _ (o8 (Classical.byContradiction a2) a4 a6 a8)))))))) (fun a9 => (And.intro (z_b01L rfl) (hT.1 [(8, [0, 1, 2, 3, 4, 5])] 6 (D + 2) 94 _ _ (And.intro (fun _ => (o9 (Classical.byContradiction a2) a4 a6 a9)) (fun a11 => (a11 (z_litT rfl)).elim))))))))))))))))))
theorem zb94_8 (hT : zRules T) {D : Nat} {κ : Option zA → zM → Prop} {m : zM} {c : Nat} {h : Int} {n : Nat} {a : Int} {i : Nat} {lo : zL} (hlo : z_keep [0, 1, 2, 3, 4, 5] lo = [(0, zr 52), (1, zi (c : Int)), (2, zi h), (3, zi (n : Int)), (4, zi a), (5, zi (i : Int))])  (hB : zB m) (h_c : c ≤ 26) (h_h : 0 ≤ h ∧ h ≤ 9) (h_n : n ≤ 60) (h_a : (-2147483648) ≤ a ∧ a ≤ 2147483647) (h_i : i ≤ 60) 
    (k1 : ¬ (i : Int) < (m 52 1) → κ (some (zi (n : Int))) m)
    (k2 : (i : Int) < (m 52 1) → (i : Int) = 0 → T (D + 1) 95 (0, [(0, zr 52), (1, zi (m 53 i)), (2, zi (c : Int))], [], m) (fun r m1 => T (D + 2) 94 (50, [(0, zr 52), (1, zi (c : Int)), (2, zi h), (3, zi (n : Int)), (4, zi a), (5, zi (i : Int))], r.toList ++ [], m1) κ))
    (k3 : (i : Int) < (m 52 1) → ¬ (i : Int) = 0 → a < (m 53 i) → T (D + 1) 95 (0, [(0, zr 52), (1, zi (m 53 i)), (2, zi (c : Int))], [], m) (fun r m1 => T (D + 2) 94 (50, [(0, zr 52), (1, zi (c : Int)), (2, zi h), (3, zi (n : Int)), (4, zi a), (5, zi (i : Int))], r.toList ++ [], m1) κ))
    (k4 : (i : Int) < (m 52 1) → ¬ (i : Int) = 0 → ¬ a < (m 53 i) → ((m 53 i) + h) < a → T (D + 1) 95 (0, [(0, zr 52), (1, zi (m 53 i)), (2, zi (c : Int))], [], m) (fun r m1 => T (D + 2) 94 (50, [(0, zr 52), (1, zi (c : Int)), (2, zi h), (3, zi (n : Int)), (4, zi a), (5, zi (i : Int))], r.toList ++ [], m1) κ))
    (k5 : (i : Int) < (m 52 1) → ¬ (i : Int) = 0 → ¬ a < (m 53 i) → ¬ ((m 53 i) + h) < a → T (D + 2) 94 (8, [(0, zr 52), (1, zi (c : Int)), (2, zi h), (3, zi (n : Int)), (4, zi a), (5, zi ((i : Int) + 1))], [], m) κ) :
    T (D + 2) 94 (8, lo, [], m) κ := by
  have hb5 : 0 ≤ (m 52 1) ∧ (m 52 1) ≤ 60 := hB 52 1
  have hb6 : 0 ≤ (m 53 i) ∧ (m 53 i) ≤ 99 := hB 53 i
  have he0 : wr (i : Int) = (i : Int) := wr_id (by omega) (by omega)
  have he1 : wr (m 52 1) = (m 52 1) := wr_id (by omega) (by omega)
  have he2 : (i : Int).toNat = i := by omega
  have he3 : wr a = a := wr_id (by omega) (by omega)
  have he4 : wr (m 53 i) = (m 53 i) := wr_id (by omega) (by omega)
  have he5 : wr ((m 53 i) + h) = ((m 53 i) + h) := wr_id (by omega) (by omega)
  have he6 : wr (n : Int) = (n : Int) := wr_id (by omega) (by omega)
  have key := @zb94_8r T hT D κ m c h n a i lo hlo
  simp only [he0, he1, he2, he3, he4, he5, he6, Int.toNat_natCast] at key
  exact key
    k1
    (fun x0 x1 => by refine ⟨?_, ?_⟩ <;> omega)
    k2
    (fun x0 x1 => by refine ⟨?_, ?_⟩ <;> omega)
    (fun x0 x1 x2 => by refine ⟨?_, ?_⟩ <;> omega)
    k3
    (fun x0 x1 x2 x3 => by refine ⟨?_, ?_⟩ <;> omega)
    k4
    k5
theorem zb94_50r (hT : zRules T) {D : Nat} {κ : Option zA → zM → Prop} {m : zM} {c : Nat} {h : Int} {n : Nat} {i : Nat} {v : Int} {lo : zL} (hlo : z_keep [0, 1, 2, 3, 5] lo = [(0, zr 52), (1, zi (c : Int)), (2, zi h), (3, zi (n : Int)), (5, zi (i : Int))]) 
    (o1 : ¬ wr (i : Int) = 0 → T (D + 2) 94 (8, [(0, zr 52), (1, zi (c : Int)), (2, zi h), (3, zi ((n : Int) + 1)), (4, zi v), (5, zi ((i : Int) + 1))], [], m) κ)
    (o2 : wr (i : Int) = 0 → T (D + 2) 94 (8, [(0, zr 52), (1, zi (c : Int)), (2, zi h), (3, zi ((n : Int) + 0)), (4, zi v), (5, zi ((i : Int) + 1))], [], m) κ) :
    T (D + 2) 94 (50, lo, [zi v], m) κ :=
  zkeep hT hlo (hT.1 [(8, [0, 1, 2, 3, 4, 5])] 6 (D + 2) 94 _ κ (And.intro (fun a1 => (hT.1 [(8, [0, 1, 2, 3, 4, 5])] 6 (D + 2) 94 (64, [(0, zr 52), (1, zi (c : Int)), (2, zi h), (3, zi (n : Int)), (4, zi v), (5, zi (i : Int))], [zi ((n : Int) + 1)], m) _ (o1 a1))) (fun a2 => (hT.1 [(8, [0, 1, 2, 3, 4, 5])] 6 (D + 2) 94 (63, [(0, zr 52), (1, zi (c : Int)), (2, zi h), (3, zi (n : Int)), (4, zi v), (5, zi (i : Int))], [zi 0, zi (n : Int)], m) _ (o2 (Classical.byContradiction a2))))))
theorem zb94_50 (hT : zRules T) {D : Nat} {κ : Option zA → zM → Prop} {m : zM} {c : Nat} {h : Int} {n : Nat} {i : Nat} {v : Int} {lo : zL} (hlo : z_keep [0, 1, 2, 3, 5] lo = [(0, zr 52), (1, zi (c : Int)), (2, zi h), (3, zi (n : Int)), (5, zi (i : Int))])  (hB : zB m) (h_c : c ≤ 26) (h_h : 0 ≤ h ∧ h ≤ 9) (h_n : n ≤ 60) (h_i : i ≤ 60) (h_v : (-2147483648) ≤ v ∧ v ≤ 2147483647) 
    (k1 : ¬ (i : Int) = 0 → T (D + 2) 94 (8, [(0, zr 52), (1, zi (c : Int)), (2, zi h), (3, zi ((n : Int) + 1)), (4, zi v), (5, zi ((i : Int) + 1))], [], m) κ)
    (k2 : (i : Int) = 0 → T (D + 2) 94 (8, [(0, zr 52), (1, zi (c : Int)), (2, zi h), (3, zi ((n : Int) + 0)), (4, zi v), (5, zi ((i : Int) + 1))], [], m) κ) :
    T (D + 2) 94 (50, lo, [zi v], m) κ := by
  have he0 : wr (i : Int) = (i : Int) := wr_id (by omega) (by omega)
  have key := @zb94_50r T hT D κ m c h n i v lo hlo
  simp only [he0, Int.toNat_natCast] at key
  exact key
    k1
    k2
theorem zb95_0r (hT : zRules T) {D : Nat} {κ : Option zA → zM → Prop} {m : zM} {v : Int} {c : Nat} 
    (o1 : T (D + 1) 95 (2, [(0, zr 52), (1, zi v), (2, zi (c : Int)), (3, zi 0)], [], m) κ) :
    T (D + 1) 95 (0, [(0, zr 52), (1, zi v), (2, zi (c : Int))], [], m) κ :=
  hT.1 [(2, [0, 1, 2, 3])] 6 (D + 1) 95 _ κ (o1)
theorem zb95_0 (hT : zRules T) {D : Nat} {κ : Option zA → zM → Prop} {m : zM} {v : Int} {c : Nat}  (hB : zB m) (h_v : 0 ≤ v ∧ v ≤ 99) (h_c : c ≤ 26) 
    (k1 : T (D + 1) 95 (2, [(0, zr 52), (1, zi v), (2, zi (c : Int)), (3, zi 0)], [], m) κ) :
    T (D + 1) 95 (0, [(0, zr 52), (1, zi v), (2, zi (c : Int))], [], m) κ := by
  exact zb95_0r hT
    k1
theorem zb95_2r (hT : zRules T) {D : Nat} {κ : Option zA → zM → Prop} {m : zM} {v : Int} {c : Nat} {i : Nat} {lo : zL} (hlo : z_keep [0, 1, 2, 3] lo = [(0, zr 52), (1, zi v), (2, zi (c : Int)), (3, zi (i : Int))]) 
    (o1 : ¬ wr (i : Int) < wr (c : Int) → κ (some (zi (-1))) m)
    (o2 : wr (i : Int) < wr (c : Int) → ¬ wr (i : Int) < 26 → False)
    (o3 : wr (i : Int) < wr (c : Int) → wr (i : Int) < 26 → (0 ≤ wr (i : Int) ∧ wr (i : Int) < 26))
    (o4 : wr (i : Int) < wr (c : Int) → wr (i : Int) < 26 → wr (m 58 ((wr (i : Int)).toNat)) < wr v → T (D + 1) 95 (2, [(0, zr 52), (1, zi v), (2, zi (c : Int)), (3, zi ((i : Int) + 1))], [], m) κ)
    (o5 : wr (i : Int) < wr (c : Int) → wr (i : Int) < 26 → ¬ wr (m 58 ((wr (i : Int)).toNat)) < wr v → (0 ≤ wr (i : Int) ∧ wr (i : Int) < 26))
    (o6 : wr (i : Int) < wr (c : Int) → wr (i : Int) < 26 → ¬ wr (m 58 ((wr (i : Int)).toNat)) < wr v → κ (some (zi (wr (m 58 ((wr (i : Int)).toNat))))) m) :
    T (D + 1) 95 (2, lo, [], m) κ :=
  zkeep hT hlo (hT.1 [(2, [0, 1, 2, 3])] 6 (D + 1) 95 _ κ (And.intro (fun a1 => (o1 a1)) (fun a2 => (hT.1 [(2, [0, 1, 2, 3])] 6 (D + 1) 95 (12, [(0, zr 52), (1, zi v), (2, zi (c : Int)), (3, zi (i : Int))], [zr 58, zi (i : Int)], m) _ (And.intro (fun a3 => (o2 (Classical.byContradiction a2) a3).elim) (fun a4 => (And.intro (o3 (Classical.byContradiction a2) (Classical.byContradiction a4)) (hT.1 [(2, [0, 1, 2, 3])] 6 (D + 1) 95 (22, [(0, zr 52), (1, zi v), (2, zi (c : Int)), (3, zi (i : Int))], [zi (m 58 ((wr (i : Int)).toNat))], m) _ (And.intro (fun a5 => (o4 (Classical.byContradiction a2) (Classical.byContradiction a4) a5)) (fun a6 => (And.intro (o5 (Classical.byContradiction a2) (Classical.byContradiction a4) a6) (hT.1 [(2, [0, 1, 2, 3])] 6 (D + 1) 95 (32, [(0, zr 52), (1, zi v), (2, zi (c : Int)), (3, zi (i : Int))], [zi (m 58 ((wr (i : Int)).toNat))], m) _ (o6 (Classical.byContradiction a2) (Classical.byContradiction a4) a6)))))))))))))
theorem zb95_2 (hT : zRules T) {D : Nat} {κ : Option zA → zM → Prop} {m : zM} {v : Int} {c : Nat} {i : Nat} {lo : zL} (hlo : z_keep [0, 1, 2, 3] lo = [(0, zr 52), (1, zi v), (2, zi (c : Int)), (3, zi (i : Int))])  (hB : zB m) (h_v : 0 ≤ v ∧ v ≤ 99) (h_c : c ≤ 26) (h_i : i ≤ 26) 
    (k1 : ¬ (i : Int) < (c : Int) → κ (some (zi (-1))) m)
    (k2 : (i : Int) < (c : Int) → wr (m 58 i) < v → T (D + 1) 95 (2, [(0, zr 52), (1, zi v), (2, zi (c : Int)), (3, zi ((i : Int) + 1))], [], m) κ)
    (k3 : (i : Int) < (c : Int) → ¬ wr (m 58 i) < v → κ (some (zi (wr (m 58 i)))) m) :
    T (D + 1) 95 (2, lo, [], m) κ := by
  have hb3 : (-2147483648) ≤ wr (m 58 i) ∧ wr (m 58 i) ≤ 2147483647 := wrB (m 58 i)
  have he0 : wr (i : Int) = (i : Int) := wr_id (by omega) (by omega)
  have he1 : wr (c : Int) = (c : Int) := wr_id (by omega) (by omega)
  have he2 : (i : Int).toNat = i := by omega
  have he3 : wr v = v := wr_id (by omega) (by omega)
  have key := @zb95_2r T hT D κ m v c i lo hlo
  simp only [he0, he1, he2, he3, Int.toNat_natCast] at key
  exact key
    k1
    (fun x0 x1 => by omega)
    (fun x0 x1 => by refine ⟨?_, ?_⟩ <;> omega)
    (fun x0 x1 x2 => k2 x0 x2)
    (fun x0 x1 x2 => by refine ⟨?_, ?_⟩ <;> omega)
    (fun x0 x1 x2 => k3 x0 x2)
theorem zb272_0r (hT : zRules T) {D : Nat} {κ : Option zA → zM → Prop} {m : zM} {p : Int} 
    (o1 : T (D + 5) 267 (0, [(0, zr 74), (1, zi p)], [], (zu m 74 12 0)) (fun r m1 => T (D + 6) 272 (10, [(0, zr 74), (1, zi p)], r.toList ++ [], m1) κ)) :
    T (D + 6) 272 (0, [(0, zr 74), (1, zi p)], [], m) κ :=
  hT.1 [(28, [0, 3, 4, 5]), (61, [0, 4, 5, 6, 7]), (98, [0, 4, 5, 7, 8])] 6 (D + 6) 272 _ κ (And.intro trivial (o1))
theorem zb272_0 (hT : zRules T) {D : Nat} {κ : Option zA → zM → Prop} {m : zM} {p : Int}  (hB : zB m) (h_p : (-2147483648) ≤ p ∧ p ≤ 2147483647) 
    (k1 : zB (zu m 74 12 0) → T (D + 5) 267 (0, [(0, zr 74), (1, zi p)], [], (zu m 74 12 0)) (fun r m1 => T (D + 6) 272 (10, [(0, zr 74), (1, zi p)], r.toList ++ [], m1) κ)) :
    T (D + 6) 272 (0, [(0, zr 74), (1, zi p)], [], m) κ := by
  exact zb272_0r hT
    (k1  (zB_u hB trivial))
theorem zb272_10r (hT : zRules T) {D : Nat} {κ : Option zA → zM → Prop} {m : zM} {v : Int} {lo : zL} (hlo : z_keep [0] lo = [(0, zr 74)]) 
    (o1 : ¬ wr v < 0 → T (D + 5) 270 (0, [(0, zr 74)], [], m) (fun r m1 => T (D + 6) 272 (21, [(0, zr 74), (2, zi v)], r.toList ++ [], m1) κ))
    (o2 : wr v < 0 → κ (some (zi (wr v))) m) :
    T (D + 6) 272 (10, lo, [zi v], m) κ :=
  zkeep hT hlo (hT.1 [(28, [0, 3, 4, 5]), (61, [0, 4, 5, 6, 7]), (98, [0, 4, 5, 7, 8])] 6 (D + 6) 272 _ κ (And.intro (fun a1 => (o1 a1)) (fun a2 => (o2 (Classical.byContradiction a2)))))
theorem zb272_10 (hT : zRules T) {D : Nat} {κ : Option zA → zM → Prop} {m : zM} {v : Int} {lo : zL} (hlo : z_keep [0] lo = [(0, zr 74)])  (hB : zB m) (h_v : (-2147483648) ≤ v ∧ v ≤ 2147483647) 
    (k1 : ¬ v < 0 → T (D + 5) 270 (0, [(0, zr 74)], [], m) (fun r m1 => T (D + 6) 272 (21, [(0, zr 74), (2, zi v)], r.toList ++ [], m1) κ))
    (k2 : v < 0 → κ (some (zi v)) m) :
    T (D + 6) 272 (10, lo, [zi v], m) κ := by
  have he0 : wr v = v := wr_id (by omega) (by omega)
  have key := @zb272_10r T hT D κ m v lo hlo
  simp only [he0, Int.toNat_natCast] at key
  exact key
    k1
    k2
theorem zb272_21r (hT : zRules T) {D : Nat} {κ : Option zA → zM → Prop} {m : zM} {c : Nat} {lo : zL} (hlo : z_keep [0] lo = [(0, zr 74)]) 
    (o1 : T (D + 6) 272 (28, [(0, zr 74), (3, zi (c : Int)), (4, zi 0), (5, zi 0)], [], m) κ) :
    T (D + 6) 272 (21, lo, [zi (c : Int)], m) κ :=
  zkeep hT hlo (hT.1 [(28, [0, 3, 4, 5]), (61, [0, 4, 5, 6, 7]), (98, [0, 4, 5, 7, 8])] 6 (D + 6) 272 _ κ (o1))
theorem zb272_21 (hT : zRules T) {D : Nat} {κ : Option zA → zM → Prop} {m : zM} {c : Nat} {lo : zL} (hlo : z_keep [0] lo = [(0, zr 74)])  (hB : zB m) (h_c : c ≤ 26) 
    (k1 : T (D + 6) 272 (28, [(0, zr 74), (3, zi (c : Int)), (4, zi 0), (5, zi 0)], [], m) κ) :
    T (D + 6) 272 (21, lo, [zi (c : Int)], m) κ := by
  exact zb272_21r hT hlo
    k1
theorem zb272_28r (hT : zRules T) {D : Nat} {κ : Option zA → zM → Prop} {m : zM} {c : Nat} {s : Int} {i : Nat} {lo : zL} (hlo : z_keep [0, 3, 4, 5] lo = [(0, zr 74), (3, zi (c : Int)), (4, zi s), (5, zi (i : Int))]) 
    (o1 : ¬ wr (i : Int) < wr (c : Int) → T (D + 6) 272 (61, [(0, zr 74), (4, zi s), (5, zi (-1)), (6, zi (-1)), (7, zi 0)], [], m) κ)
    (o2 : wr (i : Int) < wr (c : Int) → (0 ≤ wr (i : Int) ∧ wr (i : Int) < 26))
    (o3 : wr (i : Int) < wr (c : Int) → T (D + 6) 272 (28, [(0, zr 74), (3, zi (c : Int)), (4, zi (s + (m 98 ((wr (i : Int)).toNat)))), (5, zi ((i : Int) + 1))], [], m) κ) :
    T (D + 6) 272 (28, lo, [], m) κ :=
  zkeep hT hlo (hT.1 [(28, [0, 3, 4, 5]), (61, [0, 4, 5, 6, 7]), (98, [0, 4, 5, 7, 8])] 6 (D + 6) 272 _ κ (And.intro (fun a1 => (hT.1 [(28, [0, 3, 4, 5]), (61, [0, 4, 5, 6, 7]), (98, [0, 4, 5, 7, 8])] 6 (D + 6) 272 (56, [(0, zr 74), (3, zi (c : Int)), (4, zi s), (5, zi (-1))], [zi (-1)], m) _ (o1 a1))) (fun a2 => (hT.1 [(28, [0, 3, 4, 5]), (61, [0, 4, 5, 6, 7]), (98, [0, 4, 5, 7, 8])] 6 (D + 6) 272 (40, [(0, zr 74), (3, zi (c : Int)), (4, zi s), (5, zi (i : Int))], [zr 98, zi s], m) _ (And.intro (o2 (Classical.byContradiction a2)) (o3 (Classical.byContradiction a2)))))))
theorem zb272_28 (hT : zRules T) {D : Nat} {κ : Option zA → zM → Prop} {m : zM} {c : Nat} {s : Int} {i : Nat} {lo : zL} (hlo : z_keep [0, 3, 4, 5] lo = [(0, zr 74), (3, zi (c : Int)), (4, zi s), (5, zi (i : Int))])  (hB : zB m) (h_c : c ≤ 26) (h_i : i ≤ 26) 
    (k1 : ¬ (i : Int) < (c : Int) → T (D + 6) 272 (61, [(0, zr 74), (4, zi s), (5, zi (-1)), (6, zi (-1)), (7, zi 0)], [], m) κ)
    (k2 : (i : Int) < (c : Int) → T (D + 6) 272 (28, [(0, zr 74), (3, zi (c : Int)), (4, zi (s + (m 98 i))), (5, zi ((i : Int) + 1))], [], m) κ) :
    T (D + 6) 272 (28, lo, [], m) κ := by
  have he0 : wr (i : Int) = (i : Int) := wr_id (by omega) (by omega)
  have he1 : wr (c : Int) = (c : Int) := wr_id (by omega) (by omega)
  have he2 : (i : Int).toNat = i := by omega
  have key := @zb272_28r T hT D κ m c s i lo hlo
  simp only [he0, he1, he2, Int.toNat_natCast] at key
  exact key
    k1
    (fun x0 => by refine ⟨?_, ?_⟩ <;> omega)
    k2
theorem zb272_61r (hT : zRules T) {D : Nat} {κ : Option zA → zM → Prop} {m : zM} {s : Int} {n : Int} {o : Int} {k : Nat} {lo : zL} (hlo : z_keep [0, 4, 5, 6, 7] lo = [(0, zr 74), (4, zi s), (5, zi n), (6, zi o), (7, zi (k : Int))]) 
    (o1 : ¬ wr (k : Int) < wr (m 74 49) → κ (some (zi (wr s))) (zu (zu (zu m 74 11 0) 81 0 n) 74 11 1))
    (o2 : wr (k : Int) < wr (m 74 49) → wr o = (-1) → T (D + 6) 272 (98, [(0, zr 74), (4, zi s), (5, zi n), (7, zi (k : Int)), (8, zi 0)], [], m) κ)
    (o3 : wr (k : Int) < wr (m 74 49) → ¬ wr o = (-1) → (0 ≤ wr (k : Int) ∧ wr (k : Int) < 26))
    (o4 : wr (k : Int) < wr (m 74 49) → ¬ wr o = (-1) → wr o < wr (m 97 ((wr (k : Int)).toNat)) → T (D + 6) 272 (98, [(0, zr 74), (4, zi s), (5, zi n), (7, zi (k : Int)), (8, zi 0)], [], m) κ)
    (o5 : wr (k : Int) < wr (m 74 49) → ¬ wr o = (-1) → ¬ wr o < wr (m 97 ((wr (k : Int)).toNat)) → wr ((m 97 ((wr (k : Int)).toNat)) + (m 79 0)) < wr o → T (D + 6) 272 (98, [(0, zr 74), (4, zi s), (5, zi n), (7, zi (k : Int)), (8, zi 0)], [], m) κ)
    (o6 : wr (k : Int) < wr (m 74 49) → ¬ wr o = (-1) → ¬ wr o < wr (m 97 ((wr (k : Int)).toNat)) → ¬ wr ((m 97 ((wr (k : Int)).toNat)) + (m 79 0)) < wr o → T (D + 6) 272 (61, [(0, zr 74), (4, zi s), (5, zi n), (6, zi o), (7, zi ((k : Int) + 1))], [], m) κ) :
    T (D + 6) 272 (61, lo, [], m) κ :=
  zkeep hT hlo (hT.1 [(28, [0, 3, 4, 5]), (61, [0, 4, 5, 6, 7]), (98, [0, 4, 5, 7, 8])] 6 (D + 6) 272 _ κ (And.intro (fun a1 => (hT.1 [(28, [0, 3, 4, 5]), (61, [0, 4, 5, 6, 7]), (98, [0, 4, 5, 7, 8])] 6 (D + 6) 272 (145, [(0, zr 74), (4, zi s), (5, zi n), (6, zi o), (7, zi (k : Int))], [zi 0, zr 74], m) _ (And.intro trivial (hT.1 [] 6 (D + 5) 189 _ _ (And.intro (And.intro (z_ixL rfl) trivial) (hT.1 [] 6 (D + 5) 189 (10, [(0, zr 74), (1, zi n)], [], (zu (zu m 74 11 0) 81 0 n)) _ (And.intro trivial (hT.1 [] 6 (D + 5) 189 (20, [(0, zr 74), (1, zi n)], [], (zu (zu (zu m 74 11 0) 81 0 n) 74 11 1)) _ (hT.1 [(28, [0, 3, 4, 5]), (61, [0, 4, 5, 6, 7]), (98, [0, 4, 5, 7, 8])] 6 (D + 6) 272 _ _ (o1 a1)))))))))) (fun a2 => (hT.1 [(28, [0, 3, 4, 5]), (61, [0, 4, 5, 6, 7]), (98, [0, 4, 5, 7, 8])] 6 (D + 6) 272 (73, [(0, zr 74), (4, zi s), (5, zi n), (6, zi o), (7, zi (k : Int))], [zi (-1), zi o], m) _ (And.intro (fun a3 => (o2 (Classical.byContradiction a2) a3)) (fun a4 => (hT.1 [(28, [0, 3, 4, 5]), (61, [0, 4, 5, 6, 7]), (98, [0, 4, 5, 7, 8])] 6 (D + 6) 272 (85, [(0, zr 74), (4, zi s), (5, zi n), (6, zi o), (7, zi (k : Int))], [zi (k : Int), zr 97, zi o, zr 74], m) _ (And.intro (o3 (Classical.byContradiction a2) a4) (hT.1 [] 6 (D + 5) 252 _ _ (hT.1 [] 6 (D + 5) 252 (8, [(0, zr 74), (1, zi o), (2, zi (m 97 ((wr (k : Int)).toNat)))], [zi 0, zr 79, zi (m 97 ((wr (k : Int)).toNat)), zi (m 97 ((wr (k : Int)).toNat)), zi o], m) _ (And.intro (z_ixL rfl) (hT.1 [] 6 (D + 4) 186 _ _ (And.intro (fun a5 => (And.intro (z_b01L rfl) (hT.1 [] 6 (D + 5) 252 _ _ (And.intro (z_b01L rfl) (hT.1 [(28, [0, 3, 4, 5]), (61, [0, 4, 5, 6, 7]), (98, [0, 4, 5, 7, 8])] 6 (D + 6) 272 _ _ (And.intro (fun _ => (o4 (Classical.byContradiction a2) a4 a5)) (fun a7 => (a7 (z_litT rfl)).elim))))))) (fun a6 => (And.intro (fun a8 => (hT.1 [] 6 (D + 4) 186 (14, [(0, zi o), (1, zi (m 97 ((wr (k : Int)).toNat))), (2, zi ((m 97 ((wr (k : Int)).toNat)) + (m 79 0)))], [], m) _ (And.intro (z_b01L rfl) (hT.1 [] 6 (D + 5) 252 _ _ (And.intro (z_b01L rfl) (hT.1 [(28, [0, 3, 4, 5]), (61, [0, 4, 5, 6, 7]), (98, [0, 4, 5, 7, 8])] 6 (D + 6) 272 _ _ (And.intro (fun _ => (o5 (Classical.byContradiction a2) a4 a6 a8)) (fun a10 => (a10 (z_litT rfl)).elim)))))))) (fun a9 => (hT.1 [] 6 (D + 4) 186 (10, [(0, zi o), (1, zi (m 97 ((wr (k : Int)).toNat))), (2, zi ((m 97 ((wr (k : Int)).toNat)) + (m 79 0)))], [], m) _ (And.intro (z_b01L rfl) (hT.1 [] 6 (D + 5) 252 _ _ (And.intro (z_b01L rfl) (hT.1 [(28, [0, 3, 4, 5]), (61, [0, 4, 5, 6, 7]), (98, [0, 4, 5, 7, 8])] 6 (D + 6) 272 _ _ (And.intro (fun a11 => (z_litF a11 rfl).elim) (fun _ => (o6 (Classical.byContradiction a2) a4 a6 a9))))))))))))))))))))))))
theorem zb272_61 (hT : zRules T) {D : Nat} {κ : Option zA → zM → Prop} {m : zM} {s : Int} {n : Int} {o : Int} {k : Nat} {lo : zL} (hlo : z_keep [0, 4, 5, 6, 7] lo = [(0, zr 74), (4, zi s), (5, zi n), (6, zi o), (7, zi (k : Int))])  (hB : zB m) (h_n : (-1) ≤ n ∧ n ≤ 26) (h_k : k ≤ 26) 
    (k1 : ¬ (k : Int) < (m 74 49) → zB (zu (zu (zu m 74 11 0) 81 0 n) 74 11 1) → κ (some (zi (wr s))) (zu (zu (zu m 74 11 0) 81 0 n) 74 11 1))
    (k2 : (k : Int) < (m 74 49) → wr o = (-1) → T (D + 6) 272 (98, [(0, zr 74), (4, zi s), (5, zi n), (7, zi (k : Int)), (8, zi 0)], [], m) κ)
    (k3 : (k : Int) < (m 74 49) → ¬ wr o = (-1) → wr o < (m 97 k) → T (D + 6) 272 (98, [(0, zr 74), (4, zi s), (5, zi n), (7, zi (k : Int)), (8, zi 0)], [], m) κ)
    (k4 : (k : Int) < (m 74 49) → ¬ wr o = (-1) → ¬ wr o < (m 97 k) → ((m 97 k) + (m 79 0)) < wr o → T (D + 6) 272 (98, [(0, zr 74), (4, zi s), (5, zi n), (7, zi (k : Int)), (8, zi 0)], [], m) κ)
    (k5 : (k : Int) < (m 74 49) → ¬ wr o = (-1) → ¬ wr o < (m 97 k) → ¬ ((m 97 k) + (m 79 0)) < wr o → T (D + 6) 272 (61, [(0, zr 74), (4, zi s), (5, zi n), (6, zi o), (7, zi ((k : Int) + 1))], [], m) κ) :
    T (D + 6) 272 (61, lo, [], m) κ := by
  have hb2 : 0 ≤ (m 74 49) ∧ (m 74 49) ≤ 26 := hB 74 49
  have hb3 : (-2147483648) ≤ wr o ∧ wr o ≤ 2147483647 := wrB o
  have hb4 : 0 ≤ (m 97 k) ∧ (m 97 k) ≤ 99 := hB 97 k
  have hb5 : 0 ≤ (m 79 0) ∧ (m 79 0) ≤ 9 := hB 79 0
  have hb6 : (-2147483648) ≤ wr s ∧ wr s ≤ 2147483647 := wrB s
  have he0 : wr (k : Int) = (k : Int) := wr_id (by omega) (by omega)
  have he1 : wr (m 74 49) = (m 74 49) := wr_id (by omega) (by omega)
  have he2 : (k : Int).toNat = k := by omega
  have he3 : wr (m 97 k) = (m 97 k) := wr_id (by omega) (by omega)
  have he4 : wr ((m 97 k) + (m 79 0)) = ((m 97 k) + (m 79 0)) := wr_id (by omega) (by omega)
  have key := @zb272_61r T hT D κ m s n o k lo hlo
  simp only [he0, he1, he2, he3, he4, Int.toNat_natCast] at key
  exact key
    (fun x0 => k1 x0 (zB_u (zB_u (zB_u hB (show 0 ≤ 0 ∧ 0 ≤ 32 from ⟨by omega, by omega⟩)) trivial) (show 0 ≤ 1 ∧ 1 ≤ 32 from ⟨by omega, by omega⟩)))
    k2
    (fun x0 x1 => by refine ⟨?_, ?_⟩ <;> omega)
    k3
    k4
    k5
theorem zb272_98r (hT : zRules T) {D : Nat} {κ : Option zA → zM → Prop} {m : zM} {s : Int} {n : Int} {k : Nat} {i : Nat} {lo : zL} (hlo : z_keep [0, 4, 5, 7, 8] lo = [(0, zr 74), (4, zi s), (5, zi n), (7, zi (k : Int)), (8, zi (i : Int))]) 
    (o1 : (0 ≤ wr (i : Int) ∧ wr (i : Int) < 26))
    (o2 : (0 ≤ wr (k : Int) ∧ wr (k : Int) < 26))
    (o3 : wr (m 98 ((wr (i : Int)).toNat)) < wr (m 97 ((wr (k : Int)).toNat)) → T (D + 6) 272 (98, [(0, zr 74), (4, zi s), (5, zi n), (7, zi (k : Int)), (8, zi ((i : Int) + 1))], [], m) κ)
    (o4 : ¬ wr (m 98 ((wr (i : Int)).toNat)) < wr (m 97 ((wr (k : Int)).toNat)) → wr ((m 97 ((wr (k : Int)).toNat)) + (m 79 0)) < wr (m 98 ((wr (i : Int)).toNat)) → T (D + 6) 272 (98, [(0, zr 74), (4, zi s), (5, zi n), (7, zi (k : Int)), (8, zi ((i : Int) + 1))], [], m) κ)
    (o5 : ¬ wr (m 98 ((wr (i : Int)).toNat)) < wr (m 97 ((wr (k : Int)).toNat)) → ¬ wr ((m 97 ((wr (k : Int)).toNat)) + (m 79 0)) < wr (m 98 ((wr (i : Int)).toNat)) → (0 ≤ wr (i : Int) ∧ wr (i : Int) < 26))
    (o6 : ¬ wr (m 98 ((wr (i : Int)).toNat)) < wr (m 97 ((wr (k : Int)).toNat)) → ¬ wr ((m 97 ((wr (k : Int)).toNat)) + (m 79 0)) < wr (m 98 ((wr (i : Int)).toNat)) → T (D + 6) 272 (61, [(0, zr 74), (4, zi s), (5, zi (n + 1)), (6, zi (m 98 ((wr (i : Int)).toNat))), (7, zi ((k : Int) + 1))], [], m) κ) :
    T (D + 6) 272 (98, lo, [], m) κ :=
  zkeep hT hlo (hT.1 [(28, [0, 3, 4, 5]), (61, [0, 4, 5, 6, 7]), (98, [0, 4, 5, 7, 8])] 6 (D + 6) 272 _ κ (And.intro (o1) (hT.1 [(28, [0, 3, 4, 5]), (61, [0, 4, 5, 6, 7]), (98, [0, 4, 5, 7, 8])] 6 (D + 6) 272 (107, [(0, zr 74), (4, zi s), (5, zi n), (7, zi (k : Int)), (8, zi (i : Int))], [zr 74, zi (m 98 ((wr (i : Int)).toNat)), zr 74], m) _ (And.intro (o2) (hT.1 [] 6 (D + 5) 252 _ _ (hT.1 [] 6 (D + 5) 252 (8, [(0, zr 74), (1, zi (m 98 ((wr (i : Int)).toNat))), (2, zi (m 97 ((wr (k : Int)).toNat)))], [zi 0, zr 79, zi (m 97 ((wr (k : Int)).toNat)), zi (m 97 ((wr (k : Int)).toNat)), zi (m 98 ((wr (i : Int)).toNat))], m) _ (And.intro (z_ixL rfl) (hT.1 [] 6 (D + 4) 186 _ _ (And.intro (fun a1 => (And.intro (z_b01L rfl) (hT.1 [] 6 (D + 5) 252 _ _ (And.intro (z_b01L rfl) (hT.1 [(28, [0, 3, 4, 5]), (61, [0, 4, 5, 6, 7]), (98, [0, 4, 5, 7, 8])] 6 (D + 6) 272 _ _ (And.intro (fun a3 => (z_litF a3 rfl).elim) (fun _ => (o3 a1)))))))) (fun a2 => (And.intro (fun a4 => (hT.1 [] 6 (D + 4) 186 (14, [(0, zi (m 98 ((wr (i : Int)).toNat))), (1, zi (m 97 ((wr (k : Int)).toNat))), (2, zi ((m 97 ((wr (k : Int)).toNat)) + (m 79 0)))], [], m) _ (And.intro (z_b01L rfl) (hT.1 [] 6 (D + 5) 252 _ _ (And.intro (z_b01L rfl) (hT.1 [(28, [0, 3, 4, 5]), (61, [0, 4, 5, 6, 7]), (98, [0, 4, 5, 7, 8])] 6 (D + 6) 272 _ _ (And.intro (fun a6 => (z_litF a6 rfl).elim) (fun _ => (o4 a2 a4))))))))) (fun a5 => (hT.1 [] 6 (D + 4) 186 (10, [(0, zi (m 98 ((wr (i : Int)).toNat))), (1, zi (m 97 ((wr (k : Int)).toNat))), (2, zi ((m 97 ((wr (k : Int)).toNat)) + (m 79 0)))], [], m) _ (And.intro (z_b01L rfl) (hT.1 [] 6 (D + 5) 252 _ _ (And.intro (z_b01L rfl) (hT.1 [(28, [0, 3, 4, 5]), (61, [0, 4, 5, 6, 7]), (98, [0, 4, 5, 7, 8])] 6 (D + 6) 272 _ _ (And.intro (fun _ => (And.intro (o5 a2 a5) (hT.1 [(28, [0, 3, 4, 5]), (61, [0, 4, 5, 6, 7]), (98, [0, 4, 5, 7, 8])] 6 (D + 6) 272 (134, [(0, zr 74), (4, zi s), (5, zi n), (6, zi (m 98 ((wr (i : Int)).toNat))), (7, zi (k : Int)), (8, zi (i : Int))], [], m) _ (o6 a2 a5)))) (fun a7 => (a7 (z_litT rfl)).elim)))))))))))))))))))
theorem zb272_98 (hT : zRules T) {D : Nat} {κ : Option zA → zM → Prop} {m : zM} {s : Int} {n : Int} {k : Nat} {i : Nat} {lo : zL} (hlo : z_keep [0, 4, 5, 7, 8] lo = [(0, zr 74), (4, zi s), (5, zi n), (7, zi (k : Int)), (8, zi (i : Int))])  (hB : zB m) (h_n : (-1) ≤ n ∧ n ≤ 26) (h_k : k ≤ 25) (h_i : i ≤ 25) 
    (k1 : wr (m 98 i) < (m 97 k) → T (D + 6) 272 (98, [(0, zr 74), (4, zi s), (5, zi n), (7, zi (k : Int)), (8, zi ((i : Int) + 1))], [], m) κ)
    (k2 : ¬ wr (m 98 i) < (m 97 k) → ((m 97 k) + (m 79 0)) < wr (m 98 i) → T (D + 6) 272 (98, [(0, zr 74), (4, zi s), (5, zi n), (7, zi (k : Int)), (8, zi ((i : Int) + 1))], [], m) κ)
    (k3 : ¬ wr (m 98 i) < (m 97 k) → ¬ ((m 97 k) + (m 79 0)) < wr (m 98 i) → T (D + 6) 272 (61, [(0, zr 74), (4, zi s), (5, zi (n + 1)), (6, zi (m 98 i)), (7, zi ((k : Int) + 1))], [], m) κ) :
    T (D + 6) 272 (98, lo, [], m) κ := by
  have hb3 : 0 ≤ (m 97 k) ∧ (m 97 k) ≤ 99 := hB 97 k
  have hb4 : 0 ≤ (m 79 0) ∧ (m 79 0) ≤ 9 := hB 79 0
  have hb5 : (-2147483648) ≤ wr (m 98 i) ∧ wr (m 98 i) ≤ 2147483647 := wrB (m 98 i)
  have he0 : wr (i : Int) = (i : Int) := wr_id (by omega) (by omega)
  have he1 : (i : Int).toNat = i := by omega
  have he2 : wr (k : Int) = (k : Int) := wr_id (by omega) (by omega)
  have he3 : (k : Int).toNat = k := by omega
  have he4 : wr (m 97 k) = (m 97 k) := wr_id (by omega) (by omega)
  have he5 : wr ((m 97 k) + (m 79 0)) = ((m 97 k) + (m 79 0)) := wr_id (by omega) (by omega)
  have key := @zb272_98r T hT D κ m s n k i lo hlo
  simp only [he0, he1, he2, he3, he4, he5, Int.toNat_natCast] at key
  exact key
    (by refine ⟨?_, ?_⟩ <;> omega)
    (by refine ⟨?_, ?_⟩ <;> omega)
    k1
    k2
    (fun x0 x1 => by refine ⟨?_, ?_⟩ <;> omega)
    k3
end ZBlocks
