section ZBlocks
variable {T : Nat → Nat → zG → (Option zA → zM → Prop) → Prop}
theorem zb146_0r (hT : zRules T) {D : Nat} {κ : Option zA → zM → Prop} {m : zM} {p : Int} 
    (o1 : T (D + 6) 181 (0, [(0, zr 1), (1, zi p)], [], m) (fun r m1 => T (D + 7) 146 (5, [(0, zr 1), (1, zi p)], r.toList ++ [], m1) κ)) :
    T (D + 7) 146 (0, [(0, zr 1), (1, zi p)], [], m) κ :=
  hT.1 [] 6 (D + 7) 146 _ κ (o1)
theorem zb146_0 (hT : zRules T) {D : Nat} {κ : Option zA → zM → Prop} {m : zM} {p : Int}  (hB : zB m) (h_p : (-2147483648) ≤ p ∧ p ≤ 2147483647) 
    (k1 : T (D + 6) 181 (0, [(0, zr 1), (1, zi p)], [], m) (fun r m1 => T (D + 7) 146 (5, [(0, zr 1), (1, zi p)], r.toList ++ [], m1) κ)) :
    T (D + 7) 146 (0, [(0, zr 1), (1, zi p)], [], m) κ := by
  exact zb146_0r hT
    k1
theorem zb146_5r (hT : zRules T) {D : Nat} {κ : Option zA → zM → Prop} {m : zM} {v : Int} {lo : zL} (hlo : z_keep [0] lo = [(0, zr 1)]) 
    (o1 : wr v = 0 → T (D + 6) 91 (0, [(0, zr 52), (1, zi (wr (m 24 0)))], [], m) (fun r m1 => T (D + 7) 146 (26, [(0, zr 1), (2, zi v)], r.toList ++ [], m1) κ))
    (o2 : ¬ wr v = 0 → κ (some (zi (wr v))) m) :
    T (D + 7) 146 (5, lo, [zi v], m) κ :=
  zkeep hT hlo (hT.1 [] 6 (D + 7) 146 _ κ (And.intro (fun a1 => (hT.1 [] 6 (D + 7) 146 (17, [(0, zr 1), (2, zi v)], [zr 1, zr 52], m) _ (hT.1 [] 6 (D + 6) 27 _ _ (And.intro (z_ixL rfl) (hT.1 [] 6 (D + 7) 146 _ _ (o1 a1)))))) (fun a2 => (o2 a2))))
theorem zb146_5 (hT : zRules T) {D : Nat} {κ : Option zA → zM → Prop} {m : zM} {v : Int} {lo : zL} (hlo : z_keep [0] lo = [(0, zr 1)])  (hB : zB m) (h_v : (-2147483648) ≤ v ∧ v ≤ 2147483647) 
    (k1 : v = 0 → T (D + 6) 91 (0, [(0, zr 52), (1, zi (m 24 0))], [], m) (fun r m1 => T (D + 7) 146 (26, [(0, zr 1), (2, zi v)], r.toList ++ [], m1) κ))
    (k2 : ¬ v = 0 → κ (some (zi v)) m) :
    T (D + 7) 146 (5, lo, [zi v], m) κ := by
  have hb1 : 0 ≤ (m 24 0) ∧ (m 24 0) ≤ 9 := hB 24 0
  have he0 : wr v = v := wr_id (by omega) (by omega)
  have he1 : wr (m 24 0) = (m 24 0) := wr_id (by omega) (by omega)
  have key := @zb146_5r T hT D κ m v lo hlo
  simp only [he0, he1, Int.toNat_natCast] at key
  exact key
    k1
    k2
theorem zb146_26r (hT : zRules T) {D : Nat} {κ : Option zA → zM → Prop} {m : zM} {c : Nat} {lo : zL} (hlo : z_keep [0] lo = [(0, zr 1)]) 
    (o1 : T (D + 6) 48 (0, [(0, zr 72), (1, zr 58), (2, zi (c : Int))], [], m) (fun r m1 => T (D + 7) 146 (42, [(0, zr 1), (3, zi (c : Int))], r.toList ++ [], m1) κ)) :
    T (D + 7) 146 (26, lo, [zi (c : Int)], m) κ :=
  zkeep hT hlo (hT.1 [] 6 (D + 7) 146 _ κ (hT.1 [] 6 (D + 7) 146 (38, [(0, zr 1), (3, zi (c : Int))], [zr 58, zr 72], m) _ (o1)))
theorem zb146_26 (hT : zRules T) {D : Nat} {κ : Option zA → zM → Prop} {m : zM} {c : Nat} {lo : zL} (hlo : z_keep [0] lo = [(0, zr 1)])  (hB : zB m) (h_c : c ≤ 60) 
    (k1 : T (D + 6) 48 (0, [(0, zr 72), (1, zr 58), (2, zi (c : Int))], [], m) (fun r m1 => T (D + 7) 146 (42, [(0, zr 1), (3, zi (c : Int))], r.toList ++ [], m1) κ)) :
    T (D + 7) 146 (26, lo, [zi (c : Int)], m) κ := by
  exact zb146_26r hT hlo
    k1
theorem zb146_42r (hT : zRules T) {D : Nat} {κ : Option zA → zM → Prop} {m : zM} {c : Nat} {lo : zL} (hlo : z_keep [3] lo = [(3, zi (c : Int))]) 
    (o1 : κ (some (zi (wr (c : Int)))) m) :
    T (D + 7) 146 (42, lo, [], m) κ :=
  zkeep hT hlo (hT.1 [] 6 (D + 7) 146 _ κ (o1))
theorem zb146_42 (hT : zRules T) {D : Nat} {κ : Option zA → zM → Prop} {m : zM} {c : Nat} {lo : zL} (hlo : z_keep [3] lo = [(3, zi (c : Int))])  (h_c : c ≤ 60) 
    (k1 : κ (some (zi (c : Int))) m) :
    T (D + 7) 146 (42, lo, [], m) κ := by
  have he0 : wr (c : Int) = (c : Int) := wr_id (by omega) (by omega)
  have key := @zb146_42r T hT D κ m c lo hlo
  simp only [he0, Int.toNat_natCast] at key
  exact key
    k1
theorem zb271_0r (hT : zRules T) {D : Nat} {κ : Option zA → zM → Prop} {m : zM} {p : Int} 
    (o1 : T (D + 5) 267 (0, [(0, zr 74), (1, zi p)], [], (zu m 74 12 0)) (fun r m1 => T (D + 6) 271 (10, [(0, zr 74), (1, zi p)], r.toList ++ [], m1) κ)) :
    T (D + 6) 271 (0, [(0, zr 74), (1, zi p)], [], m) κ :=
  hT.1 [(30, [0, 3, 4])] 6 (D + 6) 271 _ κ (And.intro trivial (o1))
theorem zb271_0 (hT : zRules T) {D : Nat} {κ : Option zA → zM → Prop} {m : zM} {p : Int}  (hB : zB m) (h_p : (-2147483648) ≤ p ∧ p ≤ 2147483647) 
    (k1 : zB (zu m 74 12 0) → T (D + 5) 267 (0, [(0, zr 74), (1, zi p)], [], (zu m 74 12 0)) (fun r m1 => T (D + 6) 271 (10, [(0, zr 74), (1, zi p)], r.toList ++ [], m1) κ)) :
    T (D + 6) 271 (0, [(0, zr 74), (1, zi p)], [], m) κ := by
  exact zb271_0r hT
    (k1  (zB_u hB trivial))
theorem zb271_10r (hT : zRules T) {D : Nat} {κ : Option zA → zM → Prop} {m : zM} {v : Int} {lo : zL} (hlo : z_keep [0] lo = [(0, zr 74)]) 
    (o1 : ¬ wr v < 0 → T (D + 5) 270 (0, [(0, zr 74)], [], m) (fun r m1 => T (D + 6) 271 (21, [(0, zr 74), (2, zi v)], r.toList ++ [], m1) κ))
    (o2 : wr v < 0 → κ (some (zi (wr v))) m) :
    T (D + 6) 271 (10, lo, [zi v], m) κ :=
  zkeep hT hlo (hT.1 [(30, [0, 3, 4])] 6 (D + 6) 271 _ κ (And.intro (fun a1 => (o1 a1)) (fun a2 => (o2 (Classical.byContradiction a2)))))
theorem zb271_10 (hT : zRules T) {D : Nat} {κ : Option zA → zM → Prop} {m : zM} {v : Int} {lo : zL} (hlo : z_keep [0] lo = [(0, zr 74)])  (hB : zB m) (h_v : (-2147483648) ≤ v ∧ v ≤ 2147483647) 
    (k1 : ¬ v < 0 → T (D + 5) 270 (0, [(0, zr 74)], [], m) (fun r m1 => T (D + 6) 271 (21, [(0, zr 74), (2, zi v)], r.toList ++ [], m1) κ))
    (k2 : v < 0 → κ (some (zi v)) m) :
    T (D + 6) 271 (10, lo, [zi v], m) κ := by
  have he0 : wr v = v := wr_id (by omega) (by omega)
  have key := @zb271_10r T hT D κ m v lo hlo
  simp only [he0, Int.toNat_natCast] at key
  exact key
    k1
    k2
theorem zb271_21r (hT : zRules T) {D : Nat} {κ : Option zA → zM → Prop} {m : zM} {c : Nat} {lo : zL} (hlo : z_keep [0] lo = [(0, zr 74)]) 
    (o1 : T (D + 6) 271 (30, [(0, zr 74), (3, zi (c : Int)), (4, zi 0)], [], (zu m 74 11 0)) κ) :
    T (D + 6) 271 (21, lo, [zi (c : Int)], m) κ :=
  zkeep hT hlo (hT.1 [(30, [0, 3, 4])] 6 (D + 6) 271 _ κ (And.intro trivial (o1)))
theorem zb271_21 (hT : zRules T) {D : Nat} {κ : Option zA → zM → Prop} {m : zM} {c : Nat} {lo : zL} (hlo : z_keep [0] lo = [(0, zr 74)])  (hB : zB m) (h_c : c ≤ 26) 
    (k1 : zB (zu m 74 11 0) → T (D + 6) 271 (30, [(0, zr 74), (3, zi (c : Int)), (4, zi 0)], [], (zu m 74 11 0)) κ) :
    T (D + 6) 271 (21, lo, [zi (c : Int)], m) κ := by
  exact zb271_21r hT hlo
    (k1  (zB_u hB (show 0 ≤ 0 ∧ 0 ≤ 32 from ⟨by omega, by omega⟩)))
theorem zb271_30r (hT : zRules T) {D : Nat} {κ : Option zA → zM → Prop} {m : zM} {c : Nat} {i : Nat} {lo : zL} (hlo : z_keep [0, 3, 4] lo = [(0, zr 74), (3, zi (c : Int)), (4, zi (i : Int))]) 
    (o1 : ¬ wr (i : Int) < wr (c : Int) → κ (some (zi (wr (c : Int)))) m)
    (o2 : wr (i : Int) < wr (c : Int) → (0 ≤ wr (i : Int) ∧ wr (i : Int) < 26))
    (o3 : wr (i : Int) < wr (c : Int) → (0 ≤ wr (m 74 11) ∧ wr (m 74 11) < 32))
    (o4 : wr (i : Int) < wr (c : Int) → T (D + 6) 271 (30, [(0, zr 74), (3, zi (c : Int)), (4, zi ((i : Int) + 1))], [], (zu (zu m 81 ((wr (m 74 11)).toNat) (m 98 ((wr (i : Int)).toNat))) 74 11 ((m 74 11) + 1))) κ) :
    T (D + 6) 271 (30, lo, [], m) κ :=
  zkeep hT hlo (hT.1 [(30, [0, 3, 4])] 6 (D + 6) 271 _ κ (And.intro (fun a1 => (o1 a1)) (fun a2 => (hT.1 [(30, [0, 3, 4])] 6 (D + 6) 271 (41, [(0, zr 74), (3, zi (c : Int)), (4, zi (i : Int))], [zr 98, zr 74], m) _ (And.intro (o2 (Classical.byContradiction a2)) (hT.1 [] 6 (D + 5) 189 _ _ (And.intro (And.intro (o3 (Classical.byContradiction a2)) trivial) (hT.1 [] 6 (D + 5) 189 (10, [(0, zr 74), (1, zi (m 98 ((wr (i : Int)).toNat)))], [], (zu m 81 ((wr (m 74 11)).toNat) (m 98 ((wr (i : Int)).toNat)))) _ (And.intro trivial (hT.1 [] 6 (D + 5) 189 (20, [(0, zr 74), (1, zi (m 98 ((wr (i : Int)).toNat)))], [], (zu (zu m 81 ((wr (m 74 11)).toNat) (m 98 ((wr (i : Int)).toNat))) 74 11 ((m 74 11) + 1))) _ (hT.1 [(30, [0, 3, 4])] 6 (D + 6) 271 _ _ (o4 (Classical.byContradiction a2)))))))))))))
theorem zb271_30 (hT : zRules T) {D : Nat} {κ : Option zA → zM → Prop} {m : zM} {c : Nat} {i : Nat} {lo : zL} (hlo : z_keep [0, 3, 4] lo = [(0, zr 74), (3, zi (c : Int)), (4, zi (i : Int))])  (hB : zB m) (h_c : c ≤ 26) (h_i : i ≤ 26) 
    (k1 : ¬ (i : Int) < (c : Int) → κ (some (zi (c : Int))) m)
    (k2 : (i : Int) < (c : Int) → (0 ≤ (m 74 11) ∧ (m 74 11) < 32))
    (k3 : (i : Int) < (c : Int) → T (D + 6) 271 (30, [(0, zr 74), (3, zi (c : Int)), (4, zi ((i : Int) + 1))], [], (zu (zu m 81 ((m 74 11).toNat) (m 98 i)) 74 11 ((m 74 11) + 1))) κ) :
    T (D + 6) 271 (30, lo, [], m) κ := by
  have hb2 : 0 ≤ (m 74 11) ∧ (m 74 11) ≤ 32 := hB 74 11
  have he0 : wr (i : Int) = (i : Int) := wr_id (by omega) (by omega)
  have he1 : wr (c : Int) = (c : Int) := wr_id (by omega) (by omega)
  have he2 : (i : Int).toNat = i := by omega
  have he3 : wr (m 74 11) = (m 74 11) := wr_id (by omega) (by omega)
  have key := @zb271_30r T hT D κ m c i lo hlo
  simp only [he0, he1, he2, he3, Int.toNat_natCast] at key
  exact key
    k1
    (fun x0 => by refine ⟨?_, ?_⟩ <;> omega)
    k2
    k3
theorem zb48_0_58wr (hT : zRules T) {D : Nat} {κ : Option zA → zM → Prop} {m : zM} {n : Nat} 
    (o1 : 26 < wr (n : Int) → κ (none) (z_cp (zu m 72 1 26) 58 73 0 0 26))
    (o2 : ¬ 26 < wr (n : Int) → 0 < wr (wr (n : Int)) → ((0 : Int) ≤ 0 ∧ (0 : Int) ≤ 0 ∧ (0 : Int) ≤ wr ((zu m 72 1 (wr (wr (n : Int)))) 72 1) ∧ 0 + wr ((zu m 72 1 (wr (wr (n : Int)))) 72 1) ≤ 26 ∧ 0 + wr ((zu m 72 1 (wr (wr (n : Int)))) 72 1) ≤ 26))
    (o3 : ¬ 26 < wr (n : Int) → 0 < wr (wr (n : Int)) → κ (none) (z_cp (zu m 72 1 (wr (wr (n : Int)))) 58 73 0 0 ((wr ((zu m 72 1 (wr (wr (n : Int)))) 72 1)).toNat)))
    (o4 : ¬ 26 < wr (n : Int) → ¬ 0 < wr (wr (n : Int)) → κ (none) (z_cp (zu m 72 1 0) 58 73 0 0 0)) :
    T (D + 2) 48 (0, [(0, zr 72), (1, zr 58), (2, zi (n : Int))], [], m) κ :=
  hT.1 [] 6 (D + 2) 48 _ κ (hT.1 [] 6 (D + 2) 48 (6, [(0, zr 72), (1, zr 58), (2, zi (n : Int))], [zr 72, zi 26, zi (n : Int), zi 0, zr 72], m) _ (hT.1 [] 6 (D + 1) 294 _ _ (And.intro (fun a1 => (z_litF a1 rfl).elim) (fun _ => (hT.1 [] 6 (D + 2) 48 _ _ (hT.1 [] 6 (D + 1) 294 _ _ (And.intro (fun a2 => (hT.1 [] 6 (D + 2) 48 _ _ (hT.1 [] 6 (D + 1) 295 _ _ (And.intro (fun _ => (hT.1 [] 6 (D + 2) 48 _ _ (And.intro trivial (hT.1 [] 6 (D + 2) 48 (29, [(0, zr 72), (1, zr 58), (2, zi (n : Int))], [zi 0, zr 73, zi 0, zr 58], (zu m 72 1 26)) _ (And.intro (And.intro (z_leL rfl) (And.intro (z_leL rfl) (And.intro (z_leL rfl) (And.intro (z_leL rfl) (z_leL rfl))))) (o1 a2)))))) (fun a4 => (a4 (z_litT rfl)).elim))))) (fun a3 => (hT.1 [] 6 (D + 2) 48 _ _ (hT.1 [] 6 (D + 1) 295 _ _ (And.intro (fun a5 => (hT.1 [] 6 (D + 2) 48 _ _ (And.intro trivial (hT.1 [] 6 (D + 2) 48 (29, [(0, zr 72), (1, zr 58), (2, zi (n : Int))], [zi 0, zr 73, zi 0, zr 58], (zu m 72 1 (wr (wr (n : Int))))) _ (And.intro (o2 a3 a5) (o3 a3 a5)))))) (fun a6 => (hT.1 [] 6 (D + 2) 48 _ _ (And.intro trivial (hT.1 [] 6 (D + 2) 48 (29, [(0, zr 72), (1, zr 58), (2, zi (n : Int))], [zi 0, zr 73, zi 0, zr 58], (zu m 72 1 0)) _ (And.intro (And.intro (z_leL rfl) (And.intro (z_leL rfl) (And.intro (z_leL rfl) (And.intro (z_leL rfl) (z_leL rfl))))) (o4 a3 a6)))))))))))))))))
theorem zb48_0_58w (hT : zRules T) {D : Nat} {κ : Option zA → zM → Prop} {m : zM} {n : Nat}  (hB : zB m) (h_n : n ≤ 60) 
    (k1 : 26 < (n : Int) → zB (z_cp (zu m 72 1 26) 58 73 0 0 26) → κ (none) (z_cp (zu m 72 1 26) 58 73 0 0 26))
    (k2 : ¬ 26 < (n : Int) → 0 < (n : Int) → zB (z_cp (zu m 72 1 (n : Int)) 58 73 0 0 n) → κ (none) (z_cp (zu m 72 1 (n : Int)) 58 73 0 0 n))
    (k3 : ¬ 26 < (n : Int) → ¬ 0 < (n : Int) → zB (z_cp (zu m 72 1 0) 58 73 0 0 0) → κ (none) (z_cp (zu m 72 1 0) 58 73 0 0 0)) :
    T (D + 2) 48 (0, [(0, zr 72), (1, zr 58), (2, zi (n : Int))], [], m) κ := by
  have he0 : wr (n : Int) = (n : Int) := wr_id (by omega) (by omega)
  have he1 : ((zu m 72 1 (n : Int)) 72 1) = (n : Int) := (zu_sm rfl)
  have he2 : (n : Int).toNat = n := by omega
  have key := @zb48_0_58wr T hT D κ m n
  simp only [he0, he1, he2, Int.toNat_natCast] at key
  exact key
    (fun x0 => k1 x0 (zB_cp (zB_u hB (show 0 ≤ 26 ∧ 26 ≤ 26 from ⟨by omega, by omega⟩)) (fun _ _ _ => trivial)))
    (fun x0 x1 => by refine ⟨?_, ?_, ?_, ?_, ?_⟩ <;> omega)
    (fun x0 x1 => k2 x0 x1 (zB_cp (zB_u hB (show 0 ≤ (n : Int) ∧ (n : Int) ≤ 26 from ⟨by omega, by omega⟩)) (fun _ _ _ => trivial)))
    (fun x0 x1 => k3 x0 x1 (zB_cp (zB_u hB (show 0 ≤ 0 ∧ 0 ≤ 26 from ⟨by omega, by omega⟩)) (fun _ _ _ => trivial)))
end ZBlocks
