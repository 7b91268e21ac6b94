section ZBlocks
variable {T : Nat → Nat → zG → (Option zA → zM → Prop) → Prop}
theorem zb178_0r (hT : zRules T) {D : Nat} {κ : Option zA → zM → Prop} {m : zM} {v : Int} 
    (o1 : wr v < 1 → κ (some (zi (-1))) m)
    (o2 : ¬ wr v < 1 → ¬ 999 < wr v → T (D + 3) 11 (0, [(0, zr 25), (1, zi v)], [], m) (fun r m1 => T (D + 4) 178 (24, [(0, zr 1), (1, zi v)], r.toList ++ [], m1) κ))
    (o3 : ¬ wr v < 1 → 999 < wr v → κ (some (zi (-1))) m) :
    T (D + 4) 178 (0, [(0, zr 1), (1, zi v)], [], m) κ :=
  hT.1 [] 6 (D + 4) 178 _ κ (And.intro (fun a1 => (o1 a1)) (fun a2 => (And.intro (fun a3 => (hT.1 [] 6 (D + 4) 178 (16, [(0, zr 1), (1, zi v)], [], m) _ (o2 a2 a3))) (fun a4 => (hT.1 [] 6 (D + 4) 178 (12, [(0, zr 1), (1, zi v)], [], m) _ (o3 a2 (Classical.byContradiction a4)))))))
theorem zb178_0 (hT : zRules T) {D : Nat} {κ : Option zA → zM → Prop} {m : zM} {v : Int}  (hB : zB m) (h_v : (-2147483648) ≤ v ∧ v ≤ 2147483647) 
    (k1 : v < 1 → κ (some (zi (-1))) m)
    (k2 : ¬ v < 1 → ¬ 999 < v → T (D + 3) 11 (0, [(0, zr 25), (1, zi v)], [], m) (fun r m1 => T (D + 4) 178 (24, [(0, zr 1), (1, zi v)], r.toList ++ [], m1) κ))
    (k3 : ¬ v < 1 → 999 < v → κ (some (zi (-1))) m) :
    T (D + 4) 178 (0, [(0, zr 1), (1, zi v)], [], m) κ := by
  have he0 : wr v = v := wr_id (by omega) (by omega)
  have key := @zb178_0r T hT D κ m v
  simp only [he0, Int.toNat_natCast] at key
  exact key
    k1
    k2
    k3
theorem zb178_24r (hT : zRules T) {D : Nat} {κ : Option zA → zM → Prop} {m : zM} {v : Int} {lo : zL} (hlo : z_keep [] lo = []) 
    (o1 : κ (some (zi (wr v))) m) :
    T (D + 4) 178 (24, lo, [zi v], m) κ :=
  zkeep hT hlo (hT.1 [] 6 (D + 4) 178 _ κ (o1))
theorem zb178_24 (hT : zRules T) {D : Nat} {κ : Option zA → zM → Prop} {m : zM} {v : Int} {lo : zL} (hlo : z_keep [] lo = [])  (h_v : (-2147483648) ≤ v ∧ v ≤ 2147483647) 
    (k1 : κ (some (zi v)) m) :
    T (D + 4) 178 (24, lo, [zi v], m) κ := by
  have he0 : wr v = v := wr_id (by omega) (by omega)
  have key := @zb178_24r T hT D κ m v lo hlo
  simp only [he0, Int.toNat_natCast] at key
  exact key
    k1
theorem zb11_0r (hT : zRules T) {D : Nat} {κ : Option zA → zM → Prop} {m : zM} {v : Nat} 
    (o1 : T (D + 2) 8 (0, [(0, zr 25)], [], m) (fun r m1 => T (D + 3) 11 (4, [(0, zr 25), (1, zi (v : Int))], r.toList ++ [], m1) κ)) :
    T (D + 3) 11 (0, [(0, zr 25), (1, zi (v : Int))], [], m) κ :=
  hT.1 [(35, [0, 3, 4, 5])] 6 (D + 3) 11 _ κ (o1)
theorem zb11_0 (hT : zRules T) {D : Nat} {κ : Option zA → zM → Prop} {m : zM} {v : Nat}  (hB : zB m) (h_v : v ≤ 999) 
    (k1 : T (D + 2) 8 (0, [(0, zr 25)], [], m) (fun r m1 => T (D + 3) 11 (4, [(0, zr 25), (1, zi (v : Int))], r.toList ++ [], m1) κ)) :
    T (D + 3) 11 (0, [(0, zr 25), (1, zi (v : Int))], [], m) κ := by
  exact zb11_0r hT
    k1
theorem zb11_4r (hT : zRules T) {D : Nat} {κ : Option zA → zM → Prop} {m : zM} {v : Nat} {s : Nat} {lo : zL} (hlo : z_keep [0, 1] lo = [(0, zr 25), (1, zi (v : Int))]) 
    (o1 : ¬ wr (s : Int) < wr (v : Int) → wr (((v : Int) + 108) - 1) < wr (s : Int) → T (D + 2) 12 (0, [(0, zr 25), (1, zi (wr (((v : Int) + 108) - 1)))], [], m) (fun r m1 => T (D + 3) 11 (29, [(0, zr 25), (1, zi (v : Int)), (2, zi (s : Int)), (3, zi (wr (((v : Int) + 108) - 1)))], r.toList ++ [], m1) κ))
    (o2 : ¬ wr (s : Int) < wr (v : Int) → ¬ wr (((v : Int) + 108) - 1) < wr (s : Int) → T (D + 2) 12 (0, [(0, zr 25), (1, zi (wr (s : Int)))], [], m) (fun r m1 => T (D + 3) 11 (29, [(0, zr 25), (1, zi (v : Int)), (2, zi (s : Int)), (3, zi (wr (s : Int)))], r.toList ++ [], m1) κ))
    (o3 : wr (s : Int) < wr (v : Int) → κ (some (zi (-2))) m) :
    T (D + 3) 11 (4, lo, [zi (s : Int)], m) κ :=
  zkeep hT hlo (hT.1 [(35, [0, 3, 4, 5])] 6 (D + 3) 11 _ κ (And.intro (fun a1 => (hT.1 [(35, [0, 3, 4, 5])] 6 (D + 3) 11 (15, [(0, zr 25), (1, zi (v : Int)), (2, zi (s : Int))], [zi (v : Int), zi (s : Int)], m) _ (hT.1 [] 6 (D + 2) 294 _ _ (And.intro (fun a3 => (hT.1 [(35, [0, 3, 4, 5])] 6 (D + 3) 11 _ _ (o1 a1 a3))) (fun a4 => (hT.1 [(35, [0, 3, 4, 5])] 6 (D + 3) 11 _ _ (o2 a1 a4))))))) (fun a2 => (o3 (Classical.byContradiction a2)))))
theorem zb11_4 (hT : zRules T) {D : Nat} {κ : Option zA → zM → Prop} {m : zM} {v : Nat} {s : Nat} {lo : zL} (hlo : z_keep [0, 1] lo = [(0, zr 25), (1, zi (v : Int))])  (hB : zB m) (h_v : v ≤ 999) (h_s : s ≤ 2160) 
    (k1 : ¬ (s : Int) < (v : Int) → (((v : Int) + 108) - 1) < (s : Int) → T (D + 2) 12 (0, [(0, zr 25), (1, zi (((v : Int) + 108) - 1))], [], m) (fun r m1 => T (D + 3) 11 (29, [(0, zr 25), (1, zi (v : Int)), (2, zi (s : Int)), (3, zi (((v : Int) + 108) - 1))], r.toList ++ [], m1) κ))
    (k2 : ¬ (s : Int) < (v : Int) → ¬ (((v : Int) + 108) - 1) < (s : Int) → T (D + 2) 12 (0, [(0, zr 25), (1, zi (s : Int))], [], m) (fun r m1 => T (D + 3) 11 (29, [(0, zr 25), (1, zi (v : Int)), (2, zi (s : Int)), (3, zi (s : Int))], r.toList ++ [], m1) κ))
    (k3 : (s : Int) < (v : Int) → κ (some (zi (-2))) m) :
    T (D + 3) 11 (4, lo, [zi (s : Int)], m) κ := by
  have he0 : wr (s : Int) = (s : Int) := wr_id (by omega) (by omega)
  have he1 : wr (v : Int) = (v : Int) := wr_id (by omega) (by omega)
  have he2 : wr (((v : Int) + 108) - 1) = (((v : Int) + 108) - 1) := wr_id (by omega) (by omega)
  have key := @zb11_4r T hT D κ m v s lo hlo
  simp only [he0, he1, he2, Int.toNat_natCast] at key
  exact key
    k1
    k2
    k3
theorem zb11_29r (hT : zRules T) {D : Nat} {κ : Option zA → zM → Prop} {m : zM} {v : Nat} {e : Nat} {lo : zL} (hlo : z_keep [0, 1, 3] lo = [(0, zr 25), (1, zi (v : Int)), (3, zi (e : Int))]) 
    (o1 : T (D + 3) 11 (35, [(0, zr 25), (3, zi (e : Int)), (4, zi 0), (5, zi (v : Int))], [], m) κ) :
    T (D + 3) 11 (29, lo, [], m) κ :=
  zkeep hT hlo (hT.1 [(35, [0, 3, 4, 5])] 6 (D + 3) 11 _ κ (o1))
theorem zb11_29 (hT : zRules T) {D : Nat} {κ : Option zA → zM → Prop} {m : zM} {v : Nat} {e : Nat} {lo : zL} (hlo : z_keep [0, 1, 3] lo = [(0, zr 25), (1, zi (v : Int)), (3, zi (e : Int))])  (hB : zB m) (h_v : v ≤ 999) (h_e : e ≤ 1106) 
    (k1 : T (D + 3) 11 (35, [(0, zr 25), (3, zi (e : Int)), (4, zi 0), (5, zi (v : Int))], [], m) κ) :
    T (D + 3) 11 (29, lo, [], m) κ := by
  exact zb11_29r hT hlo
    k1
theorem zb11_35r (hT : zRules T) {D : Nat} {κ : Option zA → zM → Prop} {m : zM} {e : Nat} {f : Nat} {s : Nat} {lo : zL} (hlo : z_keep [0, 3, 4, 5] lo = [(0, zr 25), (3, zi (e : Int)), (4, zi (f : Int)), (5, zi (s : Int))]) 
    (o1 : wr (e : Int) < wr (s : Int) → T (D + 2) 293 (0, [(0, zi ((f : Int) - 1))], [], m) (fun r m1 => T (D + 3) 11 (107, [(0, zr 25), (3, zi (e : Int)), (4, zi (f : Int)), (5, zi (s : Int))], r.toList ++ [], m1) κ))
    (o2 : ¬ wr (e : Int) < wr (s : Int) → (0 ≤ wr (((m 25 2) * 1107) + (s : Int)) ∧ wr (((m 25 2) * 1107) + (s : Int)) < 23247))
    (o3 : ¬ wr (e : Int) < wr (s : Int) → wr (z_and (m 27 ((wr (((m 25 2) * 1107) + (s : Int))).toNat)) (-(m 27 ((wr (((m 25 2) * 1107) + (s : Int))).toNat)))) = 0 → T (D + 3) 11 (35, [(0, zr 25), (3, zi (e : Int)), (4, zi (f : Int)), (5, zi ((s : Int) + 1))], [], m) κ)
    (o4 : ¬ wr (e : Int) < wr (s : Int) → ¬ wr (z_and (m 27 ((wr (((m 25 2) * 1107) + (s : Int))).toNat)) (-(m 27 ((wr (((m 25 2) * 1107) + (s : Int))).toNat)))) = 0 → wr (f : Int) = 0 → T (D + 3) 11 (35, [(0, zr 25), (3, zi (e : Int)), (4, zi (z_and (m 27 ((wr (((m 25 2) * 1107) + (s : Int))).toNat)) (-(m 27 ((wr (((m 25 2) * 1107) + (s : Int))).toNat))))), (5, zi ((s : Int) + 1))], [], (zu m 25 4 (s : Int))) κ)
    (o5 : ¬ wr (e : Int) < wr (s : Int) → ¬ wr (z_and (m 27 ((wr (((m 25 2) * 1107) + (s : Int))).toNat)) (-(m 27 ((wr (((m 25 2) * 1107) + (s : Int))).toNat)))) = 0 → ¬ wr (f : Int) = 0 → ¬ wr (z_and (m 27 ((wr (((m 25 2) * 1107) + (s : Int))).toNat)) (-(m 27 ((wr (((m 25 2) * 1107) + (s : Int))).toNat)))) < wr (f : Int) → T (D + 3) 11 (35, [(0, zr 25), (3, zi (e : Int)), (4, zi (f : Int)), (5, zi ((s : Int) + 1))], [], m) κ)
    (o6 : ¬ wr (e : Int) < wr (s : Int) → ¬ wr (z_and (m 27 ((wr (((m 25 2) * 1107) + (s : Int))).toNat)) (-(m 27 ((wr (((m 25 2) * 1107) + (s : Int))).toNat)))) = 0 → ¬ wr (f : Int) = 0 → wr (z_and (m 27 ((wr (((m 25 2) * 1107) + (s : Int))).toNat)) (-(m 27 ((wr (((m 25 2) * 1107) + (s : Int))).toNat)))) < wr (f : Int) → T (D + 3) 11 (35, [(0, zr 25), (3, zi (e : Int)), (4, zi (z_and (m 27 ((wr (((m 25 2) * 1107) + (s : Int))).toNat)) (-(m 27 ((wr (((m 25 2) * 1107) + (s : Int))).toNat))))), (5, zi ((s : Int) + 1))], [], (zu m 25 4 (s : Int))) κ) :
    T (D + 3) 11 (35, lo, [], m) κ :=
  zkeep hT hlo (hT.1 [(35, [0, 3, 4, 5])] 6 (D + 3) 11 _ κ (And.intro (fun a1 => (hT.1 [(35, [0, 3, 4, 5])] 6 (D + 3) 11 (104, [(0, zr 25), (3, zi (e : Int)), (4, zi (f : Int)), (5, zi (s : Int))], [zi ((f : Int) - 1)], m) _ (o1 a1))) (fun a2 => (hT.1 [(35, [0, 3, 4, 5])] 6 (D + 3) 11 (46, [(0, zr 25), (3, zi (e : Int)), (4, zi (f : Int)), (5, zi (s : Int))], [zr 25, zr 27], m) _ (And.intro (o2 a2) (hT.1 [(35, [0, 3, 4, 5])] 6 (D + 3) 11 (57, [(0, zr 25), (3, zi (e : Int)), (4, zi (f : Int)), (5, zi (s : Int))], [zi (m 27 ((wr (((m 25 2) * 1107) + (s : Int))).toNat))], m) _ (hT.1 [(35, [0, 3, 4, 5])] 6 (D + 3) 11 (67, [(0, zr 25), (3, zi (e : Int)), (4, zi (f : Int)), (5, zi (s : Int)), (6, zi (m 27 ((wr (((m 25 2) * 1107) + (s : Int))).toNat))), (7, zi (z_and (m 27 ((wr (((m 25 2) * 1107) + (s : Int))).toNat)) (-(m 27 ((wr (((m 25 2) * 1107) + (s : Int))).toNat)))))], [], m) _ (And.intro (fun a3 => (o3 a2 a3)) (fun a4 => (And.intro (fun a5 => (hT.1 [(35, [0, 3, 4, 5])] 6 (D + 3) 11 (88, [(0, zr 25), (3, zi (e : Int)), (4, zi (z_and (m 27 ((wr (((m 25 2) * 1107) + (s : Int))).toNat)) (-(m 27 ((wr (((m 25 2) * 1107) + (s : Int))).toNat))))), (5, zi (s : Int)), (6, zi (m 27 ((wr (((m 25 2) * 1107) + (s : Int))).toNat))), (7, zi (z_and (m 27 ((wr (((m 25 2) * 1107) + (s : Int))).toNat)) (-(m 27 ((wr (((m 25 2) * 1107) + (s : Int))).toNat)))))], [], m) _ (And.intro trivial (o4 a2 a4 a5)))) (fun a6 => (hT.1 [(35, [0, 3, 4, 5])] 6 (D + 3) 11 (81, [(0, zr 25), (3, zi (e : Int)), (4, zi (f : Int)), (5, zi (s : Int)), (6, zi (m 27 ((wr (((m 25 2) * 1107) + (s : Int))).toNat))), (7, zi (z_and (m 27 ((wr (((m 25 2) * 1107) + (s : Int))).toNat)) (-(m 27 ((wr (((m 25 2) * 1107) + (s : Int))).toNat)))))], [zi (f : Int), zi (z_and (m 27 ((wr (((m 25 2) * 1107) + (s : Int))).toNat)) (-(m 27 ((wr (((m 25 2) * 1107) + (s : Int))).toNat))))], m) _ (And.intro (fun a7 => (o5 a2 a4 a6 a7)) (fun a8 => (And.intro trivial (hT.1 [(35, [0, 3, 4, 5])] 6 (D + 3) 11 (94, [(0, zr 25), (3, zi (e : Int)), (4, zi (z_and (m 27 ((wr (((m 25 2) * 1107) + (s : Int))).toNat)) (-(m 27 ((wr (((m 25 2) * 1107) + (s : Int))).toNat))))), (5, zi (s : Int)), (6, zi (m 27 ((wr (((m 25 2) * 1107) + (s : Int))).toNat))), (7, zi (z_and (m 27 ((wr (((m 25 2) * 1107) + (s : Int))).toNat)) (-(m 27 ((wr (((m 25 2) * 1107) + (s : Int))).toNat)))))], [], (zu m 25 4 (s : Int))) _ (o6 a2 a4 a6 (Classical.byContradiction a8))))))))))))))))))
theorem zb11_35 (hT : zRules T) {D : Nat} {κ : Option zA → zM → Prop} {m : zM} {e : Nat} {f : Nat} {s : Nat} {lo : zL} (hlo : z_keep [0, 3, 4, 5] lo = [(0, zr 25), (3, zi (e : Int)), (4, zi (f : Int)), (5, zi (s : Int))])  (hB : zB m) (h_e : e ≤ 1106) (h_f : f ≤ 2097152) (h_s : s ≤ 1107) 
    (k1 : (e : Int) < (s : Int) → T (D + 2) 293 (0, [(0, zi ((f : Int) - 1))], [], m) (fun r m1 => T (D + 3) 11 (107, [(0, zr 25), (3, zi (e : Int)), (4, zi (f : Int)), (5, zi (s : Int))], r.toList ++ [], m1) κ))
    (k2 : ¬ (e : Int) < (s : Int) → (z_and (m 27 ((((m 25 2) * 1107) + (s : Int)).toNat)) (-(m 27 ((((m 25 2) * 1107) + (s : Int)).toNat)))) = 0 → T (D + 3) 11 (35, [(0, zr 25), (3, zi (e : Int)), (4, zi (f : Int)), (5, zi ((s : Int) + 1))], [], m) κ)
    (k3 : ¬ (e : Int) < (s : Int) → ¬ (z_and (m 27 ((((m 25 2) * 1107) + (s : Int)).toNat)) (-(m 27 ((((m 25 2) * 1107) + (s : Int)).toNat)))) = 0 → (f : Int) = 0 → zB (zu m 25 4 (s : Int)) → T (D + 3) 11 (35, [(0, zr 25), (3, zi (e : Int)), (4, zi (z_and (m 27 ((((m 25 2) * 1107) + (s : Int)).toNat)) (-(m 27 ((((m 25 2) * 1107) + (s : Int)).toNat))))), (5, zi ((s : Int) + 1))], [], (zu m 25 4 (s : Int))) κ)
    (k4 : ¬ (e : Int) < (s : Int) → ¬ (z_and (m 27 ((((m 25 2) * 1107) + (s : Int)).toNat)) (-(m 27 ((((m 25 2) * 1107) + (s : Int)).toNat)))) = 0 → ¬ (f : Int) = 0 → ¬ (z_and (m 27 ((((m 25 2) * 1107) + (s : Int)).toNat)) (-(m 27 ((((m 25 2) * 1107) + (s : Int)).toNat)))) < (f : Int) → T (D + 3) 11 (35, [(0, zr 25), (3, zi (e : Int)), (4, zi (f : Int)), (5, zi ((s : Int) + 1))], [], m) κ)
    (k5 : ¬ (e : Int) < (s : Int) → ¬ (z_and (m 27 ((((m 25 2) * 1107) + (s : Int)).toNat)) (-(m 27 ((((m 25 2) * 1107) + (s : Int)).toNat)))) = 0 → ¬ (f : Int) = 0 → (z_and (m 27 ((((m 25 2) * 1107) + (s : Int)).toNat)) (-(m 27 ((((m 25 2) * 1107) + (s : Int)).toNat)))) < (f : Int) → zB (zu m 25 4 (s : Int)) → T (D + 3) 11 (35, [(0, zr 25), (3, zi (e : Int)), (4, zi (z_and (m 27 ((((m 25 2) * 1107) + (s : Int)).toNat)) (-(m 27 ((((m 25 2) * 1107) + (s : Int)).toNat))))), (5, zi ((s : Int) + 1))], [], (zu m 25 4 (s : Int))) κ) :
    T (D + 3) 11 (35, lo, [], m) κ := by
  have hb3 : 0 ≤ (m 25 2) ∧ (m 25 2) ≤ 20 := hB 25 2
  have hb4 : (-2147483648) ≤ (z_and (m 27 ((((m 25 2) * 1107) + (s : Int)).toNat)) (-(m 27 ((((m 25 2) * 1107) + (s : Int)).toNat)))) ∧ (z_and (m 27 ((((m 25 2) * 1107) + (s : Int)).toNat)) (-(m 27 ((((m 25 2) * 1107) + (s : Int)).toNat)))) ≤ 2147483647 := z_andB (m 27 ((((m 25 2) * 1107) + (s : Int)).toNat)) (-(m 27 ((((m 25 2) * 1107) + (s : Int)).toNat)))
  have he0 : wr (e : Int) = (e : Int) := wr_id (by omega) (by omega)
  have he1 : wr (s : Int) = (s : Int) := wr_id (by omega) (by omega)
  have he2 : wr (((m 25 2) * 1107) + (s : Int)) = (((m 25 2) * 1107) + (s : Int)) := wr_id (by omega) (by omega)
  have he3 : wr (z_and (m 27 ((((m 25 2) * 1107) + (s : Int)).toNat)) (-(m 27 ((((m 25 2) * 1107) + (s : Int)).toNat)))) = (z_and (m 27 ((((m 25 2) * 1107) + (s : Int)).toNat)) (-(m 27 ((((m 25 2) * 1107) + (s : Int)).toNat)))) := wr_id (by omega) (by omega)
  have he4 : wr (f : Int) = (f : Int) := wr_id (by omega) (by omega)
  have key := @zb11_35r T hT D κ m e f s lo hlo
  simp only [he0, he1, he2, he3, he4, Int.toNat_natCast] at key
  exact key
    k1
    (fun x0 => by refine ⟨?_, ?_⟩ <;> omega)
    k2
    (fun x0 x1 x2 => k3 x0 x1 x2 (zB_u hB trivial))
    k4
    (fun x0 x1 x2 x3 => k5 x0 x1 x2 x3 (zB_u hB trivial))
theorem zb11_107r (hT : zRules T) {D : Nat} {κ : Option zA → zM → Prop} {m : zM} {n : Nat} {lo : zL} (hlo : z_keep [0] lo = [(0, zr 25)]) 
    (o1 : T (D + 2) 13 (0, [(0, zr 25), (1, zi (n : Int)), (2, zi (m 25 4))], [], m) (fun r m1 => T (D + 3) 11 (120, [(0, zr 25), (5, zi (n : Int))], r.toList ++ [zr 25], m1) κ)) :
    T (D + 3) 11 (107, lo, [zi (n : Int)], m) κ :=
  zkeep hT hlo (hT.1 [(35, [0, 3, 4, 5])] 6 (D + 3) 11 _ κ (hT.1 [(35, [0, 3, 4, 5])] 6 (D + 3) 11 (117, [(0, zr 25), (5, zi (n : Int))], [zi (m 25 4), zi (n : Int), zr 25, zr 25], m) _ (o1)))
theorem zb11_107 (hT : zRules T) {D : Nat} {κ : Option zA → zM → Prop} {m : zM} {n : Nat} {lo : zL} (hlo : z_keep [0] lo = [(0, zr 25)])  (hB : zB m) (h_n : n ≤ 20) 
    (k1 : T (D + 2) 13 (0, [(0, zr 25), (1, zi (n : Int)), (2, zi (m 25 4))], [], m) (fun r m1 => T (D + 3) 11 (120, [(0, zr 25), (5, zi (n : Int))], r.toList ++ [zr 25], m1) κ)) :
    T (D + 3) 11 (107, lo, [zi (n : Int)], m) κ := by
  exact zb11_107r hT hlo
    k1
theorem zb11_120r (hT : zRules T) {D : Nat} {κ : Option zA → zM → Prop} {m : zM} {n : Nat} {b : Nat} {lo : zL} (hlo : z_keep [5] lo = [(5, zi (n : Int))]) 
    (o1 : κ (some (zi (wr (n : Int)))) (zu m 25 3 (b : Int))) :
    T (D + 3) 11 (120, lo, [zi (b : Int), zr 25], m) κ :=
  zkeep hT hlo (hT.1 [(35, [0, 3, 4, 5])] 6 (D + 3) 11 _ κ (And.intro trivial (o1)))
theorem zb11_120 (hT : zRules T) {D : Nat} {κ : Option zA → zM → Prop} {m : zM} {n : Nat} {b : Nat} {lo : zL} (hlo : z_keep [5] lo = [(5, zi (n : Int))])  (hB : zB m) (h_n : n ≤ 20) (h_b : b ≤ 1048576) 
    (k1 : zB (zu m 25 3 (b : Int)) → κ (some (zi (n : Int))) (zu m 25 3 (b : Int))) :
    T (D + 3) 11 (120, lo, [zi (b : Int), zr 25], m) κ := by
  have he0 : wr (n : Int) = (n : Int) := wr_id (by omega) (by omega)
  have key := @zb11_120r T hT D κ m n b lo hlo
  simp only [he0, Int.toNat_natCast] at key
  exact key
    (k1  (zB_u hB trivial))
theorem zb12_0r (hT : zRules T) {D : Nat} {κ : Option zA → zM → Prop} {m : zM} {e : Nat} 
    (o1 : T (D + 1) 12 (2, [(0, zr 25), (1, zi (e : Int)), (2, zi 0)], [], m) κ) :
    T (D + 1) 12 (0, [(0, zr 25), (1, zi (e : Int))], [], m) κ :=
  hT.1 [(2, [0, 1, 2]), (30, [0, 1, 2]), (47, [0, 1, 2, 3, 4])] 6 (D + 1) 12 _ κ (o1)
theorem zb12_0 (hT : zRules T) {D : Nat} {κ : Option zA → zM → Prop} {m : zM} {e : Nat}  (hB : zB m) (h_e : e ≤ 1106) 
    (k1 : T (D + 1) 12 (2, [(0, zr 25), (1, zi (e : Int)), (2, zi 0)], [], m) κ) :
    T (D + 1) 12 (0, [(0, zr 25), (1, zi (e : Int))], [], m) κ := by
  exact zb12_0r hT
    k1
theorem zb12_2r (hT : zRules T) {D : Nat} {κ : Option zA → zM → Prop} {m : zM} {e : Nat} {i : Nat} {lo : zL} (hlo : z_keep [0, 1, 2] lo = [(0, zr 25), (1, zi (e : Int)), (2, zi (i : Int))]) 
    (o1 : wr (e : Int) < wr (i : Int) → T (D + 1) 12 (30, [(0, zr 25), (1, zi (e : Int)), (2, zi 0)], [], m) κ)
    (o2 : ¬ wr (e : Int) < wr (i : Int) → ¬ wr (i : Int) = 0 → (0 ≤ wr (i : Int) ∧ wr (i : Int) < 23247))
    (o3 : ¬ wr (e : Int) < wr (i : Int) → ¬ wr (i : Int) = 0 → T (D + 1) 12 (2, [(0, zr 25), (1, zi (e : Int)), (2, zi ((i : Int) + 1))], [], (zu m 27 ((wr (i : Int)).toNat) 0)) κ)
    (o4 : ¬ wr (e : Int) < wr (i : Int) → wr (i : Int) = 0 → (0 ≤ wr (i : Int) ∧ wr (i : Int) < 23247))
    (o5 : ¬ wr (e : Int) < wr (i : Int) → wr (i : Int) = 0 → T (D + 1) 12 (2, [(0, zr 25), (1, zi (e : Int)), (2, zi ((i : Int) + 1))], [], (zu m 27 ((wr (i : Int)).toNat) 1)) κ) :
    T (D + 1) 12 (2, lo, [], m) κ :=
  zkeep hT hlo (hT.1 [(2, [0, 1, 2]), (30, [0, 1, 2]), (47, [0, 1, 2, 3, 4])] 6 (D + 1) 12 _ κ (And.intro (fun a1 => (o1 a1)) (fun a2 => (hT.1 [(2, [0, 1, 2]), (30, [0, 1, 2]), (47, [0, 1, 2, 3, 4])] 6 (D + 1) 12 (12, [(0, zr 25), (1, zi (e : Int)), (2, zi (i : Int))], [zi (i : Int), zr 27], m) _ (And.intro (fun a3 => (And.intro (And.intro (o2 a2 a3) trivial) (o3 a2 a3))) (fun a4 => (And.intro (And.intro (o4 a2 (Classical.byContradiction a4)) trivial) (hT.1 [(2, [0, 1, 2]), (30, [0, 1, 2]), (47, [0, 1, 2, 3, 4])] 6 (D + 1) 12 (25, [(0, zr 25), (1, zi (e : Int)), (2, zi ((i : Int) + 1))], [], (zu m 27 ((wr (i : Int)).toNat) 1)) _ (o5 a2 (Classical.byContradiction a4))))))))))
theorem zb12_2 (hT : zRules T) {D : Nat} {κ : Option zA → zM → Prop} {m : zM} {e : Nat} {i : Nat} {lo : zL} (hlo : z_keep [0, 1, 2] lo = [(0, zr 25), (1, zi (e : Int)), (2, zi (i : Int))])  (hB : zB m) (h_e : e ≤ 1106) (h_i : i ≤ 1107) 
    (k1 : (e : Int) < (i : Int) → T (D + 1) 12 (30, [(0, zr 25), (1, zi (e : Int)), (2, zi 0)], [], m) κ)
    (k2 : ¬ (e : Int) < (i : Int) → ¬ (i : Int) = 0 → zB (zu m 27 i 0) → T (D + 1) 12 (2, [(0, zr 25), (1, zi (e : Int)), (2, zi ((i : Int) + 1))], [], (zu m 27 i 0)) κ)
    (k3 : ¬ (e : Int) < (i : Int) → (i : Int) = 0 → zB (zu m 27 i 1) → T (D + 1) 12 (2, [(0, zr 25), (1, zi (e : Int)), (2, zi ((i : Int) + 1))], [], (zu m 27 i 1)) κ) :
    T (D + 1) 12 (2, lo, [], m) κ := by
  have he0 : wr (e : Int) = (e : Int) := wr_id (by omega) (by omega)
  have he1 : wr (i : Int) = (i : Int) := wr_id (by omega) (by omega)
  have he2 : (i : Int).toNat = i := by omega
  have key := @zb12_2r T hT D κ m e i lo hlo
  simp only [he0, he1, he2, Int.toNat_natCast] at key
  exact key
    k1
    (fun x0 x1 => by refine ⟨?_, ?_⟩ <;> omega)
    (fun x0 x1 => k2 x0 x1 (zB_u hB trivial))
    (fun x0 x1 => by refine ⟨?_, ?_⟩ <;> omega)
    (fun x0 x1 => k3 x0 x1 (zB_u hB trivial))
theorem zb12_30r (hT : zRules T) {D : Nat} {κ : Option zA → zM → Prop} {m : zM} {e : Nat} {i : Nat} {lo : zL} (hlo : z_keep [0, 1, 2] lo = [(0, zr 25), (1, zi (e : Int)), (2, zi (i : Int))]) 
    (o1 : ¬ wr (i : Int) < wr (m 25 2) → κ (none) m)
    (o2 : wr (i : Int) < wr (m 25 2) → T (D + 1) 12 (47, [(0, zr 25), (1, zi (e : Int)), (2, zi (i : Int)), (3, zi ((i : Int) * 1107)), (4, zi 0)], [], m) κ) :
    T (D + 1) 12 (30, lo, [], m) κ :=
  zkeep hT hlo (hT.1 [(2, [0, 1, 2]), (30, [0, 1, 2]), (47, [0, 1, 2, 3, 4])] 6 (D + 1) 12 _ κ (And.intro (fun a1 => (o1 a1)) (fun a2 => (hT.1 [(2, [0, 1, 2]), (30, [0, 1, 2]), (47, [0, 1, 2, 3, 4])] 6 (D + 1) 12 (42, [(0, zr 25), (1, zi (e : Int)), (2, zi (i : Int))], [zi 1107, zi (i : Int)], m) _ (o2 (Classical.byContradiction a2))))))
theorem zb12_30 (hT : zRules T) {D : Nat} {κ : Option zA → zM → Prop} {m : zM} {e : Nat} {i : Nat} {lo : zL} (hlo : z_keep [0, 1, 2] lo = [(0, zr 25), (1, zi (e : Int)), (2, zi (i : Int))])  (hB : zB m) (h_e : e ≤ 1106) (h_i : i ≤ 20) 
    (k1 : ¬ (i : Int) < (m 25 2) → κ (none) m)
    (k2 : (i : Int) < (m 25 2) → T (D + 1) 12 (47, [(0, zr 25), (1, zi (e : Int)), (2, zi (i : Int)), (3, zi ((i : Int) * 1107)), (4, zi 0)], [], m) κ) :
    T (D + 1) 12 (30, lo, [], m) κ := by
  have hb2 : 0 ≤ (m 25 2) ∧ (m 25 2) ≤ 20 := hB 25 2
  have he0 : wr (i : Int) = (i : Int) := wr_id (by omega) (by omega)
  have he1 : wr (m 25 2) = (m 25 2) := wr_id (by omega) (by omega)
  have key := @zb12_30r T hT D κ m e i lo hlo
  simp only [he0, he1, Int.toNat_natCast] at key
  exact key
    k1
    k2
theorem zb12_47r (hT : zRules T) {D : Nat} {κ : Option zA → zM → Prop} {m : zM} {e : Nat} {i : Nat} {f : Nat} {s : Nat} {lo : zL} (hlo : z_keep [0, 1, 2, 3, 4] lo = [(0, zr 25), (1, zi (e : Int)), (2, zi (i : Int)), (3, zi (f : Int)), (4, zi (s : Int))]) 
    (o1 : wr (e : Int) < wr (s : Int) → T (D + 1) 12 (30, [(0, zr 25), (1, zi (e : Int)), (2, zi ((i : Int) + 1))], [], m) κ)
    (o2 : ¬ wr (e : Int) < wr (s : Int) → (0 ≤ wr ((f : Int) + (s : Int)) ∧ wr ((f : Int) + (s : Int)) < 23247))
    (o3 : ¬ wr (e : Int) < wr (s : Int) → (0 ≤ wr (i : Int) ∧ wr (i : Int) < 20))
    (o4 : ¬ wr (e : Int) < wr (s : Int) → wr (s : Int) < wr (m 26 ((wr (i : Int)).toNat)) → (0 ≤ wr (((f : Int) + 1107) + (s : Int)) ∧ wr (((f : Int) + 1107) + (s : Int)) < 23247))
    (o5 : ¬ wr (e : Int) < wr (s : Int) → wr (s : Int) < wr (m 26 ((wr (i : Int)).toNat)) → T (D + 1) 12 (47, [(0, zr 25), (1, zi (e : Int)), (2, zi (i : Int)), (3, zi (f : Int)), (4, zi ((s : Int) + 1))], [], (zu m 27 ((wr (((f : Int) + 1107) + (s : Int))).toNat) (m 27 ((wr ((f : Int) + (s : Int))).toNat)))) κ)
    (o6 : ¬ wr (e : Int) < wr (s : Int) → ¬ wr (s : Int) < wr (m 26 ((wr (i : Int)).toNat)) → (0 ≤ wr (i : Int) ∧ wr (i : Int) < 20))
    (o7 : ¬ wr (e : Int) < wr (s : Int) → ¬ wr (s : Int) < wr (m 26 ((wr (i : Int)).toNat)) → (0 ≤ wr (((f : Int) + (s : Int)) - (m 26 ((wr (i : Int)).toNat))) ∧ wr (((f : Int) + (s : Int)) - (m 26 ((wr (i : Int)).toNat))) < 23247))
    (o8 : ¬ wr (e : Int) < wr (s : Int) → ¬ wr (s : Int) < wr (m 26 ((wr (i : Int)).toNat)) → (0 ≤ wr (((f : Int) + 1107) + (s : Int)) ∧ wr (((f : Int) + 1107) + (s : Int)) < 23247))
    (o9 : ¬ wr (e : Int) < wr (s : Int) → ¬ wr (s : Int) < wr (m 26 ((wr (i : Int)).toNat)) → T (D + 1) 12 (47, [(0, zr 25), (1, zi (e : Int)), (2, zi (i : Int)), (3, zi (f : Int)), (4, zi ((s : Int) + 1))], [], (zu m 27 ((wr (((f : Int) + 1107) + (s : Int))).toNat) (z_or (m 27 ((wr ((f : Int) + (s : Int))).toNat)) (z_shl (m 27 ((wr (((f : Int) + (s : Int)) - (m 26 ((wr (i : Int)).toNat)))).toNat)) 1)))) κ) :
    T (D + 1) 12 (47, lo, [], m) κ :=
  zkeep hT hlo (hT.1 [(2, [0, 1, 2]), (30, [0, 1, 2]), (47, [0, 1, 2, 3, 4])] 6 (D + 1) 12 _ κ (And.intro (fun a1 => (o1 a1)) (fun a2 => (hT.1 [(2, [0, 1, 2]), (30, [0, 1, 2]), (47, [0, 1, 2, 3, 4])] 6 (D + 1) 12 (58, [(0, zr 25), (1, zi (e : Int)), (2, zi (i : Int)), (3, zi (f : Int)), (4, zi (s : Int))], [zi (f : Int), zr 27], m) _ (And.intro (o2 a2) (hT.1 [(2, [0, 1, 2]), (30, [0, 1, 2]), (47, [0, 1, 2, 3, 4])] 6 (D + 1) 12 (67, [(0, zr 25), (1, zi (e : Int)), (2, zi (i : Int)), (3, zi (f : Int)), (4, zi (s : Int)), (5, zi (m 27 ((wr ((f : Int) + (s : Int))).toNat)))], [zr 25, zi (s : Int)], m) _ (And.intro (o3 a2) (And.intro (fun a3 => (hT.1 [(2, [0, 1, 2]), (30, [0, 1, 2]), (47, [0, 1, 2, 3, 4])] 6 (D + 1) 12 (102, [(0, zr 25), (1, zi (e : Int)), (2, zi (i : Int)), (3, zi (f : Int)), (4, zi (s : Int)), (5, zi (m 27 ((wr ((f : Int) + (s : Int))).toNat)))], [zr 27], m) _ (hT.1 [(2, [0, 1, 2]), (30, [0, 1, 2]), (47, [0, 1, 2, 3, 4])] 6 (D + 1) 12 (112, [(0, zr 25), (1, zi (e : Int)), (2, zi (i : Int)), (3, zi (f : Int)), (4, zi (s : Int)), (5, zi (m 27 ((wr ((f : Int) + (s : Int))).toNat)))], [zi (m 27 ((wr ((f : Int) + (s : Int))).toNat)), zi (((f : Int) + 1107) + (s : Int)), zr 27], m) _ (And.intro (And.intro (o4 a2 a3) trivial) (o5 a2 a3))))) (fun a4 => (hT.1 [(2, [0, 1, 2]), (30, [0, 1, 2]), (47, [0, 1, 2, 3, 4])] 6 (D + 1) 12 (78, [(0, zr 25), (1, zi (e : Int)), (2, zi (i : Int)), (3, zi (f : Int)), (4, zi (s : Int)), (5, zi (m 27 ((wr ((f : Int) + (s : Int))).toNat)))], [zr 25, zi (m 27 ((wr ((f : Int) + (s : Int))).toNat))], m) _ (hT.1 [(2, [0, 1, 2]), (30, [0, 1, 2]), (47, [0, 1, 2, 3, 4])] 6 (D + 1) 12 (89, [(0, zr 25), (1, zi (e : Int)), (2, zi (i : Int)), (3, zi (f : Int)), (4, zi (s : Int)), (5, zi (m 27 ((wr ((f : Int) + (s : Int))).toNat)))], [zr 26, zi ((f : Int) + (s : Int)), zr 27, zi (m 27 ((wr ((f : Int) + (s : Int))).toNat))], m) _ (And.intro (o6 a2 a4) (And.intro (o7 a2 a4) (hT.1 [(2, [0, 1, 2]), (30, [0, 1, 2]), (47, [0, 1, 2, 3, 4])] 6 (D + 1) 12 (95, [(0, zr 25), (1, zi (e : Int)), (2, zi (i : Int)), (3, zi (f : Int)), (4, zi (s : Int)), (5, zi (m 27 ((wr ((f : Int) + (s : Int))).toNat)))], [zi (z_shl (m 27 ((wr (((f : Int) + (s : Int)) - (m 26 ((wr (i : Int)).toNat)))).toNat)) 1), zi (m 27 ((wr ((f : Int) + (s : Int))).toNat))], m) _ (hT.1 [(2, [0, 1, 2]), (30, [0, 1, 2]), (47, [0, 1, 2, 3, 4])] 6 (D + 1) 12 (106, [(0, zr 25), (1, zi (e : Int)), (2, zi (i : Int)), (3, zi (f : Int)), (4, zi (s : Int)), (5, zi (z_or (m 27 ((wr ((f : Int) + (s : Int))).toNat)) (z_shl (m 27 ((wr (((f : Int) + (s : Int)) - (m 26 ((wr (i : Int)).toNat)))).toNat)) 1)))], [zi 1107, zi (f : Int), zr 27], m) _ (And.intro (And.intro (o8 a2 a4) trivial) (hT.1 [(2, [0, 1, 2]), (30, [0, 1, 2]), (47, [0, 1, 2, 3, 4])] 6 (D + 1) 12 (116, [(0, zr 25), (1, zi (e : Int)), (2, zi (i : Int)), (3, zi (f : Int)), (4, zi ((s : Int) + 1)), (5, zi (z_or (m 27 ((wr ((f : Int) + (s : Int))).toNat)) (z_shl (m 27 ((wr (((f : Int) + (s : Int)) - (m 26 ((wr (i : Int)).toNat)))).toNat)) 1)))], [], (zu m 27 ((wr (((f : Int) + 1107) + (s : Int))).toNat) (z_or (m 27 ((wr ((f : Int) + (s : Int))).toNat)) (z_shl (m 27 ((wr (((f : Int) + (s : Int)) - (m 26 ((wr (i : Int)).toNat)))).toNat)) 1)))) _ (o9 a2 a4))))))))))))))))))
theorem zb12_47 (hT : zRules T) {D : Nat} {κ : Option zA → zM → Prop} {m : zM} {e : Nat} {i : Nat} {f : Nat} {s : Nat} {lo : zL} (hlo : z_keep [0, 1, 2, 3, 4] lo = [(0, zr 25), (1, zi (e : Int)), (2, zi (i : Int)), (3, zi (f : Int)), (4, zi (s : Int))])  (hB : zB m) (h_e : e ≤ 1106) (h_i : i ≤ 19) (h_f : f ≤ 21033) (h_s : s ≤ 1107) 
    (k1 : (e : Int) < (s : Int) → T (D + 1) 12 (30, [(0, zr 25), (1, zi (e : Int)), (2, zi ((i : Int) + 1))], [], m) κ)
    (k2 : ¬ (e : Int) < (s : Int) → (s : Int) < (m 26 i) → zB (zu m 27 (f + s + 1107) (m 27 (f + s))) → T (D + 1) 12 (47, [(0, zr 25), (1, zi (e : Int)), (2, zi (i : Int)), (3, zi (f : Int)), (4, zi ((s : Int) + 1))], [], (zu m 27 (f + s + 1107) (m 27 (f + s)))) κ)
    (k3 : ¬ (e : Int) < (s : Int) → ¬ (s : Int) < (m 26 i) → zB (zu m 27 (f + s + 1107) (z_or (m 27 (f + s)) (z_shl (m 27 ((((f : Int) + (s : Int)) - (m 26 i)).toNat)) 1))) → T (D + 1) 12 (47, [(0, zr 25), (1, zi (e : Int)), (2, zi (i : Int)), (3, zi (f : Int)), (4, zi ((s : Int) + 1))], [], (zu m 27 (f + s + 1107) (z_or (m 27 (f + s)) (z_shl (m 27 ((((f : Int) + (s : Int)) - (m 26 i)).toNat)) 1)))) κ) :
    T (D + 1) 12 (47, lo, [], m) κ := by
  have hb4 : 0 ≤ (m 26 i) ∧ (m 26 i) ≤ 108 := hB 26 i
  have hb5 : (-2147483648) ≤ (z_shl (m 27 ((((f : Int) + (s : Int)) - (m 26 i)).toNat)) 1) ∧ (z_shl (m 27 ((((f : Int) + (s : Int)) - (m 26 i)).toNat)) 1) ≤ 2147483647 := z_shlB (m 27 ((((f : Int) + (s : Int)) - (m 26 i)).toNat)) 1
  have hb6 : (-2147483648) ≤ (z_or (m 27 (f + s)) (z_shl (m 27 ((((f : Int) + (s : Int)) - (m 26 i)).toNat)) 1)) ∧ (z_or (m 27 (f + s)) (z_shl (m 27 ((((f : Int) + (s : Int)) - (m 26 i)).toNat)) 1)) ≤ 2147483647 := z_orB (m 27 (f + s)) (z_shl (m 27 ((((f : Int) + (s : Int)) - (m 26 i)).toNat)) 1)
  have he0 : wr (e : Int) = (e : Int) := wr_id (by omega) (by omega)
  have he1 : wr (s : Int) = (s : Int) := wr_id (by omega) (by omega)
  have he2 : wr ((f : Int) + (s : Int)) = ((f : Int) + (s : Int)) := wr_id (by omega) (by omega)
  have he3 : ((f : Int) + (s : Int)).toNat = f + s := by omega
  have he4 : wr (i : Int) = (i : Int) := wr_id (by omega) (by omega)
  have he5 : (i : Int).toNat = i := by omega
  have he6 : wr (m 26 i) = (m 26 i) := wr_id (by omega) (by omega)
  have he7 : wr (((f : Int) + 1107) + (s : Int)) = (((f : Int) + 1107) + (s : Int)) := wr_id (by omega) (by omega)
  have he8 : (((f : Int) + 1107) + (s : Int)).toNat = f + s + 1107 := by omega
  have he9 : wr (((f : Int) + (s : Int)) - (m 26 i)) = (((f : Int) + (s : Int)) - (m 26 i)) := wr_id (by omega) (by omega)
  have key := @zb12_47r T hT D κ m e i f s lo hlo
  simp only [he0, he1, he2, he3, he4, he5, he6, he7, he8, he9, Int.toNat_natCast] at key
  exact key
    k1
    (fun x0 => by refine ⟨?_, ?_⟩ <;> omega)
    (fun x0 => by refine ⟨?_, ?_⟩ <;> omega)
    (fun x0 x1 => by refine ⟨?_, ?_⟩ <;> omega)
    (fun x0 x1 => k2 x0 x1 (zB_u hB trivial))
    (fun x0 x1 => by refine ⟨?_, ?_⟩ <;> omega)
    (fun x0 x1 => by refine ⟨?_, ?_⟩ <;> omega)
    (fun x0 x1 => by refine ⟨?_, ?_⟩ <;> omega)
    (fun x0 x1 => k3 x0 x1 (zB_u hB trivial))
theorem zb13_0r (hT : zRules T) {D : Nat} {κ : Option zA → zM → Prop} {m : zM} {w : Nat} {l : Nat} 
    (o1 : T (D + 1) 13 (16, [(0, zr 25), (3, zi 0), (4, zi (w : Int)), (5, zi (l : Int)), (6, zi ((m 25 2) - 1))], [], m) κ) :
    T (D + 1) 13 (0, [(0, zr 25), (1, zi (w : Int)), (2, zi (l : Int))], [], m) κ :=
  hT.1 [(16, [0, 3, 4, 5, 6])] 6 (D + 1) 13 _ κ (hT.1 [(16, [0, 3, 4, 5, 6])] 6 (D + 1) 13 (8, [(0, zr 25), (1, zi (w : Int)), (2, zi (l : Int)), (3, zi 0), (4, zi (w : Int)), (5, zi (l : Int))], [], m) _ (o1))
theorem zb13_0 (hT : zRules T) {D : Nat} {κ : Option zA → zM → Prop} {m : zM} {w : Nat} {l : Nat}  (hB : zB m) (h_w : w ≤ 20) (h_l : l ≤ 1106) 
    (k1 : T (D + 1) 13 (16, [(0, zr 25), (3, zi 0), (4, zi (w : Int)), (5, zi (l : Int)), (6, zi ((m 25 2) - 1))], [], m) κ) :
    T (D + 1) 13 (0, [(0, zr 25), (1, zi (w : Int)), (2, zi (l : Int))], [], m) κ := by
  have hb2 : 0 ≤ (m 25 2) ∧ (m 25 2) ≤ 20 := hB 25 2
  exact zb13_0r hT
    k1
theorem zb13_16r (hT : zRules T) {D : Nat} {κ : Option zA → zM → Prop} {m : zM} {b : Nat} {w : Nat} {l : Nat} {i : Int} {lo : zL} (hlo : z_keep [0, 3, 4, 5, 6] lo = [(0, zr 25), (3, zi (b : Int)), (4, zi (w : Int)), (5, zi (l : Int)), (6, zi i)]) 
    (o1 : wr i < 0 → κ (some (zi (wr (b : Int)))) m)
    (o2 : ¬ wr i < 0 → (0 ≤ wr ((i * 1107) + (l : Int)) ∧ wr ((i * 1107) + (l : Int)) < 23247))
    (o3 : ¬ wr i < 0 → ¬ wr (z_and (z_shr (m 27 ((wr ((i * 1107) + (l : Int))).toNat)) (w : Int)) 1) = 0 → T (D + 1) 13 (16, [(0, zr 25), (3, zi (b : Int)), (4, zi (w : Int)), (5, zi (l : Int)), (6, zi (i + (-1)))], [], m) κ)
    (o4 : ¬ wr i < 0 → wr (z_and (z_shr (m 27 ((wr ((i * 1107) + (l : Int))).toNat)) (w : Int)) 1) = 0 → (0 ≤ wr i ∧ wr i < 20))
    (o5 : ¬ wr i < 0 → wr (z_and (z_shr (m 27 ((wr ((i * 1107) + (l : Int))).toNat)) (w : Int)) 1) = 0 → wr (l : Int) < wr (m 26 ((wr i).toNat)) → T (D + 1) 13 (16, [(0, zr 25), (3, zi (b : Int)), (4, zi (w : Int)), (5, zi (l : Int)), (6, zi (i + (-1)))], [], m) κ)
    (o6 : ¬ wr i < 0 → wr (z_and (z_shr (m 27 ((wr ((i * 1107) + (l : Int))).toNat)) (w : Int)) 1) = 0 → ¬ wr (l : Int) < wr (m 26 ((wr i).toNat)) → (0 ≤ wr i ∧ wr i < 20))
    (o7 : ¬ wr i < 0 → wr (z_and (z_shr (m 27 ((wr ((i * 1107) + (l : Int))).toNat)) (w : Int)) 1) = 0 → ¬ wr (l : Int) < wr (m 26 ((wr i).toNat)) → T (D + 1) 13 (16, [(0, zr 25), (3, zi (z_or (b : Int) (z_shl 1 i))), (4, zi ((w : Int) + (-1))), (5, zi ((l : Int) - (m 26 ((wr i).toNat)))), (6, zi (i + (-1)))], [], m) κ) :
    T (D + 1) 13 (16, lo, [], m) κ :=
  zkeep hT hlo (hT.1 [(16, [0, 3, 4, 5, 6])] 6 (D + 1) 13 _ κ (And.intro (fun a1 => (o1 a1)) (fun a2 => (hT.1 [(16, [0, 3, 4, 5, 6])] 6 (D + 1) 13 (30, [(0, zr 25), (3, zi (b : Int)), (4, zi (w : Int)), (5, zi (l : Int)), (6, zi i)], [zi 1107, zi i, zr 27], m) _ (And.intro (o2 a2) (hT.1 [(16, [0, 3, 4, 5, 6])] 6 (D + 1) 13 (38, [(0, zr 25), (3, zi (b : Int)), (4, zi (w : Int)), (5, zi (l : Int)), (6, zi i)], [zi (z_shr (m 27 ((wr ((i * 1107) + (l : Int))).toNat)) (w : Int))], m) _ (And.intro (fun a3 => (o3 a2 a3)) (fun a4 => (hT.1 [(16, [0, 3, 4, 5, 6])] 6 (D + 1) 13 (49, [(0, zr 25), (3, zi (b : Int)), (4, zi (w : Int)), (5, zi (l : Int)), (6, zi i)], [zr 26, zi (l : Int)], m) _ (And.intro (o4 a2 (Classical.byContradiction a4)) (And.intro (fun a5 => (o5 a2 (Classical.byContradiction a4) a5)) (fun a6 => (hT.1 [(16, [0, 3, 4, 5, 6])] 6 (D + 1) 13 (59, [(0, zr 25), (3, zi (b : Int)), (4, zi (w : Int)), (5, zi (l : Int)), (6, zi i)], [zi i, zi 1, zi (b : Int)], m) _ (hT.1 [(16, [0, 3, 4, 5, 6])] 6 (D + 1) 13 (68, [(0, zr 25), (3, zi (z_or (b : Int) (z_shl 1 i))), (4, zi ((w : Int) + (-1))), (5, zi (l : Int)), (6, zi i)], [zr 25, zi (l : Int)], m) _ (And.intro (o6 a2 (Classical.byContradiction a4) a6) (hT.1 [(16, [0, 3, 4, 5, 6])] 6 (D + 1) 13 (80, [(0, zr 25), (3, zi (z_or (b : Int) (z_shl 1 i))), (4, zi ((w : Int) + (-1))), (5, zi ((l : Int) - (m 26 ((wr i).toNat)))), (6, zi (i + (-1)))], [], m) _ (o7 a2 (Classical.byContradiction a4) a6)))))))))))))))))
theorem zb13_16 (hT : zRules T) {D : Nat} {κ : Option zA → zM → Prop} {m : zM} {b : Nat} {w : Nat} {l : Nat} {i : Int} {lo : zL} (hlo : z_keep [0, 3, 4, 5, 6] lo = [(0, zr 25), (3, zi (b : Int)), (4, zi (w : Int)), (5, zi (l : Int)), (6, zi i)])  (hB : zB m) (h_b : b ≤ 1048576) (h_w : w ≤ 20) (h_l : l ≤ 1106) (h_i : (-1) ≤ i ∧ i ≤ 19) 
    (k1 : i < 0 → κ (some (zi (b : Int))) m)
    (k2 : ¬ i < 0 → ¬ (z_and (z_shr (m 27 (((i * 1107) + (l : Int)).toNat)) (w : Int)) 1) = 0 → T (D + 1) 13 (16, [(0, zr 25), (3, zi (b : Int)), (4, zi (w : Int)), (5, zi (l : Int)), (6, zi (i + (-1)))], [], m) κ)
    (k3 : ¬ i < 0 → (z_and (z_shr (m 27 (((i * 1107) + (l : Int)).toNat)) (w : Int)) 1) = 0 → (l : Int) < (m 26 (i.toNat)) → T (D + 1) 13 (16, [(0, zr 25), (3, zi (b : Int)), (4, zi (w : Int)), (5, zi (l : Int)), (6, zi (i + (-1)))], [], m) κ)
    (k4 : ¬ i < 0 → (z_and (z_shr (m 27 (((i * 1107) + (l : Int)).toNat)) (w : Int)) 1) = 0 → ¬ (l : Int) < (m 26 (i.toNat)) → T (D + 1) 13 (16, [(0, zr 25), (3, zi (z_or (b : Int) (z_shl 1 i))), (4, zi ((w : Int) + (-1))), (5, zi ((l : Int) - (m 26 (i.toNat)))), (6, zi (i + (-1)))], [], m) κ) :
    T (D + 1) 13 (16, lo, [], m) κ := by
  have hb4 : (-2147483648) ≤ (z_shr (m 27 (((i * 1107) + (l : Int)).toNat)) (w : Int)) ∧ (z_shr (m 27 (((i * 1107) + (l : Int)).toNat)) (w : Int)) ≤ 2147483647 := z_shrB (m 27 (((i * 1107) + (l : Int)).toNat)) (w : Int)
  have hb5 : 0 ≤ (z_and (z_shr (m 27 (((i * 1107) + (l : Int)).toNat)) (w : Int)) 1) ∧ (z_and (z_shr (m 27 (((i * 1107) + (l : Int)).toNat)) (w : Int)) 1) ≤ 1 := z_andC (z_shr (m 27 (((i * 1107) + (l : Int)).toNat)) (w : Int)) 1 (by decide)
  have hb6 : 0 ≤ (m 26 (i.toNat)) ∧ (m 26 (i.toNat)) ≤ 108 := hB 26 (i.toNat)
  have hb7 : (-2147483648) ≤ (z_shl 1 i) ∧ (z_shl 1 i) ≤ 2147483647 := z_shlB 1 i
  have hb8 : (-2147483648) ≤ (z_or (b : Int) (z_shl 1 i)) ∧ (z_or (b : Int) (z_shl 1 i)) ≤ 2147483647 := z_orB (b : Int) (z_shl 1 i)
  have he0 : wr i = i := wr_id (by omega) (by omega)
  have he1 : wr (b : Int) = (b : Int) := wr_id (by omega) (by omega)
  have he2 : wr ((i * 1107) + (l : Int)) = ((i * 1107) + (l : Int)) := wr_id (by omega) (by omega)
  have he3 : wr (z_and (z_shr (m 27 (((i * 1107) + (l : Int)).toNat)) (w : Int)) 1) = (z_and (z_shr (m 27 (((i * 1107) + (l : Int)).toNat)) (w : Int)) 1) := wr_id (by omega) (by omega)
  have he4 : wr (l : Int) = (l : Int) := wr_id (by omega) (by omega)
  have he5 : wr (m 26 (i.toNat)) = (m 26 (i.toNat)) := wr_id (by omega) (by omega)
  have key := @zb13_16r T hT D κ m b w l i lo hlo
  simp only [he0, he1, he2, he3, he4, he5, Int.toNat_natCast] at key
  exact key
    k1
    (fun x0 => by refine ⟨?_, ?_⟩ <;> omega)
    k2
    (fun x0 x1 => by refine ⟨?_, ?_⟩ <;> omega)
    k3
    (fun x0 x1 x2 => by refine ⟨?_, ?_⟩ <;> omega)
    k4
theorem zb245_0r (hT : zRules T) {D : Nat} {κ : Option zA → zM → Prop} {m : zM} {v : Nat} 
    (o1 : T (D + 1) 245 (10, [(0, zr 74), (1, zi (v : Int)), (2, zi (m 75 56)), (3, zi 0)], [], m) κ) :
    T (D + 1) 245 (0, [(0, zr 74), (1, zi (v : Int))], [], m) κ :=
  hT.1 [(10, [0, 1, 2, 3]), (18, [0, 1, 2, 3, 4]), (93, [0, 1, 2, 3, 4])] 6 (D + 1) 245 _ κ (And.intro (z_ixL rfl) (hT.1 [(10, [0, 1, 2, 3]), (18, [0, 1, 2, 3, 4]), (93, [0, 1, 2, 3, 4])] 6 (D + 1) 245 (9, [(0, zr 74), (1, zi (v : Int)), (2, zi (m 75 56))], [zi 0], m) _ (o1)))
theorem zb245_0 (hT : zRules T) {D : Nat} {κ : Option zA → zM → Prop} {m : zM} {v : Nat}  (hB : zB m) (h_v : v ≤ 999) 
    (k1 : T (D + 1) 245 (10, [(0, zr 74), (1, zi (v : Int)), (2, zi (m 75 56)), (3, zi 0)], [], m) κ) :
    T (D + 1) 245 (0, [(0, zr 74), (1, zi (v : Int))], [], m) κ := by
  have hb1 : 0 ≤ (m 75 56) ∧ (m 75 56) ≤ 20 := hB 75 56
  exact zb245_0r hT
    k1
theorem zb245_10r (hT : zRules T) {D : Nat} {κ : Option zA → zM → Prop} {m : zM} {v : Nat} {n : Nat} {i : Nat} {lo : zL} (hlo : z_keep [0, 1, 2, 3] lo = [(0, zr 74), (1, zi (v : Int)), (2, zi (n : Int)), (3, zi (i : Int))]) 
    (o1 : ¬ wr (i : Int) < wr (n : Int) → T (D + 1) 245 (93, [(0, zr 74), (1, zi (v : Int)), (2, zi (n : Int)), (3, zi 0), (4, zi 0)], [], m) κ)
    (o2 : wr (i : Int) < wr (n : Int) → T (D + 1) 245 (18, [(0, zr 74), (1, zi (v : Int)), (2, zi (n : Int)), (3, zi (i : Int)), (4, zi (i : Int))], [], m) κ) :
    T (D + 1) 245 (10, lo, [], m) κ :=
  zkeep hT hlo (hT.1 [(10, [0, 1, 2, 3]), (18, [0, 1, 2, 3, 4]), (93, [0, 1, 2, 3, 4])] 6 (D + 1) 245 _ κ (And.intro (fun a1 => (hT.1 [(10, [0, 1, 2, 3]), (18, [0, 1, 2, 3, 4]), (93, [0, 1, 2, 3, 4])] 6 (D + 1) 245 (91, [(0, zr 74), (1, zi (v : Int)), (2, zi (n : Int)), (3, zi 0)], [zi 0], m) _ (o1 a1))) (fun a2 => (o2 (Classical.byContradiction a2)))))
theorem zb245_10 (hT : zRules T) {D : Nat} {κ : Option zA → zM → Prop} {m : zM} {v : Nat} {n : Nat} {i : Nat} {lo : zL} (hlo : z_keep [0, 1, 2, 3] lo = [(0, zr 74), (1, zi (v : Int)), (2, zi (n : Int)), (3, zi (i : Int))])  (hB : zB m) (h_v : v ≤ 999) (h_n : n ≤ 20) (h_i : i ≤ 20) 
    (k1 : ¬ (i : Int) < (n : Int) → T (D + 1) 245 (93, [(0, zr 74), (1, zi (v : Int)), (2, zi (n : Int)), (3, zi 0), (4, zi 0)], [], m) κ)
    (k2 : (i : Int) < (n : Int) → T (D + 1) 245 (18, [(0, zr 74), (1, zi (v : Int)), (2, zi (n : Int)), (3, zi (i : Int)), (4, zi (i : Int))], [], m) κ) :
    T (D + 1) 245 (10, lo, [], m) κ := by
  have he0 : wr (i : Int) = (i : Int) := wr_id (by omega) (by omega)
  have he1 : wr (n : Int) = (n : Int) := wr_id (by omega) (by omega)
  have key := @zb245_10r T hT D κ m v n i lo hlo
  simp only [he0, he1, Int.toNat_natCast] at key
  exact key
    k1
    k2
theorem zb245_18r (hT : zRules T) {D : Nat} {κ : Option zA → zM → Prop} {m : zM} {v : Nat} {n : Nat} {i : Nat} {k : Nat} {lo : zL} (hlo : z_keep [0, 1, 2, 3, 4] lo = [(0, zr 74), (1, zi (v : Int)), (2, zi (n : Int)), (3, zi (i : Int)), (4, zi (k : Int))]) 
    (o1 : ¬ 0 < wr (k : Int) → (0 ≤ wr (36 + (i : Int)) ∧ wr (36 + (i : Int)) < 59))
    (o2 : ¬ 0 < wr (k : Int) → (0 ≤ wr (k : Int) ∧ wr (k : Int) < 20))
    (o3 : ¬ 0 < wr (k : Int) → T (D + 1) 245 (10, [(0, zr 74), (1, zi (v : Int)), (2, zi (n : Int)), (3, zi ((i : Int) + 1))], [], (zu m 90 ((wr (k : Int)).toNat) (m 75 ((wr (36 + (i : Int))).toNat)))) κ)
    (o4 : 0 < wr (k : Int) → (0 ≤ wr ((k : Int) - 1) ∧ wr ((k : Int) - 1) < 20))
    (o5 : 0 < wr (k : Int) → (0 ≤ wr (36 + (i : Int)) ∧ wr (36 + (i : Int)) < 59))
    (o6 : 0 < wr (k : Int) → ¬ wr (m 90 ((wr ((k : Int) - 1)).toNat)) < wr (m 75 ((wr (36 + (i : Int))).toNat)) → (0 ≤ wr (36 + (i : Int)) ∧ wr (36 + (i : Int)) < 59))
    (o7 : 0 < wr (k : Int) → ¬ wr (m 90 ((wr ((k : Int) - 1)).toNat)) < wr (m 75 ((wr (36 + (i : Int))).toNat)) → (0 ≤ wr (k : Int) ∧ wr (k : Int) < 20))
    (o8 : 0 < wr (k : Int) → ¬ wr (m 90 ((wr ((k : Int) - 1)).toNat)) < wr (m 75 ((wr (36 + (i : Int))).toNat)) → T (D + 1) 245 (10, [(0, zr 74), (1, zi (v : Int)), (2, zi (n : Int)), (3, zi ((i : Int) + 1))], [], (zu m 90 ((wr (k : Int)).toNat) (m 75 ((wr (36 + (i : Int))).toNat)))) κ)
    (o9 : 0 < wr (k : Int) → wr (m 90 ((wr ((k : Int) - 1)).toNat)) < wr (m 75 ((wr (36 + (i : Int))).toNat)) → (0 ≤ wr ((k : Int) - 1) ∧ wr ((k : Int) - 1) < 20))
    (o10 : 0 < wr (k : Int) → wr (m 90 ((wr ((k : Int) - 1)).toNat)) < wr (m 75 ((wr (36 + (i : Int))).toNat)) → (0 ≤ wr (k : Int) ∧ wr (k : Int) < 20))
    (o11 : 0 < wr (k : Int) → wr (m 90 ((wr ((k : Int) - 1)).toNat)) < wr (m 75 ((wr (36 + (i : Int))).toNat)) → T (D + 1) 245 (18, [(0, zr 74), (1, zi (v : Int)), (2, zi (n : Int)), (3, zi (i : Int)), (4, zi ((k : Int) + (-1)))], [], (zu m 90 ((wr (k : Int)).toNat) (m 90 ((wr ((k : Int) - 1)).toNat)))) κ) :
    T (D + 1) 245 (18, lo, [], m) κ :=
  zkeep hT hlo (hT.1 [(10, [0, 1, 2, 3]), (18, [0, 1, 2, 3, 4]), (93, [0, 1, 2, 3, 4])] 6 (D + 1) 245 _ κ (And.intro (fun a1 => (hT.1 [(10, [0, 1, 2, 3]), (18, [0, 1, 2, 3, 4]), (93, [0, 1, 2, 3, 4])] 6 (D + 1) 245 (73, [(0, zr 74), (1, zi (v : Int)), (2, zi (n : Int)), (3, zi (i : Int)), (4, zi (k : Int))], [zr 74, zi (k : Int), zr 90], m) _ (And.intro (o1 a1) (And.intro (And.intro (o2 a1) trivial) (hT.1 [(10, [0, 1, 2, 3]), (18, [0, 1, 2, 3, 4]), (93, [0, 1, 2, 3, 4])] 6 (D + 1) 245 (82, [(0, zr 74), (1, zi (v : Int)), (2, zi (n : Int)), (3, zi (i : Int)), (4, zi (k : Int))], [], (zu m 90 ((wr (k : Int)).toNat) (m 75 ((wr (36 + (i : Int))).toNat)))) _ (o3 a1)))))) (fun a2 => (hT.1 [(10, [0, 1, 2, 3]), (18, [0, 1, 2, 3, 4]), (93, [0, 1, 2, 3, 4])] 6 (D + 1) 245 (30, [(0, zr 74), (1, zi (v : Int)), (2, zi (n : Int)), (3, zi (i : Int)), (4, zi (k : Int))], [zi 1, zi (k : Int), zr 90], m) _ (And.intro (o4 (Classical.byContradiction a2)) (hT.1 [(10, [0, 1, 2, 3]), (18, [0, 1, 2, 3, 4]), (93, [0, 1, 2, 3, 4])] 6 (D + 1) 245 (39, [(0, zr 74), (1, zi (v : Int)), (2, zi (n : Int)), (3, zi (i : Int)), (4, zi (k : Int))], [zi (i : Int), zi 36, zr 75, zi (m 90 ((wr ((k : Int) - 1)).toNat))], m) _ (And.intro (o5 (Classical.byContradiction a2)) (And.intro (fun a3 => (hT.1 [(10, [0, 1, 2, 3]), (18, [0, 1, 2, 3, 4]), (93, [0, 1, 2, 3, 4])] 6 (D + 1) 245 (72, [(0, zr 74), (1, zi (v : Int)), (2, zi (n : Int)), (3, zi (i : Int)), (4, zi (k : Int))], [zi (k : Int), zr 90], m) _ (And.intro (o6 (Classical.byContradiction a2) a3) (hT.1 [(10, [0, 1, 2, 3]), (18, [0, 1, 2, 3, 4]), (93, [0, 1, 2, 3, 4])] 6 (D + 1) 245 (81, [(0, zr 74), (1, zi (v : Int)), (2, zi (n : Int)), (3, zi (i : Int)), (4, zi (k : Int))], [zi (m 75 ((wr (36 + (i : Int))).toNat)), zi (k : Int), zr 90], m) _ (And.intro (And.intro (o7 (Classical.byContradiction a2) a3) trivial) (o8 (Classical.byContradiction a2) a3)))))) (fun a4 => (hT.1 [(10, [0, 1, 2, 3]), (18, [0, 1, 2, 3, 4]), (93, [0, 1, 2, 3, 4])] 6 (D + 1) 245 (50, [(0, zr 74), (1, zi (v : Int)), (2, zi (n : Int)), (3, zi (i : Int)), (4, zi (k : Int))], [zi (k : Int), zr 90], m) _ (And.intro (o9 (Classical.byContradiction a2) (Classical.byContradiction a4)) (hT.1 [(10, [0, 1, 2, 3]), (18, [0, 1, 2, 3, 4]), (93, [0, 1, 2, 3, 4])] 6 (D + 1) 245 (59, [(0, zr 74), (1, zi (v : Int)), (2, zi (n : Int)), (3, zi (i : Int)), (4, zi (k : Int))], [zi (m 90 ((wr ((k : Int) - 1)).toNat)), zi (k : Int), zr 90], m) _ (And.intro (And.intro (o10 (Classical.byContradiction a2) (Classical.byContradiction a4)) trivial) (o11 (Classical.byContradiction a2) (Classical.byContradiction a4)))))))))))))))
theorem zb245_18 (hT : zRules T) {D : Nat} {κ : Option zA → zM → Prop} {m : zM} {v : Nat} {n : Nat} {i : Nat} {k : Nat} {lo : zL} (hlo : z_keep [0, 1, 2, 3, 4] lo = [(0, zr 74), (1, zi (v : Int)), (2, zi (n : Int)), (3, zi (i : Int)), (4, zi (k : Int))])  (hB : zB m) (h_v : v ≤ 999) (h_n : n ≤ 20) (h_i : i ≤ 19) (h_k : k ≤ 19) 
    (k1 : ¬ 0 < (k : Int) → zB (zu m 90 k (m 75 (i + 36))) → T (D + 1) 245 (10, [(0, zr 74), (1, zi (v : Int)), (2, zi (n : Int)), (3, zi ((i : Int) + 1))], [], (zu m 90 k (m 75 (i + 36)))) κ)
    (k2 : 0 < (k : Int) → ¬ wr (m 90 (((k : Int) - 1).toNat)) < (m 75 (i + 36)) → zB (zu m 90 k (m 75 (i + 36))) → T (D + 1) 245 (10, [(0, zr 74), (1, zi (v : Int)), (2, zi (n : Int)), (3, zi ((i : Int) + 1))], [], (zu m 90 k (m 75 (i + 36)))) κ)
    (k3 : 0 < (k : Int) → wr (m 90 (((k : Int) - 1).toNat)) < (m 75 (i + 36)) → zB (zu m 90 k (m 90 (((k : Int) - 1).toNat))) → T (D + 1) 245 (18, [(0, zr 74), (1, zi (v : Int)), (2, zi (n : Int)), (3, zi (i : Int)), (4, zi ((k : Int) + (-1)))], [], (zu m 90 k (m 90 (((k : Int) - 1).toNat)))) κ) :
    T (D + 1) 245 (18, lo, [], m) κ := by
  have hb4 : 0 ≤ (m 75 (i + 36)) ∧ (m 75 (i + 36)) ≤ 108 := zSg hB 75 36 56 0 108 rfl (i + 36) (by omega) (by omega)
  have hb5 : (-2147483648) ≤ wr (m 90 (((k : Int) - 1).toNat)) ∧ wr (m 90 (((k : Int) - 1).toNat)) ≤ 2147483647 := wrB (m 90 (((k : Int) - 1).toNat))
  have he0 : wr (k : Int) = (k : Int) := wr_id (by omega) (by omega)
  have he1 : wr ((k : Int) - 1) = ((k : Int) - 1) := wr_id (by omega) (by omega)
  have he2 : wr (36 + (i : Int)) = (36 + (i : Int)) := wr_id (by omega) (by omega)
  have he3 : (36 + (i : Int)).toNat = i + 36 := by omega
  have he4 : wr (m 75 (i + 36)) = (m 75 (i + 36)) := wr_id (by omega) (by omega)
  have he5 : (k : Int).toNat = k := by omega
  have key := @zb245_18r T hT D κ m v n i k lo hlo
  simp only [he0, he1, he2, he3, he4, he5, Int.toNat_natCast] at key
  exact key
    (fun x0 => by refine ⟨?_, ?_⟩ <;> omega)
    (fun x0 => by refine ⟨?_, ?_⟩ <;> omega)
    (fun x0 => k1 x0 (zB_u hB trivial))
    (fun x0 => by refine ⟨?_, ?_⟩ <;> omega)
    (fun x0 => by refine ⟨?_, ?_⟩ <;> omega)
    (fun x0 x1 => by refine ⟨?_, ?_⟩ <;> omega)
    (fun x0 x1 => by refine ⟨?_, ?_⟩ <;> omega)
    (fun x0 x1 => k2 x0 x1 (zB_u hB trivial))
    (fun x0 x1 => by refine ⟨?_, ?_⟩ <;> omega)
    (fun x0 x1 => by refine ⟨?_, ?_⟩ <;> omega)
    (fun x0 x1 => k3 x0 x1 (zB_u hB trivial))
theorem zb245_93r (hT : zRules T) {D : Nat} {κ : Option zA → zM → Prop} {m : zM} {v : Nat} {n : Nat} {s : Nat} {k : Nat} {lo : zL} (hlo : z_keep [0, 1, 2, 3, 4] lo = [(0, zr 74), (1, zi (v : Int)), (2, zi (n : Int)), (3, zi (s : Int)), (4, zi (k : Int))]) 
    (o1 : ¬ wr (k : Int) < wr (n : Int) → κ (some (zi (-2))) m)
    (o2 : wr (k : Int) < wr (n : Int) → (0 ≤ wr (k : Int) ∧ wr (k : Int) < 20))
    (o3 : wr (k : Int) < wr (n : Int) → wr ((s : Int) + (m 90 ((wr (k : Int)).toNat))) < wr (v : Int) → T (D + 1) 245 (93, [(0, zr 74), (1, zi (v : Int)), (2, zi (n : Int)), (3, zi ((s : Int) + (m 90 ((wr (k : Int)).toNat)))), (4, zi ((k : Int) + 1))], [], m) κ)
    (o4 : wr (k : Int) < wr (n : Int) → ¬ wr ((s : Int) + (m 90 ((wr (k : Int)).toNat))) < wr (v : Int) → κ (some (zi (wr ((k : Int) + 1)))) m) :
    T (D + 1) 245 (93, lo, [], m) κ :=
  zkeep hT hlo (hT.1 [(10, [0, 1, 2, 3]), (18, [0, 1, 2, 3, 4]), (93, [0, 1, 2, 3, 4])] 6 (D + 1) 245 _ κ (And.intro (fun a1 => (o1 a1)) (fun a2 => (hT.1 [(10, [0, 1, 2, 3]), (18, [0, 1, 2, 3, 4]), (93, [0, 1, 2, 3, 4])] 6 (D + 1) 245 (104, [(0, zr 74), (1, zi (v : Int)), (2, zi (n : Int)), (3, zi (s : Int)), (4, zi (k : Int))], [zr 90, zi (s : Int)], m) _ (And.intro (o2 (Classical.byContradiction a2)) (hT.1 [(10, [0, 1, 2, 3]), (18, [0, 1, 2, 3, 4]), (93, [0, 1, 2, 3, 4])] 6 (D + 1) 245 (111, [(0, zr 74), (1, zi (v : Int)), (2, zi (n : Int)), (3, zi ((s : Int) + (m 90 ((wr (k : Int)).toNat)))), (4, zi (k : Int))], [zi (v : Int), zi ((s : Int) + (m 90 ((wr (k : Int)).toNat)))], m) _ (And.intro (fun a3 => (o3 (Classical.byContradiction a2) a3)) (fun a4 => (o4 (Classical.byContradiction a2) a4)))))))))
theorem zb245_93 (hT : zRules T) {D : Nat} {κ : Option zA → zM → Prop} {m : zM} {v : Nat} {n : Nat} {s : Nat} {k : Nat} {lo : zL} (hlo : z_keep [0, 1, 2, 3, 4] lo = [(0, zr 74), (1, zi (v : Int)), (2, zi (n : Int)), (3, zi (s : Int)), (4, zi (k : Int))])  (hB : zB m) (h_v : v ≤ 999) (h_n : n ≤ 20) (h_s : s ≤ 2160) (h_k : k ≤ 20) 
    (k1 : ¬ (k : Int) < (n : Int) → κ (some (zi (-2))) m)
    (k2 : (k : Int) < (n : Int) → wr ((s : Int) + (m 90 k)) < (v : Int) → T (D + 1) 245 (93, [(0, zr 74), (1, zi (v : Int)), (2, zi (n : Int)), (3, zi ((s : Int) + (m 90 k))), (4, zi ((k : Int) + 1))], [], m) κ)
    (k3 : (k : Int) < (n : Int) → ¬ wr ((s : Int) + (m 90 k)) < (v : Int) → κ (some (zi ((k : Int) + 1))) m) :
    T (D + 1) 245 (93, lo, [], m) κ := by
  have hb4 : (-2147483648) ≤ wr ((s : Int) + (m 90 k)) ∧ wr ((s : Int) + (m 90 k)) ≤ 2147483647 := wrB ((s : Int) + (m 90 k))
  have he0 : wr (k : Int) = (k : Int) := wr_id (by omega) (by omega)
  have he1 : wr (n : Int) = (n : Int) := wr_id (by omega) (by omega)
  have he2 : (k : Int).toNat = k := by omega
  have he3 : wr (v : Int) = (v : Int) := wr_id (by omega) (by omega)
  have he4 : wr ((k : Int) + 1) = ((k : Int) + 1) := wr_id (by omega) (by omega)
  have key := @zb245_93r T hT D κ m v n s k lo hlo
  simp only [he0, he1, he2, he3, he4, Int.toNat_natCast] at key
  exact key
    k1
    (fun x0 => by refine ⟨?_, ?_⟩ <;> omega)
    k2
    k3
theorem zb246_0r (hT : zRules T) {D : Nat} {κ : Option zA → zM → Prop} {m : zM} {v : Nat} 
    (o1 : T (D + 2) 245 (0, [(0, zr 74), (1, zi (v : Int))], [], m) (fun r m1 => T (D + 3) 246 (5, [(0, zr 74), (1, zi (v : Int))], r.toList ++ [], m1) κ)) :
    T (D + 3) 246 (0, [(0, zr 74), (1, zi (v : Int))], [], m) κ :=
  hT.1 [(23, [0, 1, 2, 3]), (42, [0, 1, 2, 3, 4, 5])] 6 (D + 3) 246 _ κ (o1)
theorem zb246_0 (hT : zRules T) {D : Nat} {κ : Option zA → zM → Prop} {m : zM} {v : Nat}  (hB : zB m) (h_v : v ≤ 999) 
    (k1 : T (D + 2) 245 (0, [(0, zr 74), (1, zi (v : Int))], [], m) (fun r m1 => T (D + 3) 246 (5, [(0, zr 74), (1, zi (v : Int))], r.toList ++ [], m1) κ)) :
    T (D + 3) 246 (0, [(0, zr 74), (1, zi (v : Int))], [], m) κ := by
  exact zb246_0r hT
    k1
theorem zb246_5r (hT : zRules T) {D : Nat} {κ : Option zA → zM → Prop} {m : zM} {v : Nat} {f : Int} {lo : zL} (hlo : z_keep [0, 1] lo = [(0, zr 74), (1, zi (v : Int))]) 
    (o1 : ¬ wr f < 0 → T (D + 3) 246 (23, [(0, zr 74), (1, zi (v : Int)), (2, zi f), (3, zi ((z_shl 1 f) - 1))], [], (zu m 74 38 0)) κ)
    (o2 : wr f < 0 → κ (some (zi (wr f))) m) :
    T (D + 3) 246 (5, lo, [zi f], m) κ :=
  zkeep hT hlo (hT.1 [(23, [0, 1, 2, 3]), (42, [0, 1, 2, 3, 4, 5])] 6 (D + 3) 246 _ κ (And.intro (fun a1 => (And.intro trivial (hT.1 [(23, [0, 1, 2, 3]), (42, [0, 1, 2, 3, 4, 5])] 6 (D + 3) 246 (17, [(0, zr 74), (1, zi (v : Int)), (2, zi f)], [], (zu m 74 38 0)) _ (o1 a1)))) (fun a2 => (o2 (Classical.byContradiction a2)))))
theorem zb246_5 (hT : zRules T) {D : Nat} {κ : Option zA → zM → Prop} {m : zM} {v : Nat} {f : Int} {lo : zL} (hlo : z_keep [0, 1] lo = [(0, zr 74), (1, zi (v : Int))])  (hB : zB m) (h_v : v ≤ 999) (h_f : (-2) ≤ f ∧ f ≤ 20) 
    (k1 : ¬ f < 0 → zB (zu m 74 38 0) → T (D + 3) 246 (23, [(0, zr 74), (1, zi (v : Int)), (2, zi f), (3, zi ((z_shl 1 f) - 1))], [], (zu m 74 38 0)) κ)
    (k2 : f < 0 → κ (some (zi f)) m) :
    T (D + 3) 246 (5, lo, [zi f], m) κ := by
  have hb2 : (-2147483648) ≤ (z_shl 1 f) ∧ (z_shl 1 f) ≤ 2147483647 := z_shlB 1 f
  have he0 : wr f = f := wr_id (by omega) (by omega)
  have key := @zb246_5r T hT D κ m v f lo hlo
  simp only [he0, Int.toNat_natCast] at key
  exact key
    (fun x0 => k1 x0 (zB_u hB trivial))
    k2
theorem zb246_23r (hT : zRules T) {D : Nat} {κ : Option zA → zM → Prop} {m : zM} {v : Nat} {f : Nat} {x : Nat} {lo : zL} (hlo : z_keep [0, 1, 2, 3] lo = [(0, zr 74), (1, zi (v : Int)), (2, zi (f : Int)), (3, zi (x : Int))]) 
    (o1 : ¬ wr (x : Int) < wr (z_shl 1 (m 75 56)) → κ (some (zi (wr (f : Int)))) m)
    (o2 : wr (x : Int) < wr (z_shl 1 (m 75 56)) → T (D + 3) 246 (42, [(0, zr 74), (1, zi (v : Int)), (2, zi (f : Int)), (3, zi (x : Int)), (4, zi 0), (5, zi (x : Int))], [], m) κ) :
    T (D + 3) 246 (23, lo, [], m) κ :=
  zkeep hT hlo (hT.1 [(23, [0, 1, 2, 3]), (42, [0, 1, 2, 3, 4, 5])] 6 (D + 3) 246 _ κ (And.intro (z_ixL rfl) (hT.1 [(23, [0, 1, 2, 3]), (42, [0, 1, 2, 3, 4, 5])] 6 (D + 3) 246 (32, [(0, zr 74), (1, zi (v : Int)), (2, zi (f : Int)), (3, zi (x : Int))], [zi (m 75 56), zi 1, zi (x : Int)], m) _ (And.intro (fun a1 => (o1 a1)) (fun a2 => (o2 (Classical.byContradiction a2)))))))
theorem zb246_23 (hT : zRules T) {D : Nat} {κ : Option zA → zM → Prop} {m : zM} {v : Nat} {f : Nat} {x : Nat} {lo : zL} (hlo : z_keep [0, 1, 2, 3] lo = [(0, zr 74), (1, zi (v : Int)), (2, zi (f : Int)), (3, zi (x : Int))])  (hB : zB m) (h_v : v ≤ 999) (h_f : f ≤ 20) (h_x : x ≤ 2097152) 
    (k1 : ¬ (x : Int) < (z_shl 1 (m 75 56)) → κ (some (zi (f : Int))) m)
    (k2 : (x : Int) < (z_shl 1 (m 75 56)) → T (D + 3) 246 (42, [(0, zr 74), (1, zi (v : Int)), (2, zi (f : Int)), (3, zi (x : Int)), (4, zi 0), (5, zi (x : Int))], [], m) κ) :
    T (D + 3) 246 (23, lo, [], m) κ := by
  have hb3 : 0 ≤ (m 75 56) ∧ (m 75 56) ≤ 20 := hB 75 56
  have hb4 : (-2147483648) ≤ (z_shl 1 (m 75 56)) ∧ (z_shl 1 (m 75 56)) ≤ 2147483647 := z_shlB 1 (m 75 56)
  have he0 : wr (x : Int) = (x : Int) := wr_id (by omega) (by omega)
  have he1 : wr (z_shl 1 (m 75 56)) = (z_shl 1 (m 75 56)) := wr_id (by omega) (by omega)
  have he2 : wr (f : Int) = (f : Int) := wr_id (by omega) (by omega)
  have key := @zb246_23r T hT D κ m v f x lo hlo
  simp only [he0, he1, he2, Int.toNat_natCast] at key
  exact key
    k1
    k2
theorem zb246_42r (hT : zRules T) {D : Nat} {κ : Option zA → zM → Prop} {m : zM} {v : Nat} {f : Nat} {x : Nat} {s : Nat} {y : Nat} {lo : zL} (hlo : z_keep [0, 1, 2, 3, 4, 5] lo = [(0, zr 74), (1, zi (v : Int)), (2, zi (f : Int)), (3, zi (x : Int)), (4, zi (s : Int)), (5, zi (y : Int))]) 
    (o1 : wr (y : Int) = 0 → wr (s : Int) < wr (v : Int) → ¬ wr (z_and (x : Int) (-(x : Int))) = 0)
    (o2 : wr (y : Int) = 0 → wr (s : Int) < wr (v : Int) → T (D + 3) 246 (23, [(0, zr 74), (1, zi (v : Int)), (2, zi (f : Int)), (3, zi (z_or ((x : Int) + (z_and (x : Int) (-(x : Int)))) (z_shr (Int.tdiv (wr (z_xor (x : Int) ((x : Int) + (z_and (x : Int) (-(x : Int)))))) (wr (z_and (x : Int) (-(x : Int))))) 2)))], [], m) κ)
    (o3 : wr (y : Int) = 0 → ¬ wr (s : Int) < wr (v : Int) → wr (m 74 38) = 0 → ¬ wr (z_and (x : Int) (-(x : Int))) = 0)
    (o4 : wr (y : Int) = 0 → ¬ wr (s : Int) < wr (v : Int) → wr (m 74 38) = 0 → T (D + 3) 246 (23, [(0, zr 74), (1, zi (v : Int)), (2, zi (f : Int)), (3, zi (z_or ((x : Int) + (z_and (x : Int) (-(x : Int)))) (z_shr (Int.tdiv (wr (z_xor (x : Int) ((x : Int) + (z_and (x : Int) (-(x : Int)))))) (wr (z_and (x : Int) (-(x : Int))))) 2)))], [], (zu (zu m 74 38 (x : Int)) 74 39 ((s : Int) - (v : Int)))) κ)
    (o5 : wr (y : Int) = 0 → ¬ wr (s : Int) < wr (v : Int) → ¬ wr (m 74 38) = 0 → ¬ wr ((s : Int) - (v : Int)) < wr (m 74 39) → ¬ wr (z_and (x : Int) (-(x : Int))) = 0)
    (o6 : wr (y : Int) = 0 → ¬ wr (s : Int) < wr (v : Int) → ¬ wr (m 74 38) = 0 → ¬ wr ((s : Int) - (v : Int)) < wr (m 74 39) → T (D + 3) 246 (23, [(0, zr 74), (1, zi (v : Int)), (2, zi (f : Int)), (3, zi (z_or ((x : Int) + (z_and (x : Int) (-(x : Int)))) (z_shr (Int.tdiv (wr (z_xor (x : Int) ((x : Int) + (z_and (x : Int) (-(x : Int)))))) (wr (z_and (x : Int) (-(x : Int))))) 2)))], [], m) κ)
    (o7 : wr (y : Int) = 0 → ¬ wr (s : Int) < wr (v : Int) → ¬ wr (m 74 38) = 0 → wr ((s : Int) - (v : Int)) < wr (m 74 39) → ¬ wr (z_and (x : Int) (-(x : Int))) = 0)
    (o8 : wr (y : Int) = 0 → ¬ wr (s : Int) < wr (v : Int) → ¬ wr (m 74 38) = 0 → wr ((s : Int) - (v : Int)) < wr (m 74 39) → T (D + 3) 246 (23, [(0, zr 74), (1, zi (v : Int)), (2, zi (f : Int)), (3, zi (z_or ((x : Int) + (z_and (x : Int) (-(x : Int)))) (z_shr (Int.tdiv (wr (z_xor (x : Int) ((x : Int) + (z_and (x : Int) (-(x : Int)))))) (wr (z_and (x : Int) (-(x : Int))))) 2)))], [], (zu (zu m 74 38 (x : Int)) 74 39 ((s : Int) - (v : Int)))) κ)
    (o9 : ¬ wr (y : Int) = 0 → T (D + 2) 292 (0, [(0, zi (y : Int))], [], m) (fun r m1 => T (D + 3) 246 (60, [(0, zr 74), (1, zi (v : Int)), (2, zi (f : Int)), (3, zi (x : Int)), (4, zi (s : Int)), (5, zi (y : Int))], r.toList ++ [zi 36, zr 75, zi (s : Int)], m1) κ)) :
    T (D + 3) 246 (42, lo, [], m) κ :=
  zkeep hT hlo (hT.1 [(23, [0, 1, 2, 3]), (42, [0, 1, 2, 3, 4, 5])] 6 (D + 3) 246 _ κ (And.intro (fun a1 => (And.intro (fun a3 => (hT.1 [(23, [0, 1, 2, 3]), (42, [0, 1, 2, 3, 4, 5])] 6 (D + 3) 246 (115, [(0, zr 74), (1, zi (v : Int)), (2, zi (f : Int)), (3, zi (x : Int)), (4, zi (s : Int)), (5, zi (y : Int))], [zi (x : Int)], m) _ (hT.1 [(23, [0, 1, 2, 3]), (42, [0, 1, 2, 3, 4, 5])] 6 (D + 3) 246 (123, [(0, zr 74), (1, zi (v : Int)), (2, zi (f : Int)), (3, zi (x : Int)), (4, zi (s : Int)), (5, zi (z_and (x : Int) (-(x : Int))))], [zi (z_and (x : Int) (-(x : Int))), zi (x : Int)], m) _ (hT.1 [(23, [0, 1, 2, 3]), (42, [0, 1, 2, 3, 4, 5])] 6 (D + 3) 246 (132, [(0, zr 74), (1, zi (v : Int)), (2, zi (f : Int)), (3, zi (x : Int)), (4, zi (s : Int)), (5, zi (z_and (x : Int) (-(x : Int)))), (6, zi ((x : Int) + (z_and (x : Int) (-(x : Int)))))], [zi (z_xor (x : Int) ((x : Int) + (z_and (x : Int) (-(x : Int))))), zi ((x : Int) + (z_and (x : Int) (-(x : Int))))], m) _ (And.intro (o1 a1 a3) (hT.1 [(23, [0, 1, 2, 3]), (42, [0, 1, 2, 3, 4, 5])] 6 (D + 3) 246 (139, [(0, zr 74), (1, zi (v : Int)), (2, zi (f : Int)), (3, zi (z_or ((x : Int) + (z_and (x : Int) (-(x : Int)))) (z_shr (Int.tdiv (wr (z_xor (x : Int) ((x : Int) + (z_and (x : Int) (-(x : Int)))))) (wr (z_and (x : Int) (-(x : Int))))) 2))), (4, zi (s : Int)), (5, zi (z_and (x : Int) (-(x : Int)))), (6, zi ((x : Int) + (z_and (x : Int) (-(x : Int)))))], [], m) _ (o2 a1 a3))))))) (fun a4 => (hT.1 [(23, [0, 1, 2, 3]), (42, [0, 1, 2, 3, 4, 5])] 6 (D + 3) 246 (84, [(0, zr 74), (1, zi (v : Int)), (2, zi (f : Int)), (3, zi (x : Int)), (4, zi (s : Int)), (5, zi (y : Int))], [zr 74], m) _ (And.intro (fun a5 => (And.intro trivial (hT.1 [(23, [0, 1, 2, 3]), (42, [0, 1, 2, 3, 4, 5])] 6 (D + 3) 246 (107, [(0, zr 74), (1, zi (v : Int)), (2, zi (f : Int)), (3, zi (x : Int)), (4, zi (s : Int)), (5, zi (y : Int))], [zr 74], (zu m 74 38 (x : Int))) _ (And.intro trivial (hT.1 [(23, [0, 1, 2, 3]), (42, [0, 1, 2, 3, 4, 5])] 6 (D + 3) 246 (116, [(0, zr 74), (1, zi (v : Int)), (2, zi (f : Int)), (3, zi (x : Int)), (4, zi (s : Int)), (5, zi (y : Int))], [zi (x : Int), zi (x : Int)], (zu (zu m 74 38 (x : Int)) 74 39 ((s : Int) - (v : Int)))) _ (hT.1 [(23, [0, 1, 2, 3]), (42, [0, 1, 2, 3, 4, 5])] 6 (D + 3) 246 (124, [(0, zr 74), (1, zi (v : Int)), (2, zi (f : Int)), (3, zi (x : Int)), (4, zi (s : Int)), (5, zi (z_and (x : Int) (-(x : Int))))], [zi ((x : Int) + (z_and (x : Int) (-(x : Int))))], (zu (zu m 74 38 (x : Int)) 74 39 ((s : Int) - (v : Int)))) _ (hT.1 [(23, [0, 1, 2, 3]), (42, [0, 1, 2, 3, 4, 5])] 6 (D + 3) 246 (134, [(0, zr 74), (1, zi (v : Int)), (2, zi (f : Int)), (3, zi (x : Int)), (4, zi (s : Int)), (5, zi (z_and (x : Int) (-(x : Int)))), (6, zi ((x : Int) + (z_and (x : Int) (-(x : Int)))))], [zi (z_and (x : Int) (-(x : Int))), zi (z_xor (x : Int) ((x : Int) + (z_and (x : Int) (-(x : Int))))), zi ((x : Int) + (z_and (x : Int) (-(x : Int))))], (zu (zu m 74 38 (x : Int)) 74 39 ((s : Int) - (v : Int)))) _ (And.intro (o3 a1 a4 a5) (o4 a1 a4 a5))))))))) (fun a6 => (hT.1 [(23, [0, 1, 2, 3]), (42, [0, 1, 2, 3, 4, 5])] 6 (D + 3) 246 (95, [(0, zr 74), (1, zi (v : Int)), (2, zi (f : Int)), (3, zi (x : Int)), (4, zi (s : Int)), (5, zi (y : Int))], [zr 74, zi ((s : Int) - (v : Int))], m) _ (And.intro (fun a7 => (hT.1 [(23, [0, 1, 2, 3]), (42, [0, 1, 2, 3, 4, 5])] 6 (D + 3) 246 (118, [(0, zr 74), (1, zi (v : Int)), (2, zi (f : Int)), (3, zi (x : Int)), (4, zi (s : Int)), (5, zi (y : Int))], [zi (z_and (x : Int) (-(x : Int)))], m) _ (hT.1 [(23, [0, 1, 2, 3]), (42, [0, 1, 2, 3, 4, 5])] 6 (D + 3) 246 (128, [(0, zr 74), (1, zi (v : Int)), (2, zi (f : Int)), (3, zi (x : Int)), (4, zi (s : Int)), (5, zi (z_and (x : Int) (-(x : Int)))), (6, zi ((x : Int) + (z_and (x : Int) (-(x : Int)))))], [zi ((x : Int) + (z_and (x : Int) (-(x : Int))))], m) _ (And.intro (o5 a1 a4 a6 a7) (hT.1 [(23, [0, 1, 2, 3]), (42, [0, 1, 2, 3, 4, 5])] 6 (D + 3) 246 (136, [(0, zr 74), (1, zi (v : Int)), (2, zi (f : Int)), (3, zi (x : Int)), (4, zi (s : Int)), (5, zi (z_and (x : Int) (-(x : Int)))), (6, zi ((x : Int) + (z_and (x : Int) (-(x : Int)))))], [zi 2, zi (Int.tdiv (wr (z_xor (x : Int) ((x : Int) + (z_and (x : Int) (-(x : Int)))))) (wr (z_and (x : Int) (-(x : Int))))), zi ((x : Int) + (z_and (x : Int) (-(x : Int))))], m) _ (o6 a1 a4 a6 a7)))))) (fun a8 => (And.intro trivial (hT.1 [(23, [0, 1, 2, 3]), (42, [0, 1, 2, 3, 4, 5])] 6 (D + 3) 246 (107, [(0, zr 74), (1, zi (v : Int)), (2, zi (f : Int)), (3, zi (x : Int)), (4, zi (s : Int)), (5, zi (y : Int))], [zr 74], (zu m 74 38 (x : Int))) _ (And.intro trivial (hT.1 [(23, [0, 1, 2, 3]), (42, [0, 1, 2, 3, 4, 5])] 6 (D + 3) 246 (116, [(0, zr 74), (1, zi (v : Int)), (2, zi (f : Int)), (3, zi (x : Int)), (4, zi (s : Int)), (5, zi (y : Int))], [zi (x : Int), zi (x : Int)], (zu (zu m 74 38 (x : Int)) 74 39 ((s : Int) - (v : Int)))) _ (hT.1 [(23, [0, 1, 2, 3]), (42, [0, 1, 2, 3, 4, 5])] 6 (D + 3) 246 (124, [(0, zr 74), (1, zi (v : Int)), (2, zi (f : Int)), (3, zi (x : Int)), (4, zi (s : Int)), (5, zi (z_and (x : Int) (-(x : Int))))], [zi ((x : Int) + (z_and (x : Int) (-(x : Int))))], (zu (zu m 74 38 (x : Int)) 74 39 ((s : Int) - (v : Int)))) _ (hT.1 [(23, [0, 1, 2, 3]), (42, [0, 1, 2, 3, 4, 5])] 6 (D + 3) 246 (134, [(0, zr 74), (1, zi (v : Int)), (2, zi (f : Int)), (3, zi (x : Int)), (4, zi (s : Int)), (5, zi (z_and (x : Int) (-(x : Int)))), (6, zi ((x : Int) + (z_and (x : Int) (-(x : Int)))))], [zi (z_and (x : Int) (-(x : Int))), zi (z_xor (x : Int) ((x : Int) + (z_and (x : Int) (-(x : Int))))), zi ((x : Int) + (z_and (x : Int) (-(x : Int))))], (zu (zu m 74 38 (x : Int)) 74 39 ((s : Int) - (v : Int)))) _ (And.intro (o7 a1 a4 a6 (Classical.byContradiction a8)) (o8 a1 a4 a6 (Classical.byContradiction a8)))))))))))))))))) (fun a2 => (hT.1 [(23, [0, 1, 2, 3]), (42, [0, 1, 2, 3, 4, 5])] 6 (D + 3) 246 (55, [(0, zr 74), (1, zi (v : Int)), (2, zi (f : Int)), (3, zi (x : Int)), (4, zi (s : Int)), (5, zi (y : Int))], [zi 36, zr 75, zi (s : Int)], m) _ (o9 a2)))))
theorem zb246_42 (hT : zRules T) {D : Nat} {κ : Option zA → zM → Prop} {m : zM} {v : Nat} {f : Nat} {x : Nat} {s : Nat} {y : Nat} {lo : zL} (hlo : z_keep [0, 1, 2, 3, 4, 5] lo = [(0, zr 74), (1, zi (v : Int)), (2, zi (f : Int)), (3, zi (x : Int)), (4, zi (s : Int)), (5, zi (y : Int))])  (hB : zB m) (h_v : v ≤ 999) (h_f : f ≤ 20) (h_x : x ≤ 2097152) (h_s : s ≤ 2160) (h_y : y ≤ 2097152) 
    (k1 : (y : Int) = 0 → (s : Int) < (v : Int) → ¬ (z_and (x : Int) (-(x : Int))) = 0)
    (k2 : (y : Int) = 0 → (s : Int) < (v : Int) → T (D + 3) 246 (23, [(0, zr 74), (1, zi (v : Int)), (2, zi (f : Int)), (3, zi (z_or ((x : Int) + (z_and (x : Int) (-(x : Int)))) (z_shr (Int.tdiv (z_xor (x : Int) ((x : Int) + (z_and (x : Int) (-(x : Int))))) (z_and (x : Int) (-(x : Int)))) 2)))], [], m) κ)
    (k3 : (y : Int) = 0 → ¬ (s : Int) < (v : Int) → wr (m 74 38) = 0 → ¬ (z_and (x : Int) (-(x : Int))) = 0)
    (k4 : (y : Int) = 0 → ¬ (s : Int) < (v : Int) → wr (m 74 38) = 0 → zB (zu (zu m 74 38 (x : Int)) 74 39 ((s : Int) - (v : Int))) → T (D + 3) 246 (23, [(0, zr 74), (1, zi (v : Int)), (2, zi (f : Int)), (3, zi (z_or ((x : Int) + (z_and (x : Int) (-(x : Int)))) (z_shr (Int.tdiv (z_xor (x : Int) ((x : Int) + (z_and (x : Int) (-(x : Int))))) (z_and (x : Int) (-(x : Int)))) 2)))], [], (zu (zu m 74 38 (x : Int)) 74 39 ((s : Int) - (v : Int)))) κ)
    (k5 : (y : Int) = 0 → ¬ (s : Int) < (v : Int) → ¬ wr (m 74 38) = 0 → ¬ ((s : Int) - (v : Int)) < wr (m 74 39) → ¬ (z_and (x : Int) (-(x : Int))) = 0)
    (k6 : (y : Int) = 0 → ¬ (s : Int) < (v : Int) → ¬ wr (m 74 38) = 0 → ¬ ((s : Int) - (v : Int)) < wr (m 74 39) → T (D + 3) 246 (23, [(0, zr 74), (1, zi (v : Int)), (2, zi (f : Int)), (3, zi (z_or ((x : Int) + (z_and (x : Int) (-(x : Int)))) (z_shr (Int.tdiv (z_xor (x : Int) ((x : Int) + (z_and (x : Int) (-(x : Int))))) (z_and (x : Int) (-(x : Int)))) 2)))], [], m) κ)
    (k7 : (y : Int) = 0 → ¬ (s : Int) < (v : Int) → ¬ wr (m 74 38) = 0 → ((s : Int) - (v : Int)) < wr (m 74 39) → ¬ (z_and (x : Int) (-(x : Int))) = 0)
    (k8 : (y : Int) = 0 → ¬ (s : Int) < (v : Int) → ¬ wr (m 74 38) = 0 → ((s : Int) - (v : Int)) < wr (m 74 39) → zB (zu (zu m 74 38 (x : Int)) 74 39 ((s : Int) - (v : Int))) → T (D + 3) 246 (23, [(0, zr 74), (1, zi (v : Int)), (2, zi (f : Int)), (3, zi (z_or ((x : Int) + (z_and (x : Int) (-(x : Int)))) (z_shr (Int.tdiv (z_xor (x : Int) ((x : Int) + (z_and (x : Int) (-(x : Int))))) (z_and (x : Int) (-(x : Int)))) 2)))], [], (zu (zu m 74 38 (x : Int)) 74 39 ((s : Int) - (v : Int)))) κ)
    (k9 : ¬ (y : Int) = 0 → T (D + 2) 292 (0, [(0, zi (y : Int))], [], m) (fun r m1 => T (D + 3) 246 (60, [(0, zr 74), (1, zi (v : Int)), (2, zi (f : Int)), (3, zi (x : Int)), (4, zi (s : Int)), (5, zi (y : Int))], r.toList ++ [zi 36, zr 75, zi (s : Int)], m1) κ)) :
    T (D + 3) 246 (42, lo, [], m) κ := by
  have hb5 : (-2147483648) ≤ (z_and (x : Int) (-(x : Int))) ∧ (z_and (x : Int) (-(x : Int))) ≤ 2147483647 := z_andB (x : Int) (-(x : Int))
  have hb6 : (-2147483648) ≤ (z_xor (x : Int) ((x : Int) + (z_and (x : Int) (-(x : Int))))) ∧ (z_xor (x : Int) ((x : Int) + (z_and (x : Int) (-(x : Int))))) ≤ 2147483647 := z_xorB (x : Int) ((x : Int) + (z_and (x : Int) (-(x : Int))))
  have hb7 : (-2147483648) ≤ (z_shr (Int.tdiv (z_xor (x : Int) ((x : Int) + (z_and (x : Int) (-(x : Int))))) (z_and (x : Int) (-(x : Int)))) 2) ∧ (z_shr (Int.tdiv (z_xor (x : Int) ((x : Int) + (z_and (x : Int) (-(x : Int))))) (z_and (x : Int) (-(x : Int)))) 2) ≤ 2147483647 := z_shrB (Int.tdiv (z_xor (x : Int) ((x : Int) + (z_and (x : Int) (-(x : Int))))) (z_and (x : Int) (-(x : Int)))) 2
  have hb8 : (-2147483648) ≤ (z_or ((x : Int) + (z_and (x : Int) (-(x : Int)))) (z_shr (Int.tdiv (z_xor (x : Int) ((x : Int) + (z_and (x : Int) (-(x : Int))))) (z_and (x : Int) (-(x : Int)))) 2)) ∧ (z_or ((x : Int) + (z_and (x : Int) (-(x : Int)))) (z_shr (Int.tdiv (z_xor (x : Int) ((x : Int) + (z_and (x : Int) (-(x : Int))))) (z_and (x : Int) (-(x : Int)))) 2)) ≤ 2147483647 := z_orB ((x : Int) + (z_and (x : Int) (-(x : Int)))) (z_shr (Int.tdiv (z_xor (x : Int) ((x : Int) + (z_and (x : Int) (-(x : Int))))) (z_and (x : Int) (-(x : Int)))) 2)
  have hb9 : (-2147483648) ≤ wr (m 74 38) ∧ wr (m 74 38) ≤ 2147483647 := wrB (m 74 38)
  have hb10 : (-2147483648) ≤ wr (m 74 39) ∧ wr (m 74 39) ≤ 2147483647 := wrB (m 74 39)
  have he0 : wr (y : Int) = (y : Int) := wr_id (by omega) (by omega)
  have he1 : wr (s : Int) = (s : Int) := wr_id (by omega) (by omega)
  have he2 : wr (v : Int) = (v : Int) := wr_id (by omega) (by omega)
  have he3 : wr (z_xor (x : Int) ((x : Int) + (z_and (x : Int) (-(x : Int))))) = (z_xor (x : Int) ((x : Int) + (z_and (x : Int) (-(x : Int))))) := wr_id (by omega) (by omega)
  have he4 : wr (z_and (x : Int) (-(x : Int))) = (z_and (x : Int) (-(x : Int))) := wr_id (by omega) (by omega)
  have he5 : wr ((s : Int) - (v : Int)) = ((s : Int) - (v : Int)) := wr_id (by omega) (by omega)
  have key := @zb246_42r T hT D κ m v f x s y lo hlo
  simp only [he0, he1, he2, he3, he4, he5, Int.toNat_natCast] at key
  exact key
    k1
    k2
    k3
    (fun x0 x1 x2 => k4 x0 x1 x2 (zB_u (zB_u hB trivial) trivial))
    k5
    k6
    k7
    (fun x0 x1 x2 x3 => k8 x0 x1 x2 x3 (zB_u (zB_u hB trivial) trivial))
    k9
theorem zb246_60r (hT : zRules T) {D : Nat} {κ : Option zA → zM → Prop} {m : zM} {v : Nat} {f : Nat} {x : Nat} {y : Nat} {s : Nat} {z : Nat} {lo : zL} (hlo : z_keep [0, 1, 2, 3, 5] lo = [(0, zr 74), (1, zi (v : Int)), (2, zi (f : Int)), (3, zi (x : Int)), (5, zi (y : Int))]) 
    (o1 : (0 ≤ wr (36 + (z : Int)) ∧ wr (36 + (z : Int)) < 59))
    (o2 : T (D + 3) 246 (42, [(0, zr 74), (1, zi (v : Int)), (2, zi (f : Int)), (3, zi (x : Int)), (4, zi ((s : Int) + (m 75 ((wr (36 + (z : Int))).toNat)))), (5, zi (z_and (y : Int) ((y : Int) - 1)))], [], m) κ) :
    T (D + 3) 246 (60, lo, [zi (z : Int), zi 36, zr 75, zi (s : Int)], m) κ :=
  zkeep hT hlo (hT.1 [(23, [0, 1, 2, 3]), (42, [0, 1, 2, 3, 4, 5])] 6 (D + 3) 246 _ κ (And.intro (o1) (hT.1 [(23, [0, 1, 2, 3]), (42, [0, 1, 2, 3, 4, 5])] 6 (D + 3) 246 (69, [(0, zr 74), (1, zi (v : Int)), (2, zi (f : Int)), (3, zi (x : Int)), (4, zi ((s : Int) + (m 75 ((wr (36 + (z : Int))).toNat)))), (5, zi (y : Int))], [zi (y : Int), zi (y : Int)], m) _ (o2))))
theorem zb246_60 (hT : zRules T) {D : Nat} {κ : Option zA → zM → Prop} {m : zM} {v : Nat} {f : Nat} {x : Nat} {y : Nat} {s : Nat} {z : Nat} {lo : zL} (hlo : z_keep [0, 1, 2, 3, 5] lo = [(0, zr 74), (1, zi (v : Int)), (2, zi (f : Int)), (3, zi (x : Int)), (5, zi (y : Int))])  (hB : zB m) (h_v : v ≤ 999) (h_f : f ≤ 20) (h_x : x ≤ 2097152) (h_y : y ≤ 2097152) (h_s : s ≤ 2160) (h_z : z ≤ 19) 
    (k1 : T (D + 3) 246 (42, [(0, zr 74), (1, zi (v : Int)), (2, zi (f : Int)), (3, zi (x : Int)), (4, zi ((s : Int) + (m 75 (z + 36)))), (5, zi (z_and (y : Int) ((y : Int) - 1)))], [], m) κ) :
    T (D + 3) 246 (60, lo, [zi (z : Int), zi 36, zr 75, zi (s : Int)], m) κ := by
  have hb6 : 0 ≤ (m 75 (z + 36)) ∧ (m 75 (z + 36)) ≤ 108 := zSg hB 75 36 56 0 108 rfl (z + 36) (by omega) (by omega)
  have hb7 : (-2147483648) ≤ (z_and (y : Int) ((y : Int) - 1)) ∧ (z_and (y : Int) ((y : Int) - 1)) ≤ 2147483647 := z_andB (y : Int) ((y : Int) - 1)
  have he0 : wr (36 + (z : Int)) = (36 + (z : Int)) := wr_id (by omega) (by omega)
  have he1 : (36 + (z : Int)).toNat = z + 36 := by omega
  have key := @zb246_60r T hT D κ m v f x y s z lo hlo
  simp only [he0, he1, Int.toNat_natCast] at key
  exact key
    (by refine ⟨?_, ?_⟩ <;> omega)
    k1
theorem zb132_0r (hT : zRules T) {D : Nat} {κ : Option zA → zM → Prop} {m : zM} {v : Int} 
    (o1 : T (D + 4) 178 (0, [(0, zr 1), (1, zi v)], [], m) (fun r m1 => T (D + 5) 132 (5, [(0, zr 1), (1, zi v)], r.toList ++ [], m1) κ)) :
    T (D + 5) 132 (0, [(0, zr 1), (1, zi v)], [], m) κ :=
  hT.1 [] 6 (D + 5) 132 _ κ (o1)
theorem zb132_0 (hT : zRules T) {D : Nat} {κ : Option zA → zM → Prop} {m : zM} {v : Int}  (hB : zB m) (h_v : (-2147483648) ≤ v ∧ v ≤ 2147483647) 
    (k1 : T (D + 4) 178 (0, [(0, zr 1), (1, zi v)], [], m) (fun r m1 => T (D + 5) 132 (5, [(0, zr 1), (1, zi v)], r.toList ++ [], m1) κ)) :
    T (D + 5) 132 (0, [(0, zr 1), (1, zi v)], [], m) κ := by
  exact zb132_0r hT
    k1
theorem zb132_5r (hT : zRules T) {D : Nat} {κ : Option zA → zM → Prop} {m : zM} {v : Int} {w : Int} {lo : zL} (hlo : z_keep [0, 1] lo = [(0, zr 1), (1, zi v)]) 
    (o1 : ¬ 0 < wr w → κ (some (zi (wr w))) m)
    (o2 : 0 < wr w → κ (some (zi (wr w))) (zu (zu (zu m 72 1 2) 73 0 ((m 25 4) - v)) 73 1 (m 25 3))) :
    T (D + 5) 132 (5, lo, [zi w], m) κ :=
  zkeep hT hlo (hT.1 [] 6 (D + 5) 132 _ κ (And.intro (fun a1 => (o1 a1)) (fun a2 => (hT.1 [] 6 (D + 5) 132 (15, [(0, zr 1), (1, zi v), (2, zi w)], [zr 1, zr 72], m) _ (hT.1 [] 6 (D + 5) 132 (27, [(0, zr 1), (1, zi v), (2, zi w)], [zr 25, zi ((m 25 4) - v), zr 72], m) _ (hT.1 [] 6 (D + 4) 46 _ _ (And.intro trivial (hT.1 [] 6 (D + 4) 46 (10, [(0, zr 72), (1, zi ((m 25 4) - v)), (2, zi (m 25 3))], [zi 0, zr 73], (zu m 72 1 2)) _ (And.intro (And.intro (z_ixL rfl) trivial) (hT.1 [] 6 (D + 4) 46 (18, [(0, zr 72), (1, zi ((m 25 4) - v)), (2, zi (m 25 3))], [zi (m 25 3), zi 1, zr 73], (zu (zu m 72 1 2) 73 0 ((m 25 4) - v))) _ (And.intro (And.intro (z_ixL rfl) trivial) (hT.1 [] 6 (D + 5) 132 _ _ (o2 (Classical.byContradiction a2))))))))))))))
theorem zb132_5 (hT : zRules T) {D : Nat} {κ : Option zA → zM → Prop} {m : zM} {v : Int} {w : Int} {lo : zL} (hlo : z_keep [0, 1] lo = [(0, zr 1), (1, zi v)])  (hB : zB m) (h_v : (-2147483648) ≤ v ∧ v ≤ 2147483647) (h_w : (-2) ≤ w ∧ w ≤ 20) 
    (k1 : ¬ 0 < w → κ (some (zi w)) m)
    (k2 : 0 < w → zB (zu (zu (zu m 72 1 2) 73 0 ((m 25 4) - v)) 73 1 (m 25 3)) → κ (some (zi w)) (zu (zu (zu m 72 1 2) 73 0 ((m 25 4) - v)) 73 1 (m 25 3))) :
    T (D + 5) 132 (5, lo, [zi w], m) κ := by
  have he0 : wr w = w := wr_id (by omega) (by omega)
  have key := @zb132_5r T hT D κ m v w lo hlo
  simp only [he0, Int.toNat_natCast] at key
  exact key
    k1
    (fun x0 => k2 x0 (zB_u (zB_u (zB_u hB (show 0 ≤ 2 ∧ 2 ≤ 26 from ⟨by omega, by omega⟩)) trivial) trivial))
theorem zb133_0r (hT : zRules T) {D : Nat} {κ : Option zA → zM → Prop} {m : zM} {v : Int} 
    (o1 : T (D + 4) 178 (0, [(0, zr 1), (1, zi v)], [], m) (fun r m1 => T (D + 5) 133 (5, [(0, zr 1), (1, zi v)], r.toList ++ [], m1) κ)) :
    T (D + 5) 133 (0, [(0, zr 1), (1, zi v)], [], m) κ :=
  hT.1 [] 6 (D + 5) 133 _ κ (o1)
theorem zb133_0 (hT : zRules T) {D : Nat} {κ : Option zA → zM → Prop} {m : zM} {v : Int}  (hB : zB m) (h_v : (-2147483648) ≤ v ∧ v ≤ 2147483647) 
    (k1 : T (D + 4) 178 (0, [(0, zr 1), (1, zi v)], [], m) (fun r m1 => T (D + 5) 133 (5, [(0, zr 1), (1, zi v)], r.toList ++ [], m1) κ)) :
    T (D + 5) 133 (0, [(0, zr 1), (1, zi v)], [], m) κ := by
  exact zb133_0r hT
    k1
theorem zb133_5r (hT : zRules T) {D : Nat} {κ : Option zA → zM → Prop} {m : zM} {v : Int} {w : Int} {lo : zL} (hlo : z_keep [0] lo = [(0, zr 1)]) 
    (o1 : ¬ wr w < 1 → T (D + 4) 173 (0, [(0, zr 1)], [], m) (fun r m1 => T (D + 5) 133 (17, [(0, zr 1), (2, zi w)], r.toList ++ [], m1) κ))
    (o2 : wr w < 1 → κ (some (zi (wr w))) m) :
    T (D + 5) 133 (5, lo, [zi w], m) κ :=
  zkeep hT hlo (hT.1 [] 6 (D + 5) 133 _ κ (And.intro (fun a1 => (o1 a1)) (fun a2 => (o2 (Classical.byContradiction a2)))))
theorem zb133_5 (hT : zRules T) {D : Nat} {κ : Option zA → zM → Prop} {m : zM} {v : Int} {w : Int} {lo : zL} (hlo : z_keep [0] lo = [(0, zr 1)])  (hB : zB m) (h_v : (-2147483648) ≤ v ∧ v ≤ 2147483647) (h_w : (-2) ≤ w ∧ w ≤ 20) 
    (k1 : ¬ w < 1 → T (D + 4) 173 (0, [(0, zr 1)], [], m) (fun r m1 => T (D + 5) 133 (17, [(0, zr 1), (2, zi w)], r.toList ++ [], m1) κ))
    (k2 : w < 1 → κ (some (zi w)) m) :
    T (D + 5) 133 (5, lo, [zi w], m) κ := by
  have he0 : wr w = w := wr_id (by omega) (by omega)
  have key := @zb133_5r T hT D κ m v w lo hlo
  simp only [he0, Int.toNat_natCast] at key
  exact key
    k1
    k2
theorem zb133_17r (hT : zRules T) {D : Nat} {κ : Option zA → zM → Prop} {m : zM} {w : Nat} {lo : zL} (hlo : z_keep [0, 2] lo = [(0, zr 1), (2, zi (w : Int))]) 
    (o1 : T (D + 4) 10 (0, [(0, zr 25), (1, zi (m 25 3))], [], (zu (zu (zu (zu m 17 12 0) 17 13 0) 17 14 0) 17 13 ((w : Int) - 1))) (fun r m1 => T (D + 5) 133 (48, [(0, zr 1), (2, zi (w : Int))], r.toList ++ [], m1) κ)) :
    T (D + 5) 133 (17, lo, [], m) κ :=
  zkeep hT hlo (hT.1 [] 6 (D + 5) 133 _ κ (hT.1 [] 6 (D + 4) 35 _ _ (And.intro trivial (And.intro trivial (hT.1 [] 6 (D + 4) 35 (10, [(0, zr 17)], [], (zu (zu m 17 12 0) 17 13 0)) _ (And.intro trivial (hT.1 [] 6 (D + 5) 133 _ _ (And.intro trivial (hT.1 [] 6 (D + 5) 133 (34, [(0, zr 1), (2, zi (w : Int))], [], (zu (zu (zu (zu m 17 12 0) 17 13 0) 17 14 0) 17 13 ((w : Int) - 1))) _ (o1))))))))))
theorem zb133_17 (hT : zRules T) {D : Nat} {κ : Option zA → zM → Prop} {m : zM} {w : Nat} {lo : zL} (hlo : z_keep [0, 2] lo = [(0, zr 1), (2, zi (w : Int))])  (hB : zB m) (h_w : w ≤ 20) 
    (k1 : zB (zu (zu (zu (zu m 17 12 0) 17 13 0) 17 14 0) 17 13 ((w : Int) - 1)) → T (D + 4) 10 (0, [(0, zr 25), (1, zi (m 25 3))], [], (zu (zu (zu (zu m 17 12 0) 17 13 0) 17 14 0) 17 13 ((w : Int) - 1))) (fun r m1 => T (D + 5) 133 (48, [(0, zr 1), (2, zi (w : Int))], r.toList ++ [], m1) κ)) :
    T (D + 5) 133 (17, lo, [], m) κ := by
  exact zb133_17r hT hlo
    (k1  (zB_u (zB_u (zB_u (zB_u hB trivial) trivial) trivial) trivial))
theorem zb133_48r (hT : zRules T) {D : Nat} {κ : Option zA → zM → Prop} {m : zM} {lo : zL} (hlo : z_keep [0] lo = [(0, zr 1)]) 
    (o1 : κ (some (zi (wr (wr (wr (wr (((m 17 12) * (m 24 1)) + ((m 17 13) * (m 24 2))))))))) (zu m 17 10 ((m 17 10) - wr (wr (((m 17 12) * (m 24 1)) + ((m 17 13) * (m 24 2))))))) :
    T (D + 5) 133 (48, lo, [], m) κ :=
  zkeep hT hlo (hT.1 [] 6 (D + 5) 133 _ κ (hT.1 [] 6 (D + 4) 37 _ _ (hT.1 [] 6 (D + 3) 36 _ _ (hT.1 [] 6 (D + 2) 33 _ _ (And.intro (z_ixL rfl) (hT.1 [] 6 (D + 2) 33 (8, [(0, zr 17), (1, zi (m 17 12)), (2, zi (m 17 13))], [zi ((m 17 12) * (m 24 1))], m) _ (And.intro (z_ixL rfl) (hT.1 [] 6 (D + 2) 33 (16, [(0, zr 17), (1, zi (m 17 12)), (2, zi (m 17 13))], [zi ((m 17 13) * (m 24 2)), zi ((m 17 12) * (m 24 1))], m) _ (hT.1 [] 6 (D + 3) 36 _ _ (hT.1 [] 6 (D + 4) 37 _ _ (And.intro trivial (hT.1 [] 6 (D + 3) 36 _ _ (hT.1 [] 6 (D + 2) 33 _ _ (And.intro (z_ixL rfl) (hT.1 [] 6 (D + 2) 33 (8, [(0, zr 17), (1, zi (m 17 12)), (2, zi (m 17 13))], [zi ((m 17 12) * (m 24 1))], (zu m 17 10 ((m 17 10) - wr (wr (((m 17 12) * (m 24 1)) + ((m 17 13) * (m 24 2))))))) _ (And.intro (z_ixL rfl) (hT.1 [] 6 (D + 2) 33 (16, [(0, zr 17), (1, zi (m 17 12)), (2, zi (m 17 13))], [zi ((m 17 13) * (m 24 2)), zi ((m 17 12) * (m 24 1))], (zu m 17 10 ((m 17 10) - wr (wr (((m 17 12) * (m 24 1)) + ((m 17 13) * (m 24 2))))))) _ (hT.1 [] 6 (D + 3) 36 _ _ (hT.1 [] 6 (D + 4) 37 _ _ (hT.1 [] 6 (D + 5) 133 _ _ (o1)))))))))))))))))))))
theorem zb133_48 (hT : zRules T) {D : Nat} {κ : Option zA → zM → Prop} {m : zM} {lo : zL} (hlo : z_keep [0] lo = [(0, zr 1)])  (hB : zB m) 
    (k1 : zB (zu m 17 10 ((m 17 10) - wr (((m 17 12) * (m 24 1)) + ((m 17 13) * (m 24 2))))) → κ (some (zi (wr (((m 17 12) * (m 24 1)) + ((m 17 13) * (m 24 2)))))) (zu m 17 10 ((m 17 10) - wr (((m 17 12) * (m 24 1)) + ((m 17 13) * (m 24 2)))))) :
    T (D + 5) 133 (48, lo, [], m) κ := by
  have hb0 : 0 ≤ (m 24 1) ∧ (m 24 1) ≤ 9 := hB 24 1
  have hb1 : 0 ≤ (m 24 2) ∧ (m 24 2) ≤ 9 := hB 24 2
  have hb2 : (-2147483648) ≤ wr (((m 17 12) * (m 24 1)) + ((m 17 13) * (m 24 2))) ∧ wr (((m 17 12) * (m 24 1)) + ((m 17 13) * (m 24 2))) ≤ 2147483647 := wrB (((m 17 12) * (m 24 1)) + ((m 17 13) * (m 24 2)))
  have he0 : wr (wr (((m 17 12) * (m 24 1)) + ((m 17 13) * (m 24 2)))) = wr (((m 17 12) * (m 24 1)) + ((m 17 13) * (m 24 2))) := wr_id (by omega) (by omega)
  have key := @zb133_48r T hT D κ m  lo hlo
  simp only [he0, Int.toNat_natCast] at key
  exact key
    (k1  (zB_u hB trivial))
theorem zb247_0r (hT : zRules T) {D : Nat} {κ : Option zA → zM → Prop} {m : zM} {v : Int} 
    (o1 : wr v < 1 → κ (some (zi (-1))) (zu m 74 12 0))
    (o2 : ¬ wr v < 1 → 999 < wr v → κ (some (zi (-1))) (zu m 74 12 0))
    (o3 : ¬ wr v < 1 → ¬ 999 < wr v → T (D + 3) 246 (0, [(0, zr 74), (1, zi v)], [], (zu m 74 12 0)) (fun r m1 => T (D + 4) 247 (23, [(0, zr 74), (1, zi v)], r.toList ++ [], m1) κ)) :
    T (D + 4) 247 (0, [(0, zr 74), (1, zi v)], [], m) κ :=
  hT.1 [] 6 (D + 4) 247 _ κ (And.intro trivial (hT.1 [] 6 (D + 4) 247 (10, [(0, zr 74), (1, zi v)], [zi 999, zi 1, zi v], (zu m 74 12 0)) _ (hT.1 [] 6 (D + 3) 186 _ _ (And.intro (fun a1 => (And.intro (z_b01L rfl) (hT.1 [] 6 (D + 4) 247 _ _ (And.intro (fun a3 => (z_litF a3 rfl).elim) (fun _ => (o1 a1)))))) (fun a2 => (And.intro (fun a4 => (hT.1 [] 6 (D + 3) 186 (14, [(0, zi v), (1, zi 1), (2, zi 999)], [], (zu m 74 12 0)) _ (And.intro (z_b01L rfl) (hT.1 [] 6 (D + 4) 247 _ _ (And.intro (fun a6 => (z_litF a6 rfl).elim) (fun _ => (o2 a2 a4))))))) (fun a5 => (hT.1 [] 6 (D + 3) 186 (10, [(0, zi v), (1, zi 1), (2, zi 999)], [], (zu m 74 12 0)) _ (And.intro (z_b01L rfl) (hT.1 [] 6 (D + 4) 247 _ _ (And.intro (fun _ => (o3 a2 a5)) (fun a7 => (a7 (z_litT rfl)).elim))))))))))))
theorem zb247_0 (hT : zRules T) {D : Nat} {κ : Option zA → zM → Prop} {m : zM} {v : Int}  (hB : zB m) (h_v : (-2147483648) ≤ v ∧ v ≤ 2147483647) 
    (k1 : v < 1 → zB (zu m 74 12 0) → κ (some (zi (-1))) (zu m 74 12 0))
    (k2 : ¬ v < 1 → 999 < v → zB (zu m 74 12 0) → κ (some (zi (-1))) (zu m 74 12 0))
    (k3 : ¬ v < 1 → ¬ 999 < v → zB (zu m 74 12 0) → T (D + 3) 246 (0, [(0, zr 74), (1, zi v)], [], (zu m 74 12 0)) (fun r m1 => T (D + 4) 247 (23, [(0, zr 74), (1, zi v)], r.toList ++ [], m1) κ)) :
    T (D + 4) 247 (0, [(0, zr 74), (1, zi v)], [], m) κ := by
  have he0 : wr v = v := wr_id (by omega) (by omega)
  have key := @zb247_0r T hT D κ m v
  simp only [he0, Int.toNat_natCast] at key
  exact key
    (fun x0 => k1 x0 (zB_u hB trivial))
    (fun x0 x1 => k2 x0 x1 (zB_u hB trivial))
    (fun x0 x1 => k3 x0 x1 (zB_u hB trivial))
theorem zb247_23r (hT : zRules T) {D : Nat} {κ : Option zA → zM → Prop} {m : zM} {v : Int} {w : Int} {lo : zL} (hlo : z_keep [0] lo = [(0, zr 74)]) 
    (o1 : ¬ wr w < 0 → κ (some (zi (wr w))) (zu (zu (zu (zu (zu m 74 11 0) 81 0 (m 74 39)) 74 11 1) 81 1 (m 74 38)) 74 11 2))
    (o2 : wr w < 0 → κ (some (zi (wr w))) m) :
    T (D + 4) 247 (23, lo, [zi w], m) κ :=
  zkeep hT hlo (hT.1 [] 6 (D + 4) 247 _ κ (And.intro (fun a1 => (And.intro trivial (hT.1 [] 6 (D + 4) 247 (35, [(0, zr 74), (2, zi w)], [], (zu m 74 11 0)) _ (hT.1 [] 6 (D + 3) 189 _ _ (And.intro (And.intro (z_ixL rfl) trivial) (hT.1 [] 6 (D + 3) 189 (10, [(0, zr 74), (1, zi (m 74 39))], [], (zu (zu m 74 11 0) 81 0 (m 74 39))) _ (And.intro trivial (hT.1 [] 6 (D + 3) 189 (20, [(0, zr 74), (1, zi (m 74 39))], [], (zu (zu (zu m 74 11 0) 81 0 (m 74 39)) 74 11 1)) _ (hT.1 [] 6 (D + 4) 247 _ _ (hT.1 [] 6 (D + 3) 189 _ _ (And.intro (And.intro (z_ixL rfl) trivial) (hT.1 [] 6 (D + 3) 189 (10, [(0, zr 74), (1, zi (m 74 38))], [], (zu (zu (zu (zu m 74 11 0) 81 0 (m 74 39)) 74 11 1) 81 1 (m 74 38))) _ (And.intro trivial (hT.1 [] 6 (D + 3) 189 (20, [(0, zr 74), (1, zi (m 74 38))], [], (zu (zu (zu (zu (zu m 74 11 0) 81 0 (m 74 39)) 74 11 1) 81 1 (m 74 38)) 74 11 2)) _ (hT.1 [] 6 (D + 4) 247 _ _ (o1 a1)))))))))))))))) (fun a2 => (o2 (Classical.byContradiction a2)))))
theorem zb247_23 (hT : zRules T) {D : Nat} {κ : Option zA → zM → Prop} {m : zM} {v : Int} {w : Int} {lo : zL} (hlo : z_keep [0] lo = [(0, zr 74)])  (hB : zB m) (h_v : (-2147483648) ≤ v ∧ v ≤ 2147483647) (h_w : (-2) ≤ w ∧ w ≤ 20) 
    (k1 : ¬ w < 0 → zB (zu (zu (zu (zu (zu m 74 11 0) 81 0 (m 74 39)) 74 11 1) 81 1 (m 74 38)) 74 11 2) → κ (some (zi w)) (zu (zu (zu (zu (zu m 74 11 0) 81 0 (m 74 39)) 74 11 1) 81 1 (m 74 38)) 74 11 2))
    (k2 : w < 0 → κ (some (zi w)) m) :
    T (D + 4) 247 (23, lo, [zi w], m) κ := by
  have he0 : wr w = w := wr_id (by omega) (by omega)
  have key := @zb247_23r T hT D κ m v w lo hlo
  simp only [he0, Int.toNat_natCast] at key
  exact key
    (fun x0 => k1 x0 (zB_u (zB_u (zB_u (zB_u (zB_u hB (show 0 ≤ 0 ∧ 0 ≤ 32 from ⟨by omega, by omega⟩)) trivial) (show 0 ≤ 1 ∧ 1 ≤ 32 from ⟨by omega, by omega⟩)) trivial) (show 0 ≤ 2 ∧ 2 ≤ 32 from ⟨by omega, by omega⟩)))
    k2
theorem zb248_0r (hT : zRules T) {D : Nat} {κ : Option zA → zM → Prop} {m : zM} {v : Int} 
    (o1 : wr v < 1 → κ (some (zi (-1))) (zu m 74 12 0))
    (o2 : ¬ wr v < 1 → 999 < wr v → κ (some (zi (-1))) (zu m 74 12 0))
    (o3 : ¬ wr v < 1 → ¬ 999 < wr v → T (D + 3) 246 (0, [(0, zr 74), (1, zi v)], [], (zu m 74 12 0)) (fun r m1 => T (D + 4) 248 (23, [(0, zr 74), (1, zi v)], r.toList ++ [], m1) κ)) :
    T (D + 4) 248 (0, [(0, zr 74), (1, zi v)], [], m) κ :=
  hT.1 [(41, [0, 2, 3])] 6 (D + 4) 248 _ κ (And.intro trivial (hT.1 [(41, [0, 2, 3])] 6 (D + 4) 248 (10, [(0, zr 74), (1, zi v)], [zi 999, zi 1, zi v], (zu m 74 12 0)) _ (hT.1 [] 6 (D + 3) 186 _ _ (And.intro (fun a1 => (And.intro (z_b01L rfl) (hT.1 [(41, [0, 2, 3])] 6 (D + 4) 248 _ _ (And.intro (fun a3 => (z_litF a3 rfl).elim) (fun _ => (o1 a1)))))) (fun a2 => (And.intro (fun a4 => (hT.1 [] 6 (D + 3) 186 (14, [(0, zi v), (1, zi 1), (2, zi 999)], [], (zu m 74 12 0)) _ (And.intro (z_b01L rfl) (hT.1 [(41, [0, 2, 3])] 6 (D + 4) 248 _ _ (And.intro (fun a6 => (z_litF a6 rfl).elim) (fun _ => (o2 a2 a4))))))) (fun a5 => (hT.1 [] 6 (D + 3) 186 (10, [(0, zi v), (1, zi 1), (2, zi 999)], [], (zu m 74 12 0)) _ (And.intro (z_b01L rfl) (hT.1 [(41, [0, 2, 3])] 6 (D + 4) 248 _ _ (And.intro (fun _ => (o3 a2 a5)) (fun a7 => (a7 (z_litT rfl)).elim))))))))))))
theorem zb248_0 (hT : zRules T) {D : Nat} {κ : Option zA → zM → Prop} {m : zM} {v : Int}  (hB : zB m) (h_v : (-2147483648) ≤ v ∧ v ≤ 2147483647) 
    (k1 : v < 1 → zB (zu m 74 12 0) → κ (some (zi (-1))) (zu m 74 12 0))
    (k2 : ¬ v < 1 → 999 < v → zB (zu m 74 12 0) → κ (some (zi (-1))) (zu m 74 12 0))
    (k3 : ¬ v < 1 → ¬ 999 < v → zB (zu m 74 12 0) → T (D + 3) 246 (0, [(0, zr 74), (1, zi v)], [], (zu m 74 12 0)) (fun r m1 => T (D + 4) 248 (23, [(0, zr 74), (1, zi v)], r.toList ++ [], m1) κ)) :
    T (D + 4) 248 (0, [(0, zr 74), (1, zi v)], [], m) κ := by
  have he0 : wr v = v := wr_id (by omega) (by omega)
  have key := @zb248_0r T hT D κ m v
  simp only [he0, Int.toNat_natCast] at key
  exact key
    (fun x0 => k1 x0 (zB_u hB trivial))
    (fun x0 x1 => k2 x0 x1 (zB_u hB trivial))
    (fun x0 x1 => k3 x0 x1 (zB_u hB trivial))
theorem zb248_23r (hT : zRules T) {D : Nat} {κ : Option zA → zM → Prop} {m : zM} {v : Int} {w : Int} {lo : zL} (hlo : z_keep [0] lo = [(0, zr 74)]) 
    (o1 : ¬ wr w < 0 → T (D + 3) 229 (0, [(0, zr 74), (1, zr 75)], [], m) (fun r m1 => T (D + 4) 248 (38, [(0, zr 74), (2, zi w)], r.toList ++ [], m1) κ))
    (o2 : wr w < 0 → κ (some (zi (wr w))) m) :
    T (D + 4) 248 (23, lo, [zi w], m) κ :=
  zkeep hT hlo (hT.1 [(41, [0, 2, 3])] 6 (D + 4) 248 _ κ (And.intro (fun a1 => (hT.1 [(41, [0, 2, 3])] 6 (D + 4) 248 (35, [(0, zr 74), (2, zi w)], [zr 75, zr 74], m) _ (o1 a1))) (fun a2 => (o2 (Classical.byContradiction a2)))))
theorem zb248_23 (hT : zRules T) {D : Nat} {κ : Option zA → zM → Prop} {m : zM} {v : Int} {w : Int} {lo : zL} (hlo : z_keep [0] lo = [(0, zr 74)])  (hB : zB m) (h_v : (-2147483648) ≤ v ∧ v ≤ 2147483647) (h_w : (-2) ≤ w ∧ w ≤ 20) 
    (k1 : ¬ w < 0 → T (D + 3) 229 (0, [(0, zr 74), (1, zr 75)], [], m) (fun r m1 => T (D + 4) 248 (38, [(0, zr 74), (2, zi w)], r.toList ++ [], m1) κ))
    (k2 : w < 0 → κ (some (zi w)) m) :
    T (D + 4) 248 (23, lo, [zi w], m) κ := by
  have he0 : wr w = w := wr_id (by omega) (by omega)
  have key := @zb248_23r T hT D κ m v w lo hlo
  simp only [he0, Int.toNat_natCast] at key
  exact key
    k1
    k2
theorem zb248_38r (hT : zRules T) {D : Nat} {κ : Option zA → zM → Prop} {m : zM} {w : Nat} {lo : zL} (hlo : z_keep [0, 2] lo = [(0, zr 74), (2, zi (w : Int))]) 
    (o1 : T (D + 4) 248 (41, [(0, zr 74), (2, zi (w : Int)), (3, zi 19)], [], m) κ) :
    T (D + 4) 248 (38, lo, [], m) κ :=
  zkeep hT hlo (hT.1 [(41, [0, 2, 3])] 6 (D + 4) 248 _ κ (o1))
theorem zb248_38 (hT : zRules T) {D : Nat} {κ : Option zA → zM → Prop} {m : zM} {w : Nat} {lo : zL} (hlo : z_keep [0, 2] lo = [(0, zr 74), (2, zi (w : Int))])  (hB : zB m) (h_w : w ≤ 20) 
    (k1 : T (D + 4) 248 (41, [(0, zr 74), (2, zi (w : Int)), (3, zi 19)], [], m) κ) :
    T (D + 4) 248 (38, lo, [], m) κ := by
  exact zb248_38r hT hlo
    k1
theorem zb248_41r (hT : zRules T) {D : Nat} {κ : Option zA → zM → Prop} {m : zM} {w : Nat} {i : Int} {lo : zL} (hlo : z_keep [0, 2, 3] lo = [(0, zr 74), (2, zi (w : Int)), (3, zi i)]) 
    (o1 : wr i < 0 → κ (some (zi (wr ((m 79 2) * ((w : Int) - 1))))) (zu m 75 58 ((m 75 58) - ((m 79 2) * ((w : Int) - 1)))))
    (o2 : ¬ wr i < 0 → ¬ wr (z_and (z_shr (m 74 38) i) 1) = 1 → T (D + 4) 248 (41, [(0, zr 74), (2, zi (w : Int)), (3, zi (i + (-1)))], [], m) κ)
    (o3 : ¬ wr i < 0 → wr (z_and (z_shr (m 74 38) i) 1) = 1 → T (D + 3) 243 (0, [(0, zr 74), (1, zi i)], [], m) (fun r m1 => T (D + 4) 248 (61, [(0, zr 74), (2, zi (w : Int)), (3, zi i)], r.toList ++ [], m1) κ)) :
    T (D + 4) 248 (41, lo, [], m) κ :=
  zkeep hT hlo (hT.1 [(41, [0, 2, 3])] 6 (D + 4) 248 _ κ (And.intro (fun a1 => (hT.1 [(41, [0, 2, 3])] 6 (D + 4) 248 (74, [(0, zr 74), (2, zi (w : Int)), (3, zi i)], [zi 58, zr 75, zi 58, zr 75], m) _ (And.intro (z_ixL rfl) (And.intro (z_ixL rfl) (hT.1 [(41, [0, 2, 3])] 6 (D + 4) 248 (82, [(0, zr 74), (2, zi (w : Int)), (3, zi i)], [zi (w : Int), zi (m 79 2), zi (m 75 58), zi 58, zr 75], m) _ (And.intro (And.intro (z_ixL rfl) trivial) (hT.1 [(41, [0, 2, 3])] 6 (D + 4) 248 (88, [(0, zr 74), (2, zi (w : Int)), (3, zi i)], [zr 74], (zu m 75 58 ((m 75 58) - ((m 79 2) * ((w : Int) - 1))))) _ (And.intro (z_ixL rfl) (hT.1 [(41, [0, 2, 3])] 6 (D + 4) 248 (96, [(0, zr 74), (2, zi (w : Int)), (3, zi i)], [zi ((w : Int) - 1), zi (m 79 2)], (zu m 75 58 ((m 75 58) - ((m 79 2) * ((w : Int) - 1))))) _ (o1 a1)))))))))) (fun a2 => (hT.1 [] 6 (D + 3) 187 _ _ (hT.1 [] 6 (D + 3) 187 (6, [(0, zi (m 74 38)), (1, zi i)], [zi 1, zi (z_and (z_shr (m 74 38) i) 1)], m) _ (And.intro (fun a3 => (And.intro (z_b01L rfl) (hT.1 [(41, [0, 2, 3])] 6 (D + 4) 248 _ _ (And.intro (fun _ => (o2 a2 a3)) (fun a5 => (a5 (z_litT rfl)).elim))))) (fun a4 => (And.intro (z_b01L rfl) (hT.1 [(41, [0, 2, 3])] 6 (D + 4) 248 _ _ (And.intro (fun a6 => (z_litF a6 rfl).elim) (fun _ => (o3 a2 (Classical.byContradiction a4)))))))))))))
theorem zb248_41 (hT : zRules T) {D : Nat} {κ : Option zA → zM → Prop} {m : zM} {w : Nat} {i : Int} {lo : zL} (hlo : z_keep [0, 2, 3] lo = [(0, zr 74), (2, zi (w : Int)), (3, zi i)])  (hB : zB m) (h_w : w ≤ 20) (h_i : (-1) ≤ i ∧ i ≤ 19) 
    (k1 : i < 0 → zB (zu m 75 58 ((m 75 58) - ((m 79 2) * ((w : Int) - 1)))) → κ (some (zi (wr ((m 79 2) * ((w : Int) - 1))))) (zu m 75 58 ((m 75 58) - ((m 79 2) * ((w : Int) - 1)))))
    (k2 : ¬ i < 0 → ¬ (z_and (z_shr (m 74 38) i) 1) = 1 → T (D + 4) 248 (41, [(0, zr 74), (2, zi (w : Int)), (3, zi (i + (-1)))], [], m) κ)
    (k3 : ¬ i < 0 → (z_and (z_shr (m 74 38) i) 1) = 1 → T (D + 3) 243 (0, [(0, zr 74), (1, zi i)], [], m) (fun r m1 => T (D + 4) 248 (61, [(0, zr 74), (2, zi (w : Int)), (3, zi i)], r.toList ++ [], m1) κ)) :
    T (D + 4) 248 (41, lo, [], m) κ := by
  have hb2 : 0 ≤ (m 79 2) ∧ (m 79 2) ≤ 9 := hB 79 2
  have hb3 : (-2147483648) ≤ wr ((m 79 2) * ((w : Int) - 1)) ∧ wr ((m 79 2) * ((w : Int) - 1)) ≤ 2147483647 := wrB ((m 79 2) * ((w : Int) - 1))
  have hb4 : (-2147483648) ≤ (z_shr (m 74 38) i) ∧ (z_shr (m 74 38) i) ≤ 2147483647 := z_shrB (m 74 38) i
  have hb5 : 0 ≤ (z_and (z_shr (m 74 38) i) 1) ∧ (z_and (z_shr (m 74 38) i) 1) ≤ 1 := z_andC (z_shr (m 74 38) i) 1 (by decide)
  have he0 : wr i = i := wr_id (by omega) (by omega)
  have he1 : wr (z_and (z_shr (m 74 38) i) 1) = (z_and (z_shr (m 74 38) i) 1) := wr_id (by omega) (by omega)
  have key := @zb248_41r T hT D κ m w i lo hlo
  simp only [he0, he1, Int.toNat_natCast] at key
  exact key
    (fun x0 => k1 x0 (zB_u hB trivial))
    k2
    k3
theorem zb248_61r (hT : zRules T) {D : Nat} {κ : Option zA → zM → Prop} {m : zM} {w : Nat} {i : Nat} {lo : zL} (hlo : z_keep [0, 2, 3] lo = [(0, zr 74), (2, zi (w : Int)), (3, zi (i : Int))]) 
    (o1 : T (D + 4) 248 (41, [(0, zr 74), (2, zi (w : Int)), (3, zi ((i : Int) + (-1)))], [], m) κ) :
    T (D + 4) 248 (61, lo, [], m) κ :=
  zkeep hT hlo (hT.1 [(41, [0, 2, 3])] 6 (D + 4) 248 _ κ (o1))
theorem zb248_61 (hT : zRules T) {D : Nat} {κ : Option zA → zM → Prop} {m : zM} {w : Nat} {i : Nat} {lo : zL} (hlo : z_keep [0, 2, 3] lo = [(0, zr 74), (2, zi (w : Int)), (3, zi (i : Int))])  (hB : zB m) (h_w : w ≤ 20) (h_i : i ≤ 19) 
    (k1 : T (D + 4) 248 (41, [(0, zr 74), (2, zi (w : Int)), (3, zi ((i : Int) + (-1)))], [], m) κ) :
    T (D + 4) 248 (61, lo, [], m) κ := by
  exact zb248_61r hT hlo
    k1
end ZBlocks
