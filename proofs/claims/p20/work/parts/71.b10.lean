section ZBlocks
variable {T : Nat → Nat → zG → (Option zA → zM → Prop) → Prop}
theorem zb117_0r (hT : zRules T) {D : Nat} {κ : Option zA → zM → Prop} {m : zM} {p : Int} {w : Int} 
    (o1 : wr p < 0 → κ none m)
    (o2 : ¬ wr p < 0 → ¬ wr p < wr (m 17 0) → κ none m)
    (o3 : ¬ wr p < 0 → wr p < wr (m 17 0) → wr w = 0 → (0 ≤ wr p ∧ wr p < 6))
    (o4 : ¬ wr p < 0 → wr p < wr (m 17 0) → wr w = 0 → κ (some (zi (wr (m 18 ((wr p).toNat))))) m)
    (o5 : ¬ wr p < 0 → wr p < wr (m 17 0) → ¬ wr w = 0 → wr w = 1 → (0 ≤ wr p ∧ wr p < 6))
    (o6 : ¬ wr p < 0 → wr p < wr (m 17 0) → ¬ wr w = 0 → wr w = 1 → κ (some (zi (wr (m 19 ((wr p).toNat))))) m)
    (o7 : ¬ wr p < 0 → wr p < wr (m 17 0) → ¬ wr w = 0 → ¬ wr w = 1 → wr w = 2 → (0 ≤ wr p ∧ wr p < 6))
    (o8 : ¬ wr p < 0 → wr p < wr (m 17 0) → ¬ wr w = 0 → ¬ wr w = 1 → wr w = 2 → κ (some (zi (wr (m 20 ((wr p).toNat))))) m)
    (o9 : ¬ wr p < 0 → wr p < wr (m 17 0) → ¬ wr w = 0 → ¬ wr w = 1 → ¬ wr w = 2 → wr w = 3 → T (D + 5) 171 (0, [(0, zr 1), (1, zi p)], [], m) (fun r m1 => T (D + 6) 117 (91, [(0, zr 1), (1, zi p), (2, zi w)], r.toList ++ [], m1) κ))
    (o10 : ¬ wr p < 0 → wr p < wr (m 17 0) → ¬ wr w = 0 → ¬ wr w = 1 → ¬ wr w = 2 → ¬ wr w = 3 → wr w = 4 → T (D + 5) 172 (0, [(0, zr 1), (1, zi p)], [], m) (fun r m1 => T (D + 6) 117 (97, [(0, zr 1), (1, zi p), (2, zi w)], r.toList ++ [], m1) κ))
    (o11 : ¬ wr p < 0 → wr p < wr (m 17 0) → ¬ wr w = 0 → ¬ wr w = 1 → ¬ wr w = 2 → ¬ wr w = 3 → ¬ wr w = 4 → κ none m) :
    T (D + 6) 117 (0, [(0, zr 1), (1, zi p), (2, zi w)], [], m) κ :=
  hT.1 [] 6 (D + 6) 117 _ κ (hT.1 [] 6 (D + 5) 25 _ _ (And.intro (fun a1 => (And.intro (z_b01L rfl) (hT.1 [] 6 (D + 6) 117 _ _ (And.intro (fun a3 => (z_litF a3 rfl).elim) (fun _ => (And.intro rfl (o1 a1))))))) (fun a2 => (And.intro (fun a4 => (hT.1 [] 6 (D + 5) 25 (16, [(0, zr 17), (1, zi p)], [], m) _ (And.intro (z_b01L rfl) (hT.1 [] 6 (D + 6) 117 _ _ (And.intro (fun a6 => (z_litF a6 rfl).elim) (fun _ => (And.intro rfl (o2 a2 a4)))))))) (fun a5 => (hT.1 [] 6 (D + 5) 25 (12, [(0, zr 17), (1, zi p)], [], m) _ (And.intro (z_b01L rfl) (hT.1 [] 6 (D + 6) 117 _ _ (And.intro (fun _ => (And.intro (fun a8 => (hT.1 [] 6 (D + 6) 117 (63, [(0, zr 1), (1, zi p), (2, zi w)], [zr 18], m) _ (And.intro (o3 a2 (Classical.byContradiction a5) a8) (o4 a2 (Classical.byContradiction a5) a8)))) (fun a9 => (And.intro (fun a10 => (hT.1 [] 6 (D + 6) 117 (73, [(0, zr 1), (1, zi p), (2, zi w)], [zr 19], m) _ (And.intro (o5 a2 (Classical.byContradiction a5) a9 a10) (o6 a2 (Classical.byContradiction a5) a9 a10)))) (fun a11 => (And.intro (fun a12 => (hT.1 [] 6 (D + 6) 117 (83, [(0, zr 1), (1, zi p), (2, zi w)], [zr 20], m) _ (And.intro (o7 a2 (Classical.byContradiction a5) a9 a11 a12) (o8 a2 (Classical.byContradiction a5) a9 a11 a12)))) (fun a13 => (And.intro (fun a14 => (o9 a2 (Classical.byContradiction a5) a9 a11 a13 a14)) (fun a15 => (And.intro (fun a16 => (o10 a2 (Classical.byContradiction a5) a9 a11 a13 a15 a16)) (fun a17 => (And.intro rfl (o11 a2 (Classical.byContradiction a5) a9 a11 a13 a15 a17))))))))))))) (fun a7 => (a7 (z_litT rfl)).elim))))))))))
theorem zb117_0 (hT : zRules T) {D : Nat} {κ : Option zA → zM → Prop} {m : zM} {p : Int} {w : Int}  (hB : zB m) (h_p : (-2147483648) ≤ p ∧ p ≤ 2147483647) (h_w : (-2147483648) ≤ w ∧ w ≤ 2147483647) 
    (k1 : p < 0 → κ none m)
    (k2 : ¬ p < 0 → ¬ p < (m 17 0) → κ none m)
    (k3 : ¬ p < 0 → p < (m 17 0) → w = 0 → κ (some (zi (m 18 (p.toNat)))) m)
    (k4 : ¬ p < 0 → p < (m 17 0) → ¬ w = 0 → w = 1 → κ (some (zi (m 19 (p.toNat)))) m)
    (k5 : ¬ p < 0 → p < (m 17 0) → ¬ w = 0 → ¬ w = 1 → w = 2 → κ (some (zi (m 20 (p.toNat)))) m)
    (k6 : ¬ p < 0 → p < (m 17 0) → ¬ w = 0 → ¬ w = 1 → ¬ w = 2 → w = 3 → T (D + 5) 171 (0, [(0, zr 1), (1, zi p)], [], m) (fun r m1 => T (D + 6) 117 (91, [(0, zr 1), (1, zi p), (2, zi w)], r.toList ++ [], m1) κ))
    (k7 : ¬ p < 0 → p < (m 17 0) → ¬ w = 0 → ¬ w = 1 → ¬ w = 2 → ¬ w = 3 → w = 4 → T (D + 5) 172 (0, [(0, zr 1), (1, zi p)], [], m) (fun r m1 => T (D + 6) 117 (97, [(0, zr 1), (1, zi p), (2, zi w)], r.toList ++ [], m1) κ))
    (k8 : ¬ p < 0 → p < (m 17 0) → ¬ w = 0 → ¬ w = 1 → ¬ w = 2 → ¬ w = 3 → ¬ w = 4 → κ none m) :
    T (D + 6) 117 (0, [(0, zr 1), (1, zi p), (2, zi w)], [], m) κ := by
  have hb2 : 0 ≤ (m 17 0) ∧ (m 17 0) ≤ 6 := hB 17 0
  have hb3 : (-1) ≤ (m 18 (p.toNat)) ∧ (m 18 (p.toNat)) ≤ 99 := hB 18 (p.toNat)
  have hb4 : (-1) ≤ (m 19 (p.toNat)) ∧ (m 19 (p.toNat)) ≤ 3 := hB 19 (p.toNat)
  have hb5 : (-1) ≤ (m 20 (p.toNat)) ∧ (m 20 (p.toNat)) ≤ 7 := hB 20 (p.toNat)
  have he0 : wr p = p := wr_id (by omega) (by omega)
  have he1 : wr (m 17 0) = (m 17 0) := wr_id (by omega) (by omega)
  have he2 : wr w = w := wr_id (by omega) (by omega)
  have he3 : wr (m 18 (p.toNat)) = (m 18 (p.toNat)) := wr_id (by omega) (by omega)
  have he4 : wr (m 19 (p.toNat)) = (m 19 (p.toNat)) := wr_id (by omega) (by omega)
  have he5 : wr (m 20 (p.toNat)) = (m 20 (p.toNat)) := wr_id (by omega) (by omega)
  have key := @zb117_0r T hT D κ m p w
  simp only [he0, he1, he2, he3, he4, he5, Int.toNat_natCast] at key
  exact key
    k1
    k2
    (fun x0 x1 x2 => by refine ⟨?_, ?_⟩ <;> omega)
    k3
    (fun x0 x1 x2 x3 => by refine ⟨?_, ?_⟩ <;> omega)
    k4
    (fun x0 x1 x2 x3 x4 => by refine ⟨?_, ?_⟩ <;> omega)
    k5
    k6
    k7
    k8
theorem zb117_91r (hT : zRules T) {D : Nat} {κ : Option zA → zM → Prop} {m : zM} {v : Int} {lo : zL} (hlo : z_keep [] lo = []) 
    (o1 : κ (some (zi (wr v))) m) :
    T (D + 6) 117 (91, lo, [zi v], m) κ :=
  zkeep hT hlo (hT.1 [] 6 (D + 6) 117 _ κ (o1))
theorem zb117_91 (hT : zRules T) {D : Nat} {κ : Option zA → zM → Prop} {m : zM} {v : Int} {lo : zL} (hlo : z_keep [] lo = [])  (h_v : 0 ≤ v ∧ v ≤ 99) 
    (k1 : κ (some (zi v)) m) :
    T (D + 6) 117 (91, lo, [zi v], m) κ := by
  have he0 : wr v = v := wr_id (by omega) (by omega)
  have key := @zb117_91r T hT D κ m v lo hlo
  simp only [he0, Int.toNat_natCast] at key
  exact key
    k1
theorem zb117_97r (hT : zRules T) {D : Nat} {κ : Option zA → zM → Prop} {m : zM} {v : Int} {lo : zL} (hlo : z_keep [] lo = []) 
    (o1 : wr v = 0 → κ (some (zi 0)) m)
    (o2 : ¬ wr v = 0 → κ (some (zi 1)) m) :
    T (D + 6) 117 (97, lo, [zi v], m) κ :=
  zkeep hT hlo (hT.1 [] 6 (D + 6) 117 _ κ (And.intro (fun a1 => (o1 a1)) (fun a2 => (o2 a2))))
theorem zb117_97 (hT : zRules T) {D : Nat} {κ : Option zA → zM → Prop} {m : zM} {v : Int} {lo : zL} (hlo : z_keep [] lo = [])  (h_v : 0 ≤ v ∧ v ≤ 1) 
    (k1 : v = 0 → κ (some (zi 0)) m)
    (k2 : ¬ v = 0 → κ (some (zi 1)) m) :
    T (D + 6) 117 (97, lo, [zi v], m) κ := by
  have he0 : wr v = v := wr_id (by omega) (by omega)
  have key := @zb117_97r T hT D κ m v lo hlo
  simp only [he0, Int.toNat_natCast] at key
  exact key
    k1
    k2
theorem zb172_0r (hT : zRules T) {D : Nat} {κ : Option zA → zM → Prop} {m : zM} {p : Nat} 
    (o1 : (0 ≤ wr (p : Int) ∧ wr (p : Int) < 6))
    (o2 : wr (m 20 ((wr (p : Int)).toNat)) < 0 → κ (some (zi 0)) m)
    (o3 : ¬ wr (m 20 ((wr (p : Int)).toNat)) < 0 → ¬ wr (m 20 ((wr (p : Int)).toNat)) < wr (m 17 1) → κ (some (zi 0)) m)
    (o4 : ¬ wr (m 20 ((wr (p : Int)).toNat)) < 0 → wr (m 20 ((wr (p : Int)).toNat)) < wr (m 17 1) → (0 ≤ wr (m 20 ((wr (p : Int)).toNat)) ∧ wr (m 20 ((wr (p : Int)).toNat)) < 8))
    (o5 : ¬ wr (m 20 ((wr (p : Int)).toNat)) < 0 → wr (m 20 ((wr (p : Int)).toNat)) < wr (m 17 1) → T (D + 4) 171 (0, [(0, zr 1), (1, zi (p : Int))], [], m) (fun r m1 => T (D + 5) 172 (35, [(0, zr 1), (1, zi (p : Int)), (2, zi (m 20 ((wr (p : Int)).toNat)))], r.toList ++ [zi (m 21 ((wr (m 20 ((wr (p : Int)).toNat))).toNat))], m1) κ)) :
    T (D + 5) 172 (0, [(0, zr 1), (1, zi (p : Int))], [], m) κ :=
  hT.1 [] 6 (D + 5) 172 _ κ (And.intro (o1) (hT.1 [] 6 (D + 5) 172 (10, [(0, zr 1), (1, zi (p : Int)), (2, zi (m 20 ((wr (p : Int)).toNat)))], [], m) _ (hT.1 [] 6 (D + 4) 26 _ _ (And.intro (fun a1 => (And.intro (z_b01L rfl) (hT.1 [] 6 (D + 5) 172 _ _ (And.intro (fun _ => (And.intro (z_b01L rfl) (o2 a1))) (fun a3 => (a3 (z_litT rfl)).elim))))) (fun a2 => (And.intro (fun a4 => (hT.1 [] 6 (D + 4) 26 (16, [(0, zr 17), (1, zi (m 20 ((wr (p : Int)).toNat)))], [], m) _ (And.intro (z_b01L rfl) (hT.1 [] 6 (D + 5) 172 _ _ (And.intro (fun _ => (And.intro (z_b01L rfl) (o3 a2 a4))) (fun a6 => (a6 (z_litT rfl)).elim)))))) (fun a5 => (hT.1 [] 6 (D + 4) 26 (12, [(0, zr 17), (1, zi (m 20 ((wr (p : Int)).toNat)))], [], m) _ (And.intro (z_b01L rfl) (hT.1 [] 6 (D + 5) 172 _ _ (And.intro (fun a7 => (z_litF a7 rfl).elim) (fun _ => (And.intro (o4 a2 (Classical.byContradiction a5)) (hT.1 [] 6 (D + 5) 172 (30, [(0, zr 1), (1, zi (p : Int)), (2, zi (m 20 ((wr (p : Int)).toNat)))], [zi (m 21 ((wr (m 20 ((wr (p : Int)).toNat))).toNat))], m) _ (o5 a2 (Classical.byContradiction a5))))))))))))))))
theorem zb172_0 (hT : zRules T) {D : Nat} {κ : Option zA → zM → Prop} {m : zM} {p : Nat}  (hB : zB m) (h_p : p ≤ 5) 
    (k1 : (m 20 p) < 0 → κ (some (zi 0)) m)
    (k2 : ¬ (m 20 p) < 0 → ¬ (m 20 p) < (m 17 1) → κ (some (zi 0)) m)
    (k3 : ¬ (m 20 p) < 0 → (m 20 p) < (m 17 1) → T (D + 4) 171 (0, [(0, zr 1), (1, zi (p : Int))], [], m) (fun r m1 => T (D + 5) 172 (35, [(0, zr 1), (1, zi (p : Int)), (2, zi (m 20 p))], r.toList ++ [zi (m 21 ((m 20 p).toNat))], m1) κ)) :
    T (D + 5) 172 (0, [(0, zr 1), (1, zi (p : Int))], [], m) κ := by
  have hb1 : (-1) ≤ (m 20 p) ∧ (m 20 p) ≤ 7 := hB 20 p
  have hb2 : 0 ≤ (m 17 1) ∧ (m 17 1) ≤ 8 := hB 17 1
  have hb3 : (-1) ≤ (m 21 ((m 20 p).toNat)) ∧ (m 21 ((m 20 p).toNat)) ≤ 99 := hB 21 ((m 20 p).toNat)
  have he0 : wr (p : Int) = (p : Int) := wr_id (by omega) (by omega)
  have he1 : (p : Int).toNat = p := by omega
  have he2 : wr (m 20 p) = (m 20 p) := wr_id (by omega) (by omega)
  have he3 : wr (m 17 1) = (m 17 1) := wr_id (by omega) (by omega)
  have key := @zb172_0r T hT D κ m p
  simp only [he0, he1, he2, he3, Int.toNat_natCast] at key
  exact key
    (by refine ⟨?_, ?_⟩ <;> omega)
    k1
    k2
    (fun x0 x1 => by refine ⟨?_, ?_⟩ <;> omega)
    k3
theorem zb172_35r (hT : zRules T) {D : Nat} {κ : Option zA → zM → Prop} {m : zM} {l : Int} {v : Int} {lo : zL} (hlo : z_keep [] lo = []) 
    (o1 : ¬ wr l = wr v → κ (some (zi 0)) m)
    (o2 : wr l = wr v → κ (some (zi 1)) m) :
    T (D + 5) 172 (35, lo, [zi v, zi l], m) κ :=
  zkeep hT hlo (hT.1 [] 6 (D + 5) 172 _ κ (And.intro (fun a1 => (And.intro (z_b01L rfl) (o1 a1))) (fun a2 => (And.intro (z_b01L rfl) (o2 (Classical.byContradiction a2))))))
theorem zb172_35 (hT : zRules T) {D : Nat} {κ : Option zA → zM → Prop} {m : zM} {l : Int} {v : Int} {lo : zL} (hlo : z_keep [] lo = [])  (h_l : (-1) ≤ l ∧ l ≤ 99) (h_v : 0 ≤ v ∧ v ≤ 99) 
    (k1 : ¬ l = v → κ (some (zi 0)) m)
    (k2 : l = v → κ (some (zi 1)) m) :
    T (D + 5) 172 (35, lo, [zi v, zi l], m) κ := by
  have he0 : wr l = l := wr_id (by omega) (by omega)
  have he1 : wr v = v := wr_id (by omega) (by omega)
  have key := @zb172_35r T hT D κ m l v lo hlo
  simp only [he0, he1, Int.toNat_natCast] at key
  exact key
    k1
    k2
theorem zb218_0r (hT : zRules T) {D : Nat} {κ : Option zA → zM → Prop} {m : zM} {p : Int} {w : Int} 
    (o1 : wr p < 0 → κ (some (zi 0)) (zu (zu m 74 12 0) 74 12 1))
    (o2 : ¬ wr p < 0 → wr ((m 74 4) - 1) < wr p → κ (some (zi 0)) (zu (zu m 74 12 0) 74 12 1))
    (o3 : ¬ wr p < 0 → ¬ wr ((m 74 4) - 1) < wr p → wr w < 0 → κ (some (zi 0)) (zu (zu m 74 12 0) 74 12 1))
    (o4 : ¬ wr p < 0 → ¬ wr ((m 74 4) - 1) < wr p → ¬ wr w < 0 → 4 < wr w → κ (some (zi 0)) (zu (zu m 74 12 0) 74 12 1))
    (o5 : ¬ wr p < 0 → ¬ wr ((m 74 4) - 1) < wr p → ¬ wr w < 0 → ¬ 4 < wr w → (0 ≤ wr (6 + p) ∧ wr (6 + p) < 59))
    (o6 : ¬ wr p < 0 → ¬ wr ((m 74 4) - 1) < wr p → ¬ wr w < 0 → ¬ 4 < wr w → wr w = 0 → (0 ≤ wr p ∧ wr p < 6))
    (o7 : ¬ wr p < 0 → ¬ wr ((m 74 4) - 1) < wr p → ¬ wr w < 0 → ¬ 4 < wr w → wr w = 0 → κ (some (zi (wr (m 78 ((wr p).toNat))))) (zu m 74 12 0))
    (o8 : ¬ wr p < 0 → ¬ wr ((m 74 4) - 1) < wr p → ¬ wr w < 0 → ¬ 4 < wr w → ¬ wr w = 0 → wr w = 1 → (0 ≤ wr p ∧ wr p < 59))
    (o9 : ¬ wr p < 0 → ¬ wr ((m 74 4) - 1) < wr p → ¬ wr w < 0 → ¬ 4 < wr w → ¬ wr w = 0 → wr w = 1 → κ (some (zi (wr (m 75 ((wr p).toNat))))) (zu m 74 12 0))
    (o10 : ¬ wr p < 0 → ¬ wr ((m 74 4) - 1) < wr p → ¬ wr w < 0 → ¬ 4 < wr w → ¬ wr w = 0 → ¬ wr w = 1 → wr w = 2 → κ (some (zi (wr (m 75 ((wr (6 + p)).toNat))))) (zu m 74 12 0))
    (o11 : ¬ wr p < 0 → ¬ wr ((m 74 4) - 1) < wr p → ¬ wr w < 0 → ¬ 4 < wr w → ¬ wr w = 0 → ¬ wr w = 1 → ¬ wr w = 2 → wr w = 3 → T (D + 4) 216 (0, [(0, zr 74), (1, zi p), (2, zi 0)], [], (zu m 74 12 0)) (fun r m1 => T (D + 5) 218 (90, [(0, zr 74), (1, zi p), (2, zi w), (3, zi (m 75 ((wr (6 + p)).toNat)))], r.toList ++ [], m1) κ))
    (o12 : ¬ wr p < 0 → ¬ wr ((m 74 4) - 1) < wr p → ¬ wr w < 0 → ¬ 4 < wr w → ¬ wr w = 0 → ¬ wr w = 1 → ¬ wr w = 2 → ¬ wr w = 3 → wr (m 75 ((wr (6 + p)).toNat)) = (-1) → κ (some (zi 0)) (zu m 74 12 0))
    (o13 : ¬ wr p < 0 → ¬ wr ((m 74 4) - 1) < wr p → ¬ wr w < 0 → ¬ 4 < wr w → ¬ wr w = 0 → ¬ wr w = 1 → ¬ wr w = 2 → ¬ wr w = 3 → ¬ wr (m 75 ((wr (6 + p)).toNat)) = (-1) → (0 ≤ wr (12 + (m 75 ((wr (6 + p)).toNat))) ∧ wr (12 + (m 75 ((wr (6 + p)).toNat))) < 59))
    (o14 : ¬ wr p < 0 → ¬ wr ((m 74 4) - 1) < wr p → ¬ wr w < 0 → ¬ 4 < wr w → ¬ wr w = 0 → ¬ wr w = 1 → ¬ wr w = 2 → ¬ wr w = 3 → ¬ wr (m 75 ((wr (6 + p)).toNat)) = (-1) → T (D + 4) 216 (0, [(0, zr 74), (1, zi p), (2, zi 0)], [], (zu m 74 12 0)) (fun r m1 => T (D + 5) 218 (111, [(0, zr 74), (1, zi p), (2, zi w), (3, zi (m 75 ((wr (6 + p)).toNat)))], r.toList ++ [zi (m 75 ((wr (12 + (m 75 ((wr (6 + p)).toNat)))).toNat))], m1) κ)) :
    T (D + 5) 218 (0, [(0, zr 74), (1, zi p), (2, zi w)], [], m) κ :=
  hT.1 [] 6 (D + 5) 218 _ κ (And.intro trivial (hT.1 [] 6 (D + 4) 190 _ _ (hT.1 [] 6 (D + 4) 190 (8, [(0, zr 74), (1, zi p)], [zi ((m 74 4) - 1), zi 0, zi p], (zu m 74 12 0)) _ (hT.1 [] 6 (D + 3) 186 _ _ (And.intro (fun a1 => (And.intro (z_b01L rfl) (hT.1 [] 6 (D + 4) 190 _ _ (And.intro (z_b01L rfl) (hT.1 [] 6 (D + 5) 218 _ _ (And.intro (fun _ => (hT.1 [] 6 (D + 4) 188 _ _ (And.intro trivial (hT.1 [] 6 (D + 5) 218 _ _ (o1 a1))))) (fun a3 => (a3 (z_litT rfl)).elim))))))) (fun a2 => (And.intro (fun a4 => (hT.1 [] 6 (D + 3) 186 (14, [(0, zi p), (1, zi 0), (2, zi ((m 74 4) - 1))], [], (zu m 74 12 0)) _ (And.intro (z_b01L rfl) (hT.1 [] 6 (D + 4) 190 _ _ (And.intro (z_b01L rfl) (hT.1 [] 6 (D + 5) 218 _ _ (And.intro (fun _ => (hT.1 [] 6 (D + 4) 188 _ _ (And.intro trivial (hT.1 [] 6 (D + 5) 218 _ _ (o2 a2 a4))))) (fun a6 => (a6 (z_litT rfl)).elim)))))))) (fun a5 => (hT.1 [] 6 (D + 3) 186 (10, [(0, zi p), (1, zi 0), (2, zi ((m 74 4) - 1))], [], (zu m 74 12 0)) _ (And.intro (z_b01L rfl) (hT.1 [] 6 (D + 4) 190 _ _ (And.intro (z_b01L rfl) (hT.1 [] 6 (D + 5) 218 _ _ (And.intro (fun a7 => (z_litF a7 rfl).elim) (fun _ => (hT.1 [] 6 (D + 4) 186 _ _ (And.intro (fun a8 => (And.intro (z_b01L rfl) (hT.1 [] 6 (D + 5) 218 _ _ (And.intro (fun a10 => (z_litF a10 rfl).elim) (fun _ => (hT.1 [] 6 (D + 4) 188 _ _ (And.intro trivial (hT.1 [] 6 (D + 5) 218 _ _ (o3 a2 a5 a8))))))))) (fun a9 => (And.intro (fun a11 => (hT.1 [] 6 (D + 4) 186 (14, [(0, zi w), (1, zi 0), (2, zi 4)], [], (zu m 74 12 0)) _ (And.intro (z_b01L rfl) (hT.1 [] 6 (D + 5) 218 _ _ (And.intro (fun a13 => (z_litF a13 rfl).elim) (fun _ => (hT.1 [] 6 (D + 4) 188 _ _ (And.intro trivial (hT.1 [] 6 (D + 5) 218 _ _ (o4 a2 a5 a9 a11)))))))))) (fun a12 => (hT.1 [] 6 (D + 4) 186 (10, [(0, zi w), (1, zi 0), (2, zi 4)], [], (zu m 74 12 0)) _ (And.intro (z_b01L rfl) (hT.1 [] 6 (D + 5) 218 _ _ (And.intro (fun _ => (hT.1 [] 6 (D + 5) 218 (35, [(0, zr 74), (1, zi p), (2, zi w)], [zi (6 + p), zr 75], (zu m 74 12 0)) _ (And.intro (o5 a2 a5 a9 a12) (And.intro (fun a15 => (hT.1 [] 6 (D + 5) 218 (72, [(0, zr 74), (1, zi p), (2, zi w), (3, zi (m 75 ((wr (6 + p)).toNat)))], [zr 78], (zu m 74 12 0)) _ (And.intro (o6 a2 a5 a9 a12 a15) (o7 a2 a5 a9 a12 a15)))) (fun a16 => (And.intro (fun a17 => (hT.1 [] 6 (D + 5) 218 (79, [(0, zr 74), (1, zi p), (2, zi w), (3, zi (m 75 ((wr (6 + p)).toNat)))], [zr 75], (zu m 74 12 0)) _ (And.intro (o8 a2 a5 a9 a12 a16 a17) (o9 a2 a5 a9 a12 a16 a17)))) (fun a18 => (And.intro (fun a19 => (o10 a2 a5 a9 a12 a16 a18 a19)) (fun a20 => (And.intro (fun a21 => (hT.1 [] 6 (D + 5) 218 (86, [(0, zr 74), (1, zi p), (2, zi w), (3, zi (m 75 ((wr (6 + p)).toNat)))], [zi p, zr 74], (zu m 74 12 0)) _ (o11 a2 a5 a9 a12 a16 a18 a20 a21))) (fun a22 => (hT.1 [] 6 (D + 5) 218 (93, [(0, zr 74), (1, zi p), (2, zi w), (3, zi (m 75 ((wr (6 + p)).toNat)))], [zi (-1), zi (m 75 ((wr (6 + p)).toNat))], (zu m 74 12 0)) _ (And.intro (fun a23 => (o12 a2 a5 a9 a12 a16 a18 a20 a22 a23)) (fun a24 => (hT.1 [] 6 (D + 5) 218 (104, [(0, zr 74), (1, zi p), (2, zi w), (3, zi (m 75 ((wr (6 + p)).toNat)))], [zi (12 + (m 75 ((wr (6 + p)).toNat))), zr 75], (zu m 74 12 0)) _ (And.intro (o13 a2 a5 a9 a12 a16 a18 a20 a22 a24) (o14 a2 a5 a9 a12 a16 a18 a20 a22 a24))))))))))))))))) (fun a14 => (a14 (z_litT rfl)).elim)))))))))))))))))))))))))
theorem zb218_0 (hT : zRules T) {D : Nat} {κ : Option zA → zM → Prop} {m : zM} {p : Int} {w : Int}  (hB : zB m) (h_p : (-2147483648) ≤ p ∧ p ≤ 2147483647) (h_w : (-2147483648) ≤ w ∧ w ≤ 2147483647) 
    (k1 : p < 0 → zB (zu (zu m 74 12 0) 74 12 1) → κ (some (zi 0)) (zu (zu m 74 12 0) 74 12 1))
    (k2 : ¬ p < 0 → ((m 74 4) - 1) < p → zB (zu (zu m 74 12 0) 74 12 1) → κ (some (zi 0)) (zu (zu m 74 12 0) 74 12 1))
    (k3 : ¬ p < 0 → ¬ ((m 74 4) - 1) < p → w < 0 → zB (zu (zu m 74 12 0) 74 12 1) → κ (some (zi 0)) (zu (zu m 74 12 0) 74 12 1))
    (k4 : ¬ p < 0 → ¬ ((m 74 4) - 1) < p → ¬ w < 0 → 4 < w → zB (zu (zu m 74 12 0) 74 12 1) → κ (some (zi 0)) (zu (zu m 74 12 0) 74 12 1))
    (k5 : ¬ p < 0 → ¬ ((m 74 4) - 1) < p → ¬ w < 0 → ¬ 4 < w → (0 ≤ wr (6 + p) ∧ wr (6 + p) < 59))
    (k6 : ¬ p < 0 → ¬ ((m 74 4) - 1) < p → ¬ w < 0 → ¬ 4 < w → w = 0 → zB (zu m 74 12 0) → κ (some (zi (m 78 (p.toNat)))) (zu m 74 12 0))
    (k7 : ¬ p < 0 → ¬ ((m 74 4) - 1) < p → ¬ w < 0 → ¬ 4 < w → ¬ w = 0 → w = 1 → zB (zu m 74 12 0) → κ (some (zi (wr (m 75 (p.toNat))))) (zu m 74 12 0))
    (k8 : ¬ p < 0 → ¬ ((m 74 4) - 1) < p → ¬ w < 0 → ¬ 4 < w → ¬ w = 0 → ¬ w = 1 → w = 2 → zB (zu m 74 12 0) → κ (some (zi (wr (m 75 ((wr (6 + p)).toNat))))) (zu m 74 12 0))
    (k9 : ¬ p < 0 → ¬ ((m 74 4) - 1) < p → ¬ w < 0 → ¬ 4 < w → ¬ w = 0 → ¬ w = 1 → ¬ w = 2 → w = 3 → zB (zu m 74 12 0) → T (D + 4) 216 (0, [(0, zr 74), (1, zi p), (2, zi 0)], [], (zu m 74 12 0)) (fun r m1 => T (D + 5) 218 (90, [(0, zr 74), (1, zi p), (2, zi w), (3, zi (m 75 ((wr (6 + p)).toNat)))], r.toList ++ [], m1) κ))
    (k10 : ¬ p < 0 → ¬ ((m 74 4) - 1) < p → ¬ w < 0 → ¬ 4 < w → ¬ w = 0 → ¬ w = 1 → ¬ w = 2 → ¬ w = 3 → wr (m 75 ((wr (6 + p)).toNat)) = (-1) → zB (zu m 74 12 0) → κ (some (zi 0)) (zu m 74 12 0))
    (k11 : ¬ p < 0 → ¬ ((m 74 4) - 1) < p → ¬ w < 0 → ¬ 4 < w → ¬ w = 0 → ¬ w = 1 → ¬ w = 2 → ¬ w = 3 → ¬ wr (m 75 ((wr (6 + p)).toNat)) = (-1) → (0 ≤ wr (12 + (m 75 ((wr (6 + p)).toNat))) ∧ wr (12 + (m 75 ((wr (6 + p)).toNat))) < 59))
    (k12 : ¬ p < 0 → ¬ ((m 74 4) - 1) < p → ¬ w < 0 → ¬ 4 < w → ¬ w = 0 → ¬ w = 1 → ¬ w = 2 → ¬ w = 3 → ¬ wr (m 75 ((wr (6 + p)).toNat)) = (-1) → zB (zu m 74 12 0) → T (D + 4) 216 (0, [(0, zr 74), (1, zi p), (2, zi 0)], [], (zu m 74 12 0)) (fun r m1 => T (D + 5) 218 (111, [(0, zr 74), (1, zi p), (2, zi w), (3, zi (m 75 ((wr (6 + p)).toNat)))], r.toList ++ [zi (m 75 ((wr (12 + (m 75 ((wr (6 + p)).toNat)))).toNat))], m1) κ)) :
    T (D + 5) 218 (0, [(0, zr 74), (1, zi p), (2, zi w)], [], m) κ := by
  have hb2 : 0 ≤ (m 74 4) ∧ (m 74 4) ≤ 6 := hB 74 4
  have hb3 : (-2147483648) ≤ wr (6 + p) ∧ wr (6 + p) ≤ 2147483647 := wrB (6 + p)
  have hb4 : 0 ≤ (m 78 (p.toNat)) ∧ (m 78 (p.toNat)) ≤ 99 := hB 78 (p.toNat)
  have hb5 : (-2147483648) ≤ wr (m 75 (p.toNat)) ∧ wr (m 75 (p.toNat)) ≤ 2147483647 := wrB (m 75 (p.toNat))
  have hb6 : (-2147483648) ≤ wr (m 75 ((wr (6 + p)).toNat)) ∧ wr (m 75 ((wr (6 + p)).toNat)) ≤ 2147483647 := wrB (m 75 ((wr (6 + p)).toNat))
  have hb7 : (-2147483648) ≤ wr (12 + (m 75 ((wr (6 + p)).toNat))) ∧ wr (12 + (m 75 ((wr (6 + p)).toNat))) ≤ 2147483647 := wrB (12 + (m 75 ((wr (6 + p)).toNat)))
  have he0 : wr p = p := wr_id (by omega) (by omega)
  have he1 : wr ((m 74 4) - 1) = ((m 74 4) - 1) := wr_id (by omega) (by omega)
  have he2 : wr w = w := wr_id (by omega) (by omega)
  have he3 : wr (m 78 (p.toNat)) = (m 78 (p.toNat)) := wr_id (by omega) (by omega)
  have key := @zb218_0r T hT D κ m p w
  simp only [he0, he1, he2, he3, Int.toNat_natCast] at key
  exact key
    (fun x0 => k1 x0 (zB_u (zB_u hB trivial) trivial))
    (fun x0 x1 => k2 x0 x1 (zB_u (zB_u hB trivial) trivial))
    (fun x0 x1 x2 => k3 x0 x1 x2 (zB_u (zB_u hB trivial) trivial))
    (fun x0 x1 x2 x3 => k4 x0 x1 x2 x3 (zB_u (zB_u hB trivial) trivial))
    k5
    (fun x0 x1 x2 x3 x4 => by refine ⟨?_, ?_⟩ <;> omega)
    (fun x0 x1 x2 x3 x4 => k6 x0 x1 x2 x3 x4 (zB_u hB trivial))
    (fun x0 x1 x2 x3 x4 x5 => by refine ⟨?_, ?_⟩ <;> omega)
    (fun x0 x1 x2 x3 x4 x5 => k7 x0 x1 x2 x3 x4 x5 (zB_u hB trivial))
    (fun x0 x1 x2 x3 x4 x5 x6 => k8 x0 x1 x2 x3 x4 x5 x6 (zB_u hB trivial))
    (fun x0 x1 x2 x3 x4 x5 x6 x7 => k9 x0 x1 x2 x3 x4 x5 x6 x7 (zB_u hB trivial))
    (fun x0 x1 x2 x3 x4 x5 x6 x7 x8 => k10 x0 x1 x2 x3 x4 x5 x6 x7 x8 (zB_u hB trivial))
    k11
    (fun x0 x1 x2 x3 x4 x5 x6 x7 x8 => k12 x0 x1 x2 x3 x4 x5 x6 x7 x8 (zB_u hB trivial))
theorem zb218_90r (hT : zRules T) {D : Nat} {κ : Option zA → zM → Prop} {m : zM} {v : Int} {lo : zL} (hlo : z_keep [] lo = []) 
    (o1 : κ (some (zi (wr v))) m) :
    T (D + 5) 218 (90, lo, [zi v], m) κ :=
  zkeep hT hlo (hT.1 [] 6 (D + 5) 218 _ κ (o1))
theorem zb218_90 (hT : zRules T) {D : Nat} {κ : Option zA → zM → Prop} {m : zM} {v : Int} {lo : zL} (hlo : z_keep [] lo = [])  (h_v : 0 ≤ v ∧ v ≤ 99) 
    (k1 : κ (some (zi v)) m) :
    T (D + 5) 218 (90, lo, [zi v], m) κ := by
  have he0 : wr v = v := wr_id (by omega) (by omega)
  have key := @zb218_90r T hT D κ m v lo hlo
  simp only [he0, Int.toNat_natCast] at key
  exact key
    k1
theorem zb218_111r (hT : zRules T) {D : Nat} {κ : Option zA → zM → Prop} {m : zM} {l : Int} {v : Int} {lo : zL} (hlo : z_keep [] lo = []) 
    (o1 : ¬ wr l = wr v → κ (some (zi 0)) m)
    (o2 : wr l = wr v → κ (some (zi 1)) m) :
    T (D + 5) 218 (111, lo, [zi v, zi l], m) κ :=
  zkeep hT hlo (hT.1 [] 6 (D + 5) 218 _ κ (And.intro (fun a1 => (o1 a1)) (fun a2 => (o2 (Classical.byContradiction a2)))))
theorem zb218_111 (hT : zRules T) {D : Nat} {κ : Option zA → zM → Prop} {m : zM} {l : Int} {v : Int} {lo : zL} (hlo : z_keep [] lo = [])  (h_l : (-1) ≤ l ∧ l ≤ 99) (h_v : 0 ≤ v ∧ v ≤ 99) 
    (k1 : ¬ l = v → κ (some (zi 0)) m)
    (k2 : l = v → κ (some (zi 1)) m) :
    T (D + 5) 218 (111, lo, [zi v, zi l], m) κ := by
  have he0 : wr l = l := wr_id (by omega) (by omega)
  have he1 : wr v = v := wr_id (by omega) (by omega)
  have key := @zb218_111r T hT D κ m l v lo hlo
  simp only [he0, he1, Int.toNat_natCast] at key
  exact key
    k1
    k2
theorem zb118_0r (hT : zRules T) {D : Nat} {κ : Option zA → zM → Prop} {m : zM} {c : Int} {w : Int} 
    (o1 : wr c < 0 → κ none m)
    (o2 : ¬ wr c < 0 → ¬ wr c < wr (m 17 1) → κ none m)
    (o3 : ¬ wr c < 0 → wr c < wr (m 17 1) → wr w = 0 → (0 ≤ wr c ∧ wr c < 8))
    (o4 : ¬ wr c < 0 → wr c < wr (m 17 1) → wr w = 0 → κ (some (zi (wr (m 21 ((wr c).toNat))))) m)
    (o5 : ¬ wr c < 0 → wr c < wr (m 17 1) → ¬ wr w = 0 → wr w = 1 → (0 ≤ wr c ∧ wr c < 8))
    (o6 : ¬ wr c < 0 → wr c < wr (m 17 1) → ¬ wr w = 0 → wr w = 1 → κ (some (zi (wr (m 22 ((wr c).toNat))))) m)
    (o7 : ¬ wr c < 0 → wr c < wr (m 17 1) → ¬ wr w = 0 → ¬ wr w = 1 → wr w = 2 → (0 ≤ wr c ∧ wr c < 8))
    (o8 : ¬ wr c < 0 → wr c < wr (m 17 1) → ¬ wr w = 0 → ¬ wr w = 1 → wr w = 2 → (0 ≤ wr c ∧ wr c < 8))
    (o9 : ¬ wr c < 0 → wr c < wr (m 17 1) → ¬ wr w = 0 → ¬ wr w = 1 → wr w = 2 → κ (some (zi (wr (wr ((m 21 ((wr c).toNat)) + (m 22 ((wr c).toNat))))))) m)
    (o10 : ¬ wr c < 0 → wr c < wr (m 17 1) → ¬ wr w = 0 → ¬ wr w = 1 → ¬ wr w = 2 → wr w = 3 → (0 ≤ wr c ∧ wr c < 8))
    (o11 : ¬ wr c < 0 → wr c < wr (m 17 1) → ¬ wr w = 0 → ¬ wr w = 1 → ¬ wr w = 2 → wr w = 3 → κ (some (zi (wr (m 23 ((wr c).toNat))))) m)
    (o12 : ¬ wr c < 0 → wr c < wr (m 17 1) → ¬ wr w = 0 → ¬ wr w = 1 → ¬ wr w = 2 → ¬ wr w = 3 → wr w = 4 → T (D + 2) 29 (0, [(0, zr 17), (1, zi c)], [], m) (fun r m1 => T (D + 3) 118 (103, [(0, zr 1), (1, zi c), (2, zi w)], r.toList ++ [], m1) κ))
    (o13 : ¬ wr c < 0 → wr c < wr (m 17 1) → ¬ wr w = 0 → ¬ wr w = 1 → ¬ wr w = 2 → ¬ wr w = 3 → ¬ wr w = 4 → κ none m) :
    T (D + 3) 118 (0, [(0, zr 1), (1, zi c), (2, zi w)], [], m) κ :=
  hT.1 [] 6 (D + 3) 118 _ κ (hT.1 [] 6 (D + 2) 26 _ _ (And.intro (fun a1 => (And.intro (z_b01L rfl) (hT.1 [] 6 (D + 3) 118 _ _ (And.intro (fun a3 => (z_litF a3 rfl).elim) (fun _ => (And.intro rfl (o1 a1))))))) (fun a2 => (And.intro (fun a4 => (hT.1 [] 6 (D + 2) 26 (16, [(0, zr 17), (1, zi c)], [], m) _ (And.intro (z_b01L rfl) (hT.1 [] 6 (D + 3) 118 _ _ (And.intro (fun a6 => (z_litF a6 rfl).elim) (fun _ => (And.intro rfl (o2 a2 a4)))))))) (fun a5 => (hT.1 [] 6 (D + 2) 26 (12, [(0, zr 17), (1, zi c)], [], m) _ (And.intro (z_b01L rfl) (hT.1 [] 6 (D + 3) 118 _ _ (And.intro (fun _ => (And.intro (fun a8 => (hT.1 [] 6 (D + 3) 118 (63, [(0, zr 1), (1, zi c), (2, zi w)], [zr 21], m) _ (And.intro (o3 a2 (Classical.byContradiction a5) a8) (o4 a2 (Classical.byContradiction a5) a8)))) (fun a9 => (And.intro (fun a10 => (hT.1 [] 6 (D + 3) 118 (73, [(0, zr 1), (1, zi c), (2, zi w)], [zr 22], m) _ (And.intro (o5 a2 (Classical.byContradiction a5) a9 a10) (o6 a2 (Classical.byContradiction a5) a9 a10)))) (fun a11 => (And.intro (fun a12 => (hT.1 [] 6 (D + 3) 118 (81, [(0, zr 1), (1, zi c), (2, zi w)], [zi c, zr 17], m) _ (hT.1 [] 6 (D + 2) 28 _ _ (And.intro (o7 a2 (Classical.byContradiction a5) a9 a11 a12) (hT.1 [] 6 (D + 2) 28 (10, [(0, zr 17), (1, zi c)], [zr 22, zi (m 21 ((wr c).toNat))], m) _ (And.intro (o8 a2 (Classical.byContradiction a5) a9 a11 a12) (hT.1 [] 6 (D + 3) 118 _ _ (o9 a2 (Classical.byContradiction a5) a9 a11 a12)))))))) (fun a13 => (And.intro (fun a14 => (hT.1 [] 6 (D + 3) 118 (92, [(0, zr 1), (1, zi c), (2, zi w)], [zr 23], m) _ (And.intro (o10 a2 (Classical.byContradiction a5) a9 a11 a13 a14) (o11 a2 (Classical.byContradiction a5) a9 a11 a13 a14)))) (fun a15 => (And.intro (fun a16 => (hT.1 [] 6 (D + 3) 118 (100, [(0, zr 1), (1, zi c), (2, zi w)], [zi c, zr 17], m) _ (o12 a2 (Classical.byContradiction a5) a9 a11 a13 a15 a16))) (fun a17 => (And.intro rfl (o13 a2 (Classical.byContradiction a5) a9 a11 a13 a15 a17))))))))))))) (fun a7 => (a7 (z_litT rfl)).elim))))))))))
theorem zb118_0 (hT : zRules T) {D : Nat} {κ : Option zA → zM → Prop} {m : zM} {c : Int} {w : Int}  (hB : zB m) (h_c : (-2147483648) ≤ c ∧ c ≤ 2147483647) (h_w : (-2147483648) ≤ w ∧ w ≤ 2147483647) 
    (k1 : c < 0 → κ none m)
    (k2 : ¬ c < 0 → ¬ c < (m 17 1) → κ none m)
    (k3 : ¬ c < 0 → c < (m 17 1) → w = 0 → κ (some (zi (m 21 (c.toNat)))) m)
    (k4 : ¬ c < 0 → c < (m 17 1) → ¬ w = 0 → w = 1 → κ (some (zi (m 22 (c.toNat)))) m)
    (k5 : ¬ c < 0 → c < (m 17 1) → ¬ w = 0 → ¬ w = 1 → w = 2 → κ (some (zi ((m 21 (c.toNat)) + (m 22 (c.toNat))))) m)
    (k6 : ¬ c < 0 → c < (m 17 1) → ¬ w = 0 → ¬ w = 1 → ¬ w = 2 → w = 3 → κ (some (zi (wr (m 23 (c.toNat))))) m)
    (k7 : ¬ c < 0 → c < (m 17 1) → ¬ w = 0 → ¬ w = 1 → ¬ w = 2 → ¬ w = 3 → w = 4 → T (D + 2) 29 (0, [(0, zr 17), (1, zi c)], [], m) (fun r m1 => T (D + 3) 118 (103, [(0, zr 1), (1, zi c), (2, zi w)], r.toList ++ [], m1) κ))
    (k8 : ¬ c < 0 → c < (m 17 1) → ¬ w = 0 → ¬ w = 1 → ¬ w = 2 → ¬ w = 3 → ¬ w = 4 → κ none m) :
    T (D + 3) 118 (0, [(0, zr 1), (1, zi c), (2, zi w)], [], m) κ := by
  have hb2 : 0 ≤ (m 17 1) ∧ (m 17 1) ≤ 8 := hB 17 1
  have hb3 : (-1) ≤ (m 21 (c.toNat)) ∧ (m 21 (c.toNat)) ≤ 99 := hB 21 (c.toNat)
  have hb4 : (-1) ≤ (m 22 (c.toNat)) ∧ (m 22 (c.toNat)) ≤ 9 := hB 22 (c.toNat)
  have hb5 : (-2147483648) ≤ wr (m 23 (c.toNat)) ∧ wr (m 23 (c.toNat)) ≤ 2147483647 := wrB (m 23 (c.toNat))
  have he0 : wr c = c := wr_id (by omega) (by omega)
  have he1 : wr (m 17 1) = (m 17 1) := wr_id (by omega) (by omega)
  have he2 : wr w = w := wr_id (by omega) (by omega)
  have he3 : wr (m 21 (c.toNat)) = (m 21 (c.toNat)) := wr_id (by omega) (by omega)
  have he4 : wr (m 22 (c.toNat)) = (m 22 (c.toNat)) := wr_id (by omega) (by omega)
  have he5 : wr ((m 21 (c.toNat)) + (m 22 (c.toNat))) = ((m 21 (c.toNat)) + (m 22 (c.toNat))) := wr_id (by omega) (by omega)
  have key := @zb118_0r T hT D κ m c w
  simp only [he0, he1, he2, he3, he4, he5, Int.toNat_natCast] at key
  exact key
    k1
    k2
    (fun x0 x1 x2 => by refine ⟨?_, ?_⟩ <;> omega)
    k3
    (fun x0 x1 x2 x3 => by refine ⟨?_, ?_⟩ <;> omega)
    k4
    (fun x0 x1 x2 x3 x4 => by refine ⟨?_, ?_⟩ <;> omega)
    (fun x0 x1 x2 x3 x4 => by refine ⟨?_, ?_⟩ <;> omega)
    k5
    (fun x0 x1 x2 x3 x4 x5 => by refine ⟨?_, ?_⟩ <;> omega)
    k6
    k7
    k8
theorem zb118_103r (hT : zRules T) {D : Nat} {κ : Option zA → zM → Prop} {m : zM} {v : Int} {lo : zL} (hlo : z_keep [] lo = []) 
    (o1 : κ (some (zi (wr v))) m) :
    T (D + 3) 118 (103, lo, [zi v], m) κ :=
  zkeep hT hlo (hT.1 [] 6 (D + 3) 118 _ κ (o1))
theorem zb118_103 (hT : zRules T) {D : Nat} {κ : Option zA → zM → Prop} {m : zM} {v : Int} {lo : zL} (hlo : z_keep [] lo = [])  (h_v : (-1) ≤ v ∧ v ≤ 5) 
    (k1 : κ (some (zi v)) m) :
    T (D + 3) 118 (103, lo, [zi v], m) κ := by
  have he0 : wr v = v := wr_id (by omega) (by omega)
  have key := @zb118_103r T hT D κ m v lo hlo
  simp only [he0, Int.toNat_natCast] at key
  exact key
    k1
theorem zb219_0r (hT : zRules T) {D : Nat} {κ : Option zA → zM → Prop} {m : zM} {c : Int} {w : Int} 
    (o1 : wr c < 0 → κ (some (zi 0)) (zu (zu m 74 12 0) 74 12 1))
    (o2 : ¬ wr c < 0 → wr ((m 74 6) - 1) < wr c → κ (some (zi 0)) (zu (zu m 74 12 0) 74 12 1))
    (o3 : ¬ wr c < 0 → ¬ wr ((m 74 6) - 1) < wr c → wr w < 0 → κ (some (zi 0)) (zu (zu m 74 12 0) 74 12 1))
    (o4 : ¬ wr c < 0 → ¬ wr ((m 74 6) - 1) < wr c → ¬ wr w < 0 → 4 < wr w → κ (some (zi 0)) (zu (zu m 74 12 0) 74 12 1))
    (o5 : ¬ wr c < 0 → ¬ wr ((m 74 6) - 1) < wr c → ¬ wr w < 0 → ¬ 4 < wr w → wr w = 0 → (0 ≤ wr (12 + c) ∧ wr (12 + c) < 59))
    (o6 : ¬ wr c < 0 → ¬ wr ((m 74 6) - 1) < wr c → ¬ wr w < 0 → ¬ 4 < wr w → wr w = 0 → κ (some (zi (wr (m 75 ((wr (12 + c)).toNat))))) (zu m 74 12 0))
    (o7 : ¬ wr c < 0 → ¬ wr ((m 74 6) - 1) < wr c → ¬ wr w < 0 → ¬ 4 < wr w → ¬ wr w = 0 → wr w = 1 → (0 ≤ wr (20 + c) ∧ wr (20 + c) < 59))
    (o8 : ¬ wr c < 0 → ¬ wr ((m 74 6) - 1) < wr c → ¬ wr w < 0 → ¬ 4 < wr w → ¬ wr w = 0 → wr w = 1 → κ (some (zi (wr (m 75 ((wr (20 + c)).toNat))))) (zu m 74 12 0))
    (o9 : ¬ wr c < 0 → ¬ wr ((m 74 6) - 1) < wr c → ¬ wr w < 0 → ¬ 4 < wr w → ¬ wr w = 0 → ¬ wr w = 1 → wr w = 2 → (0 ≤ wr (12 + c) ∧ wr (12 + c) < 59))
    (o10 : ¬ wr c < 0 → ¬ wr ((m 74 6) - 1) < wr c → ¬ wr w < 0 → ¬ 4 < wr w → ¬ wr w = 0 → ¬ wr w = 1 → wr w = 2 → (0 ≤ wr (20 + c) ∧ wr (20 + c) < 59))
    (o11 : ¬ wr c < 0 → ¬ wr ((m 74 6) - 1) < wr c → ¬ wr w < 0 → ¬ 4 < wr w → ¬ wr w = 0 → ¬ wr w = 1 → wr w = 2 → κ (some (zi (wr ((m 75 ((wr (12 + c)).toNat)) + (m 75 ((wr (20 + c)).toNat)))))) (zu m 74 12 0))
    (o12 : ¬ wr c < 0 → ¬ wr ((m 74 6) - 1) < wr c → ¬ wr w < 0 → ¬ 4 < wr w → ¬ wr w = 0 → ¬ wr w = 1 → ¬ wr w = 2 → wr w = 3 → (0 ≤ wr (28 + c) ∧ wr (28 + c) < 59))
    (o13 : ¬ wr c < 0 → ¬ wr ((m 74 6) - 1) < wr c → ¬ wr w < 0 → ¬ 4 < wr w → ¬ wr w = 0 → ¬ wr w = 1 → ¬ wr w = 2 → wr w = 3 → κ (some (zi (wr (m 75 ((wr (28 + c)).toNat))))) (zu m 74 12 0))
    (o14 : ¬ wr c < 0 → ¬ wr ((m 74 6) - 1) < wr c → ¬ wr w < 0 → ¬ 4 < wr w → ¬ wr w = 0 → ¬ wr w = 1 → ¬ wr w = 2 → ¬ wr w = 3 → T (D + 2) 217 (0, [(0, zr 74), (1, zr 75), (2, zi c)], [], (zu m 74 12 0)) (fun r m1 => T (D + 3) 219 (119, [(0, zr 74), (1, zi c), (2, zi w)], r.toList ++ [], m1) κ)) :
    T (D + 3) 219 (0, [(0, zr 74), (1, zi c), (2, zi w)], [], m) κ :=
  hT.1 [] 6 (D + 3) 219 _ κ (And.intro trivial (hT.1 [] 6 (D + 2) 191 _ _ (hT.1 [] 6 (D + 2) 191 (8, [(0, zr 74), (1, zi c)], [zi ((m 74 6) - 1), zi 0, zi c], (zu m 74 12 0)) _ (hT.1 [] 6 (D + 1) 186 _ _ (And.intro (fun a1 => (And.intro (z_b01L rfl) (hT.1 [] 6 (D + 2) 191 _ _ (And.intro (z_b01L rfl) (hT.1 [] 6 (D + 3) 219 _ _ (And.intro (fun _ => (hT.1 [] 6 (D + 2) 188 _ _ (And.intro trivial (hT.1 [] 6 (D + 3) 219 _ _ (o1 a1))))) (fun a3 => (a3 (z_litT rfl)).elim))))))) (fun a2 => (And.intro (fun a4 => (hT.1 [] 6 (D + 1) 186 (14, [(0, zi c), (1, zi 0), (2, zi ((m 74 6) - 1))], [], (zu m 74 12 0)) _ (And.intro (z_b01L rfl) (hT.1 [] 6 (D + 2) 191 _ _ (And.intro (z_b01L rfl) (hT.1 [] 6 (D + 3) 219 _ _ (And.intro (fun _ => (hT.1 [] 6 (D + 2) 188 _ _ (And.intro trivial (hT.1 [] 6 (D + 3) 219 _ _ (o2 a2 a4))))) (fun a6 => (a6 (z_litT rfl)).elim)))))))) (fun a5 => (hT.1 [] 6 (D + 1) 186 (10, [(0, zi c), (1, zi 0), (2, zi ((m 74 6) - 1))], [], (zu m 74 12 0)) _ (And.intro (z_b01L rfl) (hT.1 [] 6 (D + 2) 191 _ _ (And.intro (z_b01L rfl) (hT.1 [] 6 (D + 3) 219 _ _ (And.intro (fun a7 => (z_litF a7 rfl).elim) (fun _ => (hT.1 [] 6 (D + 2) 186 _ _ (And.intro (fun a8 => (And.intro (z_b01L rfl) (hT.1 [] 6 (D + 3) 219 _ _ (And.intro (fun a10 => (z_litF a10 rfl).elim) (fun _ => (hT.1 [] 6 (D + 2) 188 _ _ (And.intro trivial (hT.1 [] 6 (D + 3) 219 _ _ (o3 a2 a5 a8))))))))) (fun a9 => (And.intro (fun a11 => (hT.1 [] 6 (D + 2) 186 (14, [(0, zi w), (1, zi 0), (2, zi 4)], [], (zu m 74 12 0)) _ (And.intro (z_b01L rfl) (hT.1 [] 6 (D + 3) 219 _ _ (And.intro (fun a13 => (z_litF a13 rfl).elim) (fun _ => (hT.1 [] 6 (D + 2) 188 _ _ (And.intro trivial (hT.1 [] 6 (D + 3) 219 _ _ (o4 a2 a5 a9 a11)))))))))) (fun a12 => (hT.1 [] 6 (D + 2) 186 (10, [(0, zi w), (1, zi 0), (2, zi 4)], [], (zu m 74 12 0)) _ (And.intro (z_b01L rfl) (hT.1 [] 6 (D + 3) 219 _ _ (And.intro (fun _ => (And.intro (fun a15 => (hT.1 [] 6 (D + 3) 219 (66, [(0, zr 74), (1, zi c), (2, zi w)], [zi 12, zr 75], (zu m 74 12 0)) _ (And.intro (o5 a2 a5 a9 a12 a15) (o6 a2 a5 a9 a12 a15)))) (fun a16 => (And.intro (fun a17 => (hT.1 [] 6 (D + 3) 219 (76, [(0, zr 74), (1, zi c), (2, zi w)], [zi 20, zr 75], (zu m 74 12 0)) _ (And.intro (o7 a2 a5 a9 a12 a16 a17) (o8 a2 a5 a9 a12 a16 a17)))) (fun a18 => (And.intro (fun a19 => (hT.1 [] 6 (D + 3) 219 (86, [(0, zr 74), (1, zi c), (2, zi w)], [zi 12, zr 75], (zu m 74 12 0)) _ (And.intro (o9 a2 a5 a9 a12 a16 a18 a19) (hT.1 [] 6 (D + 3) 219 (95, [(0, zr 74), (1, zi c), (2, zi w)], [zi 20, zr 75, zi (m 75 ((wr (12 + c)).toNat))], (zu m 74 12 0)) _ (And.intro (o10 a2 a5 a9 a12 a16 a18 a19) (o11 a2 a5 a9 a12 a16 a18 a19)))))) (fun a20 => (And.intro (fun a21 => (hT.1 [] 6 (D + 3) 219 (106, [(0, zr 74), (1, zi c), (2, zi w)], [zi 28, zr 75], (zu m 74 12 0)) _ (And.intro (o12 a2 a5 a9 a12 a16 a18 a20 a21) (o13 a2 a5 a9 a12 a16 a18 a20 a21)))) (fun a22 => (hT.1 [] 6 (D + 3) 219 (115, [(0, zr 74), (1, zi c), (2, zi w)], [zr 75, zr 74], (zu m 74 12 0)) _ (o14 a2 a5 a9 a12 a16 a18 a20 a22))))))))))) (fun a14 => (a14 (z_litT rfl)).elim)))))))))))))))))))))))))
theorem zb219_0 (hT : zRules T) {D : Nat} {κ : Option zA → zM → Prop} {m : zM} {c : Int} {w : Int}  (hB : zB m) (h_c : (-2147483648) ≤ c ∧ c ≤ 2147483647) (h_w : (-2147483648) ≤ w ∧ w ≤ 2147483647) 
    (k1 : c < 0 → zB (zu (zu m 74 12 0) 74 12 1) → κ (some (zi 0)) (zu (zu m 74 12 0) 74 12 1))
    (k2 : ¬ c < 0 → ((m 74 6) - 1) < c → zB (zu (zu m 74 12 0) 74 12 1) → κ (some (zi 0)) (zu (zu m 74 12 0) 74 12 1))
    (k3 : ¬ c < 0 → ¬ ((m 74 6) - 1) < c → w < 0 → zB (zu (zu m 74 12 0) 74 12 1) → κ (some (zi 0)) (zu (zu m 74 12 0) 74 12 1))
    (k4 : ¬ c < 0 → ¬ ((m 74 6) - 1) < c → ¬ w < 0 → 4 < w → zB (zu (zu m 74 12 0) 74 12 1) → κ (some (zi 0)) (zu (zu m 74 12 0) 74 12 1))
    (k5 : ¬ c < 0 → ¬ ((m 74 6) - 1) < c → ¬ w < 0 → ¬ 4 < w → w = 0 → (0 ≤ wr (12 + c) ∧ wr (12 + c) < 59))
    (k6 : ¬ c < 0 → ¬ ((m 74 6) - 1) < c → ¬ w < 0 → ¬ 4 < w → w = 0 → zB (zu m 74 12 0) → κ (some (zi (wr (m 75 ((wr (12 + c)).toNat))))) (zu m 74 12 0))
    (k7 : ¬ c < 0 → ¬ ((m 74 6) - 1) < c → ¬ w < 0 → ¬ 4 < w → ¬ w = 0 → w = 1 → (0 ≤ wr (20 + c) ∧ wr (20 + c) < 59))
    (k8 : ¬ c < 0 → ¬ ((m 74 6) - 1) < c → ¬ w < 0 → ¬ 4 < w → ¬ w = 0 → w = 1 → zB (zu m 74 12 0) → κ (some (zi (wr (m 75 ((wr (20 + c)).toNat))))) (zu m 74 12 0))
    (k9 : ¬ c < 0 → ¬ ((m 74 6) - 1) < c → ¬ w < 0 → ¬ 4 < w → ¬ w = 0 → ¬ w = 1 → w = 2 → (0 ≤ wr (12 + c) ∧ wr (12 + c) < 59))
    (k10 : ¬ c < 0 → ¬ ((m 74 6) - 1) < c → ¬ w < 0 → ¬ 4 < w → ¬ w = 0 → ¬ w = 1 → w = 2 → (0 ≤ wr (20 + c) ∧ wr (20 + c) < 59))
    (k11 : ¬ c < 0 → ¬ ((m 74 6) - 1) < c → ¬ w < 0 → ¬ 4 < w → ¬ w = 0 → ¬ w = 1 → w = 2 → zB (zu m 74 12 0) → κ (some (zi (wr ((m 75 ((wr (12 + c)).toNat)) + (m 75 ((wr (20 + c)).toNat)))))) (zu m 74 12 0))
    (k12 : ¬ c < 0 → ¬ ((m 74 6) - 1) < c → ¬ w < 0 → ¬ 4 < w → ¬ w = 0 → ¬ w = 1 → ¬ w = 2 → w = 3 → (0 ≤ wr (28 + c) ∧ wr (28 + c) < 59))
    (k13 : ¬ c < 0 → ¬ ((m 74 6) - 1) < c → ¬ w < 0 → ¬ 4 < w → ¬ w = 0 → ¬ w = 1 → ¬ w = 2 → w = 3 → zB (zu m 74 12 0) → κ (some (zi (wr (m 75 ((wr (28 + c)).toNat))))) (zu m 74 12 0))
    (k14 : ¬ c < 0 → ¬ ((m 74 6) - 1) < c → ¬ w < 0 → ¬ 4 < w → ¬ w = 0 → ¬ w = 1 → ¬ w = 2 → ¬ w = 3 → zB (zu m 74 12 0) → T (D + 2) 217 (0, [(0, zr 74), (1, zr 75), (2, zi c)], [], (zu m 74 12 0)) (fun r m1 => T (D + 3) 219 (119, [(0, zr 74), (1, zi c), (2, zi w)], r.toList ++ [], m1) κ)) :
    T (D + 3) 219 (0, [(0, zr 74), (1, zi c), (2, zi w)], [], m) κ := by
  have hb2 : 0 ≤ (m 74 6) ∧ (m 74 6) ≤ 8 := hB 74 6
  have hb3 : (-2147483648) ≤ wr (12 + c) ∧ wr (12 + c) ≤ 2147483647 := wrB (12 + c)
  have hb4 : (-2147483648) ≤ wr (m 75 ((wr (12 + c)).toNat)) ∧ wr (m 75 ((wr (12 + c)).toNat)) ≤ 2147483647 := wrB (m 75 ((wr (12 + c)).toNat))
  have hb5 : (-2147483648) ≤ wr (20 + c) ∧ wr (20 + c) ≤ 2147483647 := wrB (20 + c)
  have hb6 : (-2147483648) ≤ wr (m 75 ((wr (20 + c)).toNat)) ∧ wr (m 75 ((wr (20 + c)).toNat)) ≤ 2147483647 := wrB (m 75 ((wr (20 + c)).toNat))
  have hb7 : (-2147483648) ≤ wr ((m 75 ((wr (12 + c)).toNat)) + (m 75 ((wr (20 + c)).toNat))) ∧ wr ((m 75 ((wr (12 + c)).toNat)) + (m 75 ((wr (20 + c)).toNat))) ≤ 2147483647 := wrB ((m 75 ((wr (12 + c)).toNat)) + (m 75 ((wr (20 + c)).toNat)))
  have hb8 : (-2147483648) ≤ wr (28 + c) ∧ wr (28 + c) ≤ 2147483647 := wrB (28 + c)
  have hb9 : (-2147483648) ≤ wr (m 75 ((wr (28 + c)).toNat)) ∧ wr (m 75 ((wr (28 + c)).toNat)) ≤ 2147483647 := wrB (m 75 ((wr (28 + c)).toNat))
  have he0 : wr c = c := wr_id (by omega) (by omega)
  have he1 : wr ((m 74 6) - 1) = ((m 74 6) - 1) := wr_id (by omega) (by omega)
  have he2 : wr w = w := wr_id (by omega) (by omega)
  have key := @zb219_0r T hT D κ m c w
  simp only [he0, he1, he2, Int.toNat_natCast] at key
  exact key
    (fun x0 => k1 x0 (zB_u (zB_u hB trivial) trivial))
    (fun x0 x1 => k2 x0 x1 (zB_u (zB_u hB trivial) trivial))
    (fun x0 x1 x2 => k3 x0 x1 x2 (zB_u (zB_u hB trivial) trivial))
    (fun x0 x1 x2 x3 => k4 x0 x1 x2 x3 (zB_u (zB_u hB trivial) trivial))
    k5
    (fun x0 x1 x2 x3 x4 => k6 x0 x1 x2 x3 x4 (zB_u hB trivial))
    k7
    (fun x0 x1 x2 x3 x4 x5 => k8 x0 x1 x2 x3 x4 x5 (zB_u hB trivial))
    k9
    k10
    (fun x0 x1 x2 x3 x4 x5 x6 => k11 x0 x1 x2 x3 x4 x5 x6 (zB_u hB trivial))
    k12
    (fun x0 x1 x2 x3 x4 x5 x6 x7 => k13 x0 x1 x2 x3 x4 x5 x6 x7 (zB_u hB trivial))
    (fun x0 x1 x2 x3 x4 x5 x6 x7 => k14 x0 x1 x2 x3 x4 x5 x6 x7 (zB_u hB trivial))
theorem zb219_119r (hT : zRules T) {D : Nat} {κ : Option zA → zM → Prop} {m : zM} {v : Int} {lo : zL} (hlo : z_keep [] lo = []) 
    (o1 : κ (some (zi (wr v))) m) :
    T (D + 3) 219 (119, lo, [zi v], m) κ :=
  zkeep hT hlo (hT.1 [] 6 (D + 3) 219 _ κ (o1))
theorem zb219_119 (hT : zRules T) {D : Nat} {κ : Option zA → zM → Prop} {m : zM} {v : Int} {lo : zL} (hlo : z_keep [] lo = [])  (h_v : (-1) ≤ v ∧ v ≤ 5) 
    (k1 : κ (some (zi v)) m) :
    T (D + 3) 219 (119, lo, [zi v], m) κ := by
  have he0 : wr v = v := wr_id (by omega) (by omega)
  have key := @zb219_119r T hT D κ m v lo hlo
  simp only [he0, Int.toNat_natCast] at key
  exact key
    k1
theorem zb173_0r (hT : zRules T) {D : Nat} {κ : Option zA → zM → Prop} {m : zM} 
    (o1 : T (D + 2) 16 (0, [(0, zr 28), (1, zr 17)], [], m) (fun r m1 => T (D + 3) 173 (11, [(0, zr 1)], r.toList ++ [], m1) κ)) :
    T (D + 3) 173 (0, [(0, zr 1)], [], m) κ :=
  hT.1 [] 6 (D + 3) 173 _ κ (o1)
theorem zb173_0 (hT : zRules T) {D : Nat} {κ : Option zA → zM → Prop} {m : zM}  (hB : zB m) 
    (k1 : T (D + 2) 16 (0, [(0, zr 28), (1, zr 17)], [], m) (fun r m1 => T (D + 3) 173 (11, [(0, zr 1)], r.toList ++ [], m1) κ)) :
    T (D + 3) 173 (0, [(0, zr 1)], [], m) κ := by
  exact zb173_0r hT
    k1
theorem zb173_11r (hT : zRules T) {D : Nat} {κ : Option zA → zM → Prop} {m : zM} {lo : zL} (hlo : z_keep [0] lo = [(0, zr 1)]) 
    (o1 : ¬ wr (m 28 5) < 12 → κ (none) (zu m 28 4 (Int.tmod (wr ((m 28 4) + 1)) 13)))
    (o2 : wr (m 28 5) < 12 → κ (none) (zu m 28 5 ((m 28 5) + 1))) :
    T (D + 3) 173 (11, lo, [], m) κ :=
  zkeep hT hlo (hT.1 [] 6 (D + 3) 173 _ κ (hT.1 [] 6 (D + 2) 17 _ _ (And.intro (fun a1 => (hT.1 [] 6 (D + 2) 17 (24, [(0, zr 28)], [zr 28, zr 28], m) _ (And.intro (z_neL rfl) (And.intro trivial (hT.1 [] 6 (D + 2) 17 (35, [(0, zr 28)], [], (zu m 28 4 (Int.tmod (wr ((m 28 4) + 1)) 13))) _ (hT.1 [] 6 (D + 3) 173 _ _ (o1 a1))))))) (fun a2 => (hT.1 [] 6 (D + 2) 17 (11, [(0, zr 28)], [zr 28, zr 28], m) _ (And.intro trivial (hT.1 [] 6 (D + 3) 173 _ _ (o2 (Classical.byContradiction a2)))))))))
theorem zb173_11 (hT : zRules T) {D : Nat} {κ : Option zA → zM → Prop} {m : zM} {lo : zL} (hlo : z_keep [0] lo = [(0, zr 1)])  (hB : zB m) 
    (k1 : ¬ (m 28 5) < 12 → zB (zu m 28 4 (Int.tmod ((m 28 4) + 1) 13)) → κ (none) (zu m 28 4 (Int.tmod ((m 28 4) + 1) 13)))
    (k2 : (m 28 5) < 12 → zB (zu m 28 5 ((m 28 5) + 1)) → κ (none) (zu m 28 5 ((m 28 5) + 1))) :
    T (D + 3) 173 (11, lo, [], m) κ := by
  have hb0 : 0 ≤ (m 28 5) ∧ (m 28 5) ≤ 12 := hB 28 5
  have hb1 : 0 ≤ (m 28 4) ∧ (m 28 4) ≤ 12 := hB 28 4
  have hb2 : 0 ≤ (Int.tmod ((m 28 4) + 1) 13) ∧ (Int.tmod ((m 28 4) + 1) 13) ≤ 12 := z_tmodB ((m 28 4) + 1) 13 12 (by omega) (by omega) (by omega)
  have he0 : wr (m 28 5) = (m 28 5) := wr_id (by omega) (by omega)
  have he1 : wr ((m 28 4) + 1) = ((m 28 4) + 1) := wr_id (by omega) (by omega)
  have key := @zb173_11r T hT D κ m  lo hlo
  simp only [he0, he1, Int.toNat_natCast] at key
  exact key
    (fun x0 => k1 x0 (zB_u hB (show 0 ≤ (Int.tmod ((m 28 4) + 1) 13) ∧ (Int.tmod ((m 28 4) + 1) 13) ≤ 12 from ⟨by omega, by omega⟩)))
    (fun x0 => k2 x0 (zB_u hB (show 0 ≤ ((m 28 5) + 1) ∧ ((m 28 5) + 1) ≤ 12 from ⟨by omega, by omega⟩)))
theorem zb30_0r (hT : zRules T) {D : Nat} {κ : Option zA → zM → Prop} {m : zM} {p : Int} {c : Int} 
    (o1 : wr p < 0 → κ (some (zi (-3))) m)
    (o2 : ¬ wr p < 0 → ¬ wr p < wr (m 17 0) → κ (some (zi (-3))) m)
    (o3 : ¬ wr p < 0 → wr p < wr (m 17 0) → wr c = (-1) → ¬ wr c = (-1) → False)
    (o4 : ¬ wr p < 0 → wr p < wr (m 17 0) → wr c = (-1) → wr c = (-1) → κ (some (zi 0)) m)
    (o5 : ¬ wr p < 0 → wr p < wr (m 17 0) → ¬ wr c = (-1) → wr c < 0 → κ (some (zi (-3))) m)
    (o6 : ¬ wr p < 0 → wr p < wr (m 17 0) → ¬ wr c = (-1) → ¬ wr c < 0 → ¬ wr c < wr (m 17 1) → κ (some (zi (-3))) m)
    (o7 : ¬ wr p < 0 → wr p < wr (m 17 0) → ¬ wr c = (-1) → ¬ wr c < 0 → wr c < wr (m 17 1) → ¬ wr c = (-1) → T (D + 2) 29 (0, [(0, zr 17), (1, zi c)], [], m) (fun r m1 => T (D + 3) 30 (38, [(0, zr 17), (1, zi p), (2, zi c)], r.toList ++ [], m1) κ))
    (o8 : ¬ wr p < 0 → wr p < wr (m 17 0) → ¬ wr c = (-1) → ¬ wr c < 0 → wr c < wr (m 17 1) → wr c = (-1) → False) :
    T (D + 3) 30 (0, [(0, zr 17), (1, zi p), (2, zi c)], [], m) κ :=
  hT.1 [] 6 (D + 3) 30 _ κ (hT.1 [] 6 (D + 2) 25 _ _ (And.intro (fun a1 => (And.intro (z_b01L rfl) (hT.1 [] 6 (D + 3) 30 _ _ (And.intro (fun _ => (o1 a1)) (fun a3 => (a3 (z_litT rfl)).elim))))) (fun a2 => (And.intro (fun a4 => (hT.1 [] 6 (D + 2) 25 (16, [(0, zr 17), (1, zi p)], [], m) _ (And.intro (z_b01L rfl) (hT.1 [] 6 (D + 3) 30 _ _ (And.intro (fun _ => (o2 a2 a4)) (fun a6 => (a6 (z_litT rfl)).elim)))))) (fun a5 => (hT.1 [] 6 (D + 2) 25 (12, [(0, zr 17), (1, zi p)], [], m) _ (And.intro (z_b01L rfl) (hT.1 [] 6 (D + 3) 30 _ _ (And.intro (fun a7 => (z_litF a7 rfl).elim) (fun _ => (And.intro (fun a8 => (hT.1 [] 6 (D + 3) 30 (26, [(0, zr 17), (1, zi p), (2, zi c)], [zi (-1), zi c], m) _ (And.intro (fun a10 => (o3 a2 (Classical.byContradiction a5) a8 a10).elim) (fun a11 => (hT.1 [] 6 (D + 3) 30 (41, [(0, zr 17), (1, zi p), (2, zi c), (3, zi (-1))], [zi (-1), zi (-1)], m) _ (And.intro (fun _ => (o4 a2 (Classical.byContradiction a5) a8 (Classical.byContradiction a11))) (fun a12 => (a12 (z_litT rfl)).elim))))))) (fun a9 => (hT.1 [] 6 (D + 3) 30 (15, [(0, zr 17), (1, zi p), (2, zi c)], [zi c, zr 17], m) _ (hT.1 [] 6 (D + 2) 26 _ _ (And.intro (fun a13 => (And.intro (z_b01L rfl) (hT.1 [] 6 (D + 3) 30 _ _ (And.intro (fun a15 => (z_litF a15 rfl).elim) (fun _ => (o5 a2 (Classical.byContradiction a5) a9 a13)))))) (fun a14 => (And.intro (fun a16 => (hT.1 [] 6 (D + 2) 26 (16, [(0, zr 17), (1, zi c)], [], m) _ (And.intro (z_b01L rfl) (hT.1 [] 6 (D + 3) 30 _ _ (And.intro (fun a18 => (z_litF a18 rfl).elim) (fun _ => (o6 a2 (Classical.byContradiction a5) a9 a14 a16))))))) (fun a17 => (hT.1 [] 6 (D + 2) 26 (12, [(0, zr 17), (1, zi c)], [], m) _ (And.intro (z_b01L rfl) (hT.1 [] 6 (D + 3) 30 _ _ (And.intro (fun _ => (And.intro (fun a20 => (hT.1 [] 6 (D + 3) 30 (35, [(0, zr 17), (1, zi p), (2, zi c)], [zi c, zr 17], m) _ (o7 a2 (Classical.byContradiction a5) a9 a14 (Classical.byContradiction a17) a20))) (fun a21 => (o8 a2 (Classical.byContradiction a5) a9 a14 (Classical.byContradiction a17) (Classical.byContradiction a21)).elim))) (fun a19 => (a19 (z_litT rfl)).elim)))))))))))))))))))))))
theorem zb30_0 (hT : zRules T) {D : Nat} {κ : Option zA → zM → Prop} {m : zM} {p : Int} {c : Int}  (hB : zB m) (h_p : (-2147483648) ≤ p ∧ p ≤ 2147483647) (h_c : (-2147483648) ≤ c ∧ c ≤ 2147483647) 
    (k1 : p < 0 → κ (some (zi (-3))) m)
    (k2 : ¬ p < 0 → ¬ p < (m 17 0) → κ (some (zi (-3))) m)
    (k3 : ¬ p < 0 → p < (m 17 0) → c = (-1) → κ (some (zi 0)) m)
    (k4 : ¬ p < 0 → p < (m 17 0) → ¬ c = (-1) → c < 0 → κ (some (zi (-3))) m)
    (k5 : ¬ p < 0 → p < (m 17 0) → ¬ c = (-1) → ¬ c < 0 → ¬ c < (m 17 1) → κ (some (zi (-3))) m)
    (k6 : ¬ p < 0 → p < (m 17 0) → ¬ c = (-1) → ¬ c < 0 → c < (m 17 1) → T (D + 2) 29 (0, [(0, zr 17), (1, zi c)], [], m) (fun r m1 => T (D + 3) 30 (38, [(0, zr 17), (1, zi p), (2, zi c)], r.toList ++ [], m1) κ)) :
    T (D + 3) 30 (0, [(0, zr 17), (1, zi p), (2, zi c)], [], m) κ := by
  have hb2 : 0 ≤ (m 17 0) ∧ (m 17 0) ≤ 6 := hB 17 0
  have hb3 : 0 ≤ (m 17 1) ∧ (m 17 1) ≤ 8 := hB 17 1
  have he0 : wr p = p := wr_id (by omega) (by omega)
  have he1 : wr (m 17 0) = (m 17 0) := wr_id (by omega) (by omega)
  have he2 : wr c = c := wr_id (by omega) (by omega)
  have he3 : wr (m 17 1) = (m 17 1) := wr_id (by omega) (by omega)
  have key := @zb30_0r T hT D κ m p c
  simp only [he0, he1, he2, he3, Int.toNat_natCast] at key
  exact key
    k1
    k2
    (fun x0 x1 x2 x3 => by omega)
    (fun x0 x1 x2 x3 => k3 x0 x1 x2)
    k4
    k5
    (fun x0 x1 x2 x3 x4 x5 => k6 x0 x1 x2 x3 x4)
    (fun x0 x1 x2 x3 x4 x5 => by omega)
theorem zb30_38r (hT : zRules T) {D : Nat} {κ : Option zA → zM → Prop} {m : zM} {p : Nat} {v : Int} {lo : zL} (hlo : z_keep [1] lo = [(1, zi (p : Int))]) 
    (o1 : wr v = (-1) → κ (some (zi 0)) m)
    (o2 : ¬ wr v = (-1) → ¬ wr v = wr (p : Int) → κ (some (zi (-2))) m)
    (o3 : ¬ wr v = (-1) → wr v = wr (p : Int) → κ (some (zi 0)) m) :
    T (D + 3) 30 (38, lo, [zi v], m) κ :=
  zkeep hT hlo (hT.1 [] 6 (D + 3) 30 _ κ (And.intro (fun a1 => (hT.1 [] 6 (D + 3) 30 (55, [(1, zi (p : Int)), (3, zi v)], [zi 0], m) _ (o1 a1))) (fun a2 => (hT.1 [] 6 (D + 3) 30 (46, [(1, zi (p : Int)), (3, zi v)], [zi (p : Int), zi v], m) _ (And.intro (fun a3 => (o2 a2 a3)) (fun a4 => (o3 a2 (Classical.byContradiction a4))))))))
theorem zb30_38 (hT : zRules T) {D : Nat} {κ : Option zA → zM → Prop} {m : zM} {p : Nat} {v : Int} {lo : zL} (hlo : z_keep [1] lo = [(1, zi (p : Int))])  (h_p : p ≤ 5) (h_v : (-1) ≤ v ∧ v ≤ 5) 
    (k1 : v = (-1) → κ (some (zi 0)) m)
    (k2 : ¬ v = (-1) → ¬ v = (p : Int) → κ (some (zi (-2))) m)
    (k3 : ¬ v = (-1) → v = (p : Int) → κ (some (zi 0)) m) :
    T (D + 3) 30 (38, lo, [zi v], m) κ := by
  have he0 : wr v = v := wr_id (by omega) (by omega)
  have he1 : wr (p : Int) = (p : Int) := wr_id (by omega) (by omega)
  have key := @zb30_38r T hT D κ m p v lo hlo
  simp only [he0, he1, Int.toNat_natCast] at key
  exact key
    k1
    k2
    k3
theorem zb230_0r (hT : zRules T) {D : Nat} {κ : Option zA → zM → Prop} {m : zM} {p : Int} {c : Int} 
    (o1 : wr p < 0 → κ (some (zi (-3))) m)
    (o2 : ¬ wr p < 0 → wr ((m 74 4) - 1) < wr p → κ (some (zi (-3))) m)
    (o3 : ¬ wr p < 0 → ¬ wr ((m 74 4) - 1) < wr p → wr c = (-1) → wr c = (-1) → κ (some (zi 0)) m)
    (o4 : ¬ wr p < 0 → ¬ wr ((m 74 4) - 1) < wr p → wr c = (-1) → ¬ wr c = (-1) → False)
    (o5 : ¬ wr p < 0 → ¬ wr ((m 74 4) - 1) < wr p → ¬ wr c = (-1) → wr c < 0 → κ (some (zi (-3))) m)
    (o6 : ¬ wr p < 0 → ¬ wr ((m 74 4) - 1) < wr p → ¬ wr c = (-1) → ¬ wr c < 0 → wr ((m 74 6) - 1) < wr c → κ (some (zi (-3))) m)
    (o7 : ¬ wr p < 0 → ¬ wr ((m 74 4) - 1) < wr p → ¬ wr c = (-1) → ¬ wr c < 0 → ¬ wr ((m 74 6) - 1) < wr c → wr c = (-1) → False)
    (o8 : ¬ wr p < 0 → ¬ wr ((m 74 4) - 1) < wr p → ¬ wr c = (-1) → ¬ wr c < 0 → ¬ wr ((m 74 6) - 1) < wr c → ¬ wr c = (-1) → T (D + 2) 217 (0, [(0, zr 74), (1, zr 75), (2, zi c)], [], m) (fun r m1 => T (D + 3) 230 (38, [(0, zr 74), (1, zi p), (2, zi c)], r.toList ++ [], m1) κ)) :
    T (D + 3) 230 (0, [(0, zr 74), (1, zi p), (2, zi c)], [], m) κ :=
  hT.1 [] 6 (D + 3) 230 _ κ (hT.1 [] 6 (D + 2) 190 _ _ (hT.1 [] 6 (D + 2) 190 (8, [(0, zr 74), (1, zi p)], [zi ((m 74 4) - 1), zi 0, zi p], m) _ (hT.1 [] 6 (D + 1) 186 _ _ (And.intro (fun a1 => (And.intro (z_b01L rfl) (hT.1 [] 6 (D + 2) 190 _ _ (And.intro (z_b01L rfl) (hT.1 [] 6 (D + 3) 230 _ _ (And.intro (fun _ => (o1 a1)) (fun a3 => (a3 (z_litT rfl)).elim))))))) (fun a2 => (And.intro (fun a4 => (hT.1 [] 6 (D + 1) 186 (14, [(0, zi p), (1, zi 0), (2, zi ((m 74 4) - 1))], [], m) _ (And.intro (z_b01L rfl) (hT.1 [] 6 (D + 2) 190 _ _ (And.intro (z_b01L rfl) (hT.1 [] 6 (D + 3) 230 _ _ (And.intro (fun _ => (o2 a2 a4)) (fun a6 => (a6 (z_litT rfl)).elim)))))))) (fun a5 => (hT.1 [] 6 (D + 1) 186 (10, [(0, zi p), (1, zi 0), (2, zi ((m 74 4) - 1))], [], m) _ (And.intro (z_b01L rfl) (hT.1 [] 6 (D + 2) 190 _ _ (And.intro (z_b01L rfl) (hT.1 [] 6 (D + 3) 230 _ _ (And.intro (fun a7 => (z_litF a7 rfl).elim) (fun _ => (And.intro (fun a8 => (hT.1 [] 6 (D + 3) 230 (26, [(0, zr 74), (1, zi p), (2, zi c)], [zi (-1), zi c], m) _ (And.intro (fun a10 => (o3 a2 a5 a8 a10)) (fun a11 => (o4 a2 a5 a8 a11).elim)))) (fun a9 => (hT.1 [] 6 (D + 3) 230 (15, [(0, zr 74), (1, zi p), (2, zi c)], [zi c, zr 74], m) _ (hT.1 [] 6 (D + 2) 191 _ _ (hT.1 [] 6 (D + 2) 191 (8, [(0, zr 74), (1, zi c)], [zi ((m 74 6) - 1), zi 0, zi c], m) _ (hT.1 [] 6 (D + 1) 186 _ _ (And.intro (fun a12 => (And.intro (z_b01L rfl) (hT.1 [] 6 (D + 2) 191 _ _ (And.intro (z_b01L rfl) (hT.1 [] 6 (D + 3) 230 _ _ (And.intro (fun a14 => (z_litF a14 rfl).elim) (fun _ => (o5 a2 a5 a9 a12)))))))) (fun a13 => (And.intro (fun a15 => (hT.1 [] 6 (D + 1) 186 (14, [(0, zi c), (1, zi 0), (2, zi ((m 74 6) - 1))], [], m) _ (And.intro (z_b01L rfl) (hT.1 [] 6 (D + 2) 191 _ _ (And.intro (z_b01L rfl) (hT.1 [] 6 (D + 3) 230 _ _ (And.intro (fun a17 => (z_litF a17 rfl).elim) (fun _ => (o6 a2 a5 a9 a13 a15))))))))) (fun a16 => (hT.1 [] 6 (D + 1) 186 (10, [(0, zi c), (1, zi 0), (2, zi ((m 74 6) - 1))], [], m) _ (And.intro (z_b01L rfl) (hT.1 [] 6 (D + 2) 191 _ _ (And.intro (z_b01L rfl) (hT.1 [] 6 (D + 3) 230 _ _ (And.intro (fun _ => (And.intro (fun a19 => (o7 a2 a5 a9 a13 a16 a19).elim) (fun a20 => (hT.1 [] 6 (D + 3) 230 (31, [(0, zr 74), (1, zi p), (2, zi c)], [zr 74, zr 74], m) _ (o8 a2 a5 a9 a13 a16 a20))))) (fun a18 => (a18 (z_litT rfl)).elim)))))))))))))))))))))))))))))))
theorem zb230_0 (hT : zRules T) {D : Nat} {κ : Option zA → zM → Prop} {m : zM} {p : Int} {c : Int}  (hB : zB m) (h_p : (-2147483648) ≤ p ∧ p ≤ 2147483647) (h_c : (-2147483648) ≤ c ∧ c ≤ 2147483647) 
    (k1 : p < 0 → κ (some (zi (-3))) m)
    (k2 : ¬ p < 0 → ((m 74 4) - 1) < p → κ (some (zi (-3))) m)
    (k3 : ¬ p < 0 → ¬ ((m 74 4) - 1) < p → c = (-1) → κ (some (zi 0)) m)
    (k4 : ¬ p < 0 → ¬ ((m 74 4) - 1) < p → ¬ c = (-1) → c < 0 → κ (some (zi (-3))) m)
    (k5 : ¬ p < 0 → ¬ ((m 74 4) - 1) < p → ¬ c = (-1) → ¬ c < 0 → ((m 74 6) - 1) < c → κ (some (zi (-3))) m)
    (k6 : ¬ p < 0 → ¬ ((m 74 4) - 1) < p → ¬ c = (-1) → ¬ c < 0 → ¬ ((m 74 6) - 1) < c → T (D + 2) 217 (0, [(0, zr 74), (1, zr 75), (2, zi c)], [], m) (fun r m1 => T (D + 3) 230 (38, [(0, zr 74), (1, zi p), (2, zi c)], r.toList ++ [], m1) κ)) :
    T (D + 3) 230 (0, [(0, zr 74), (1, zi p), (2, zi c)], [], m) κ := by
  have hb2 : 0 ≤ (m 74 4) ∧ (m 74 4) ≤ 6 := hB 74 4
  have hb3 : 0 ≤ (m 74 6) ∧ (m 74 6) ≤ 8 := hB 74 6
  have he0 : wr p = p := wr_id (by omega) (by omega)
  have he1 : wr ((m 74 4) - 1) = ((m 74 4) - 1) := wr_id (by omega) (by omega)
  have he2 : wr c = c := wr_id (by omega) (by omega)
  have he3 : wr ((m 74 6) - 1) = ((m 74 6) - 1) := wr_id (by omega) (by omega)
  have key := @zb230_0r T hT D κ m p c
  simp only [he0, he1, he2, he3, Int.toNat_natCast] at key
  exact key
    k1
    k2
    (fun x0 x1 x2 x3 => k3 x0 x1 x2)
    (fun x0 x1 x2 x3 => by omega)
    k4
    k5
    (fun x0 x1 x2 x3 x4 x5 => by omega)
    (fun x0 x1 x2 x3 x4 x5 => k6 x0 x1 x2 x3 x4)
theorem zb230_38r (hT : zRules T) {D : Nat} {κ : Option zA → zM → Prop} {m : zM} {p : Nat} {c : Int} {v : Int} {lo : zL} (hlo : z_keep [0, 1, 2] lo = [(0, zr 74), (1, zi (p : Int)), (2, zi c)]) 
    (o1 : wr v = (-1) → κ (some (zi 0)) m)
    (o2 : ¬ wr v = (-1) → T (D + 2) 217 (0, [(0, zr 74), (1, zr 75), (2, zi c)], [], m) (fun r m1 => T (D + 3) 230 (51, [(0, zr 74), (1, zi (p : Int)), (2, zi c)], r.toList ++ [], m1) κ)) :
    T (D + 3) 230 (38, lo, [zi v], m) κ :=
  zkeep hT hlo (hT.1 [] 6 (D + 3) 230 _ κ (And.intro (fun a1 => (o1 a1)) (fun a2 => (hT.1 [] 6 (D + 3) 230 (48, [(0, zr 74), (1, zi (p : Int)), (2, zi c)], [zi c, zr 75, zr 74], m) _ (o2 a2)))))
theorem zb230_38 (hT : zRules T) {D : Nat} {κ : Option zA → zM → Prop} {m : zM} {p : Nat} {c : Int} {v : Int} {lo : zL} (hlo : z_keep [0, 1, 2] lo = [(0, zr 74), (1, zi (p : Int)), (2, zi c)])  (hB : zB m) (h_p : p ≤ 5) (h_c : 0 ≤ c ∧ c ≤ 7) (h_v : (-1) ≤ v ∧ v ≤ 5) 
    (k1 : v = (-1) → κ (some (zi 0)) m)
    (k2 : ¬ v = (-1) → T (D + 2) 217 (0, [(0, zr 74), (1, zr 75), (2, zi c)], [], m) (fun r m1 => T (D + 3) 230 (51, [(0, zr 74), (1, zi (p : Int)), (2, zi c)], r.toList ++ [], m1) κ)) :
    T (D + 3) 230 (38, lo, [zi v], m) κ := by
  have he0 : wr v = v := wr_id (by omega) (by omega)
  have key := @zb230_38r T hT D κ m p c v lo hlo
  simp only [he0, Int.toNat_natCast] at key
  exact key
    k1
    k2
theorem zb230_51r (hT : zRules T) {D : Nat} {κ : Option zA → zM → Prop} {m : zM} {p : Nat} {v : Int} {lo : zL} (hlo : z_keep [1] lo = [(1, zi (p : Int))]) 
    (o1 : wr v = wr (p : Int) → κ (some (zi 0)) m)
    (o2 : ¬ wr v = wr (p : Int) → κ (some (zi (-2))) m) :
    T (D + 3) 230 (51, lo, [zi v], m) κ :=
  zkeep hT hlo (hT.1 [] 6 (D + 3) 230 _ κ (And.intro (fun a1 => (o1 a1)) (fun a2 => (o2 a2))))
theorem zb230_51 (hT : zRules T) {D : Nat} {κ : Option zA → zM → Prop} {m : zM} {p : Nat} {v : Int} {lo : zL} (hlo : z_keep [1] lo = [(1, zi (p : Int))])  (h_p : p ≤ 5) (h_v : (-1) ≤ v ∧ v ≤ 5) 
    (k1 : v = (p : Int) → κ (some (zi 0)) m)
    (k2 : ¬ v = (p : Int) → κ (some (zi (-2))) m) :
    T (D + 3) 230 (51, lo, [zi v], m) κ := by
  have he0 : wr v = v := wr_id (by omega) (by omega)
  have he1 : wr (p : Int) = (p : Int) := wr_id (by omega) (by omega)
  have key := @zb230_51r T hT D κ m p v lo hlo
  simp only [he0, he1, Int.toNat_natCast] at key
  exact key
    k1
    k2
theorem zb123_0r (hT : zRules T) {D : Nat} {κ : Option zA → zM → Prop} {m : zM} {p : Int} {c : Int} 
    (o1 : T (D + 3) 30 (0, [(0, zr 17), (1, zi p), (2, zi c)], [], m) (fun r m1 => T (D + 4) 123 (9, [(0, zr 1), (1, zi p), (2, zi c)], r.toList ++ [], m1) κ)) :
    T (D + 4) 123 (0, [(0, zr 1), (1, zi p), (2, zi c)], [], m) κ :=
  hT.1 [] 6 (D + 4) 123 _ κ (o1)
theorem zb123_0 (hT : zRules T) {D : Nat} {κ : Option zA → zM → Prop} {m : zM} {p : Int} {c : Int}  (hB : zB m) (h_p : (-2147483648) ≤ p ∧ p ≤ 2147483647) (h_c : (-2147483648) ≤ c ∧ c ≤ 2147483647) 
    (k1 : T (D + 3) 30 (0, [(0, zr 17), (1, zi p), (2, zi c)], [], m) (fun r m1 => T (D + 4) 123 (9, [(0, zr 1), (1, zi p), (2, zi c)], r.toList ++ [], m1) κ)) :
    T (D + 4) 123 (0, [(0, zr 1), (1, zi p), (2, zi c)], [], m) κ := by
  exact zb123_0r hT
    k1
theorem zb123_9r (hT : zRules T) {D : Nat} {κ : Option zA → zM → Prop} {m : zM} {p : Int} {c : Int} {v : Int} {lo : zL} (hlo : z_keep [0, 1, 2] lo = [(0, zr 1), (1, zi p), (2, zi c)]) 
    (o1 : wr v = 0 → T (D + 3) 173 (0, [(0, zr 1)], [], m) (fun r m1 => T (D + 4) 123 (20, [(0, zr 1), (1, zi p), (2, zi c), (3, zi v)], r.toList ++ [], m1) κ))
    (o2 : ¬ wr v = 0 → κ (some (zi (wr v))) m) :
    T (D + 4) 123 (9, lo, [zi v], m) κ :=
  zkeep hT hlo (hT.1 [] 6 (D + 4) 123 _ κ (And.intro (fun a1 => (o1 a1)) (fun a2 => (o2 a2))))
theorem zb123_9 (hT : zRules T) {D : Nat} {κ : Option zA → zM → Prop} {m : zM} {p : Int} {c : Int} {v : Int} {lo : zL} (hlo : z_keep [0, 1, 2] lo = [(0, zr 1), (1, zi p), (2, zi c)])  (hB : zB m) (h_p : (-2147483648) ≤ p ∧ p ≤ 2147483647) (h_c : (-2147483648) ≤ c ∧ c ≤ 2147483647) (h_v : (-3) ≤ v ∧ v ≤ 0) 
    (k1 : v = 0 → T (D + 3) 173 (0, [(0, zr 1)], [], m) (fun r m1 => T (D + 4) 123 (20, [(0, zr 1), (1, zi p), (2, zi c), (3, zi v)], r.toList ++ [], m1) κ))
    (k2 : ¬ v = 0 → κ (some (zi v)) m) :
    T (D + 4) 123 (9, lo, [zi v], m) κ := by
  have he0 : wr v = v := wr_id (by omega) (by omega)
  have key := @zb123_9r T hT D κ m p c v lo hlo
  simp only [he0, Int.toNat_natCast] at key
  exact key
    k1
    k2
theorem zb123_20r (hT : zRules T) {D : Nat} {κ : Option zA → zM → Prop} {m : zM} {p : Nat} {c : Int} {lo : zL} (hlo : z_keep [0, 1, 2] lo = [(0, zr 1), (1, zi (p : Int)), (2, zi c)]) 
    (o1 : (0 ≤ wr (p : Int) ∧ wr (p : Int) < 6))
    (o2 : (0 ≤ wr (p : Int) ∧ wr (p : Int) < 6))
    (o3 : κ (some (zi (wr (m 20 ((wr (p : Int)).toNat))))) (zu m 20 ((wr (p : Int)).toNat) c)) :
    T (D + 4) 123 (20, lo, [], m) κ :=
  zkeep hT hlo (hT.1 [] 6 (D + 4) 123 _ κ (And.intro (o1) (hT.1 [] 6 (D + 4) 123 (31, [(0, zr 1), (1, zi (p : Int)), (2, zi c), (4, zi (m 20 ((wr (p : Int)).toNat)))], [], m) _ (And.intro (And.intro (o2) trivial) (hT.1 [] 6 (D + 4) 123 (41, [(0, zr 1), (1, zi (p : Int)), (2, zi c), (4, zi (m 20 ((wr (p : Int)).toNat)))], [], (zu m 20 ((wr (p : Int)).toNat) c)) _ (o3))))))
theorem zb123_20 (hT : zRules T) {D : Nat} {κ : Option zA → zM → Prop} {m : zM} {p : Nat} {c : Int} {lo : zL} (hlo : z_keep [0, 1, 2] lo = [(0, zr 1), (1, zi (p : Int)), (2, zi c)])  (hB : zB m) (h_p : p ≤ 5) (h_c : (-1) ≤ c ∧ c ≤ 7) 
    (k1 : zB (zu m 20 p c) → κ (some (zi (m 20 p))) (zu m 20 p c)) :
    T (D + 4) 123 (20, lo, [], m) κ := by
  have hb2 : (-1) ≤ (m 20 p) ∧ (m 20 p) ≤ 7 := hB 20 p
  have he0 : wr (p : Int) = (p : Int) := wr_id (by omega) (by omega)
  have he1 : (p : Int).toNat = p := by omega
  have he2 : wr (m 20 p) = (m 20 p) := wr_id (by omega) (by omega)
  have key := @zb123_20r T hT D κ m p c lo hlo
  simp only [he0, he1, he2, Int.toNat_natCast] at key
  exact key
    (by refine ⟨?_, ?_⟩ <;> omega)
    (by refine ⟨?_, ?_⟩ <;> omega)
    (k1  (zB_u hB (show (-1) ≤ c ∧ c ≤ 7 from ⟨by omega, by omega⟩)))
theorem zb231_0r (hT : zRules T) {D : Nat} {κ : Option zA → zM → Prop} {m : zM} {p : Int} {c : Int} 
    (o1 : T (D + 3) 230 (0, [(0, zr 74), (1, zi p), (2, zi c)], [], (zu m 74 12 0)) (fun r m1 => T (D + 4) 231 (11, [(0, zr 74), (1, zi p), (2, zi c)], r.toList ++ [], m1) κ)) :
    T (D + 4) 231 (0, [(0, zr 74), (1, zi p), (2, zi c)], [], m) κ :=
  hT.1 [] 6 (D + 4) 231 _ κ (And.intro trivial (hT.1 [] 6 (D + 4) 231 (8, [(0, zr 74), (1, zi p), (2, zi c)], [zi c, zi p, zr 74], (zu m 74 12 0)) _ (o1)))
theorem zb231_0 (hT : zRules T) {D : Nat} {κ : Option zA → zM → Prop} {m : zM} {p : Int} {c : Int}  (hB : zB m) (h_p : (-2147483648) ≤ p ∧ p ≤ 2147483647) (h_c : (-2147483648) ≤ c ∧ c ≤ 2147483647) 
    (k1 : zB (zu m 74 12 0) → T (D + 3) 230 (0, [(0, zr 74), (1, zi p), (2, zi c)], [], (zu m 74 12 0)) (fun r m1 => T (D + 4) 231 (11, [(0, zr 74), (1, zi p), (2, zi c)], r.toList ++ [], m1) κ)) :
    T (D + 4) 231 (0, [(0, zr 74), (1, zi p), (2, zi c)], [], m) κ := by
  exact zb231_0r hT
    (k1  (zB_u hB trivial))
theorem zb231_11r (hT : zRules T) {D : Nat} {κ : Option zA → zM → Prop} {m : zM} {p : Int} {c : Int} {v : Int} {lo : zL} (hlo : z_keep [0, 1, 2] lo = [(0, zr 74), (1, zi p), (2, zi c)]) 
    (o1 : ¬ wr v < 0 → T (D + 3) 229 (0, [(0, zr 74), (1, zr 75)], [], m) (fun r m1 => T (D + 4) 231 (26, [(0, zr 74), (1, zi p), (2, zi c), (3, zi v)], r.toList ++ [], m1) κ))
    (o2 : wr v < 0 → κ (some (zi (wr v))) m) :
    T (D + 4) 231 (11, lo, [zi v], m) κ :=
  zkeep hT hlo (hT.1 [] 6 (D + 4) 231 _ κ (And.intro (fun a1 => (hT.1 [] 6 (D + 4) 231 (23, [(0, zr 74), (1, zi p), (2, zi c), (3, zi v)], [zr 75, zr 74], m) _ (o1 a1))) (fun a2 => (o2 (Classical.byContradiction a2)))))
theorem zb231_11 (hT : zRules T) {D : Nat} {κ : Option zA → zM → Prop} {m : zM} {p : Int} {c : Int} {v : Int} {lo : zL} (hlo : z_keep [0, 1, 2] lo = [(0, zr 74), (1, zi p), (2, zi c)])  (hB : zB m) (h_p : (-2147483648) ≤ p ∧ p ≤ 2147483647) (h_c : (-2147483648) ≤ c ∧ c ≤ 2147483647) (h_v : (-3) ≤ v ∧ v ≤ 0) 
    (k1 : ¬ v < 0 → T (D + 3) 229 (0, [(0, zr 74), (1, zr 75)], [], m) (fun r m1 => T (D + 4) 231 (26, [(0, zr 74), (1, zi p), (2, zi c), (3, zi v)], r.toList ++ [], m1) κ))
    (k2 : v < 0 → κ (some (zi v)) m) :
    T (D + 4) 231 (11, lo, [zi v], m) κ := by
  have he0 : wr v = v := wr_id (by omega) (by omega)
  have key := @zb231_11r T hT D κ m p c v lo hlo
  simp only [he0, Int.toNat_natCast] at key
  exact key
    k1
    k2
theorem zb231_26r (hT : zRules T) {D : Nat} {κ : Option zA → zM → Prop} {m : zM} {p : Nat} {c : Int} {lo : zL} (hlo : z_keep [0, 1, 2] lo = [(0, zr 74), (1, zi (p : Int)), (2, zi c)]) 
    (o1 : (0 ≤ wr (6 + (p : Int)) ∧ wr (6 + (p : Int)) < 59))
    (o2 : (0 ≤ wr (6 + (p : Int)) ∧ wr (6 + (p : Int)) < 59))
    (o3 : κ (some (zi (wr (m 75 ((wr (6 + (p : Int))).toNat))))) (zu m 75 ((wr (6 + (p : Int))).toNat) c)) :
    T (D + 4) 231 (26, lo, [], m) κ :=
  zkeep hT hlo (hT.1 [] 6 (D + 4) 231 _ κ (And.intro (o1) (hT.1 [] 6 (D + 4) 231 (35, [(0, zr 74), (1, zi (p : Int)), (2, zi c)], [zi (m 75 ((wr (6 + (p : Int))).toNat))], m) _ (hT.1 [] 6 (D + 4) 231 (45, [(0, zr 74), (1, zi (p : Int)), (2, zi c), (4, zi (m 75 ((wr (6 + (p : Int))).toNat)))], [zi (6 + (p : Int)), zr 75], m) _ (And.intro (And.intro (o2) trivial) (o3))))))
theorem zb231_26 (hT : zRules T) {D : Nat} {κ : Option zA → zM → Prop} {m : zM} {p : Nat} {c : Int} {lo : zL} (hlo : z_keep [0, 1, 2] lo = [(0, zr 74), (1, zi (p : Int)), (2, zi c)])  (hB : zB m) (h_p : p ≤ 5) (h_c : (-1) ≤ c ∧ c ≤ 7) 
    (k1 : zB (zu m 75 (p + 6) c) → κ (some (zi (m 75 (p + 6)))) (zu m 75 (p + 6) c)) :
    T (D + 4) 231 (26, lo, [], m) κ := by
  have hb2 : (-1) ≤ (m 75 (p + 6)) ∧ (m 75 (p + 6)) ≤ 7 := zSg hB 75 6 12 (-1) 7 rfl (p + 6) (by omega) (by omega)
  have he0 : wr (6 + (p : Int)) = (6 + (p : Int)) := wr_id (by omega) (by omega)
  have he1 : (6 + (p : Int)).toNat = p + 6 := by omega
  have he2 : wr (m 75 (p + 6)) = (m 75 (p + 6)) := wr_id (by omega) (by omega)
  have key := @zb231_26r T hT D κ m p c lo hlo
  simp only [he0, he1, he2, Int.toNat_natCast] at key
  exact key
    (by refine ⟨?_, ?_⟩ <;> omega)
    (by refine ⟨?_, ?_⟩ <;> omega)
    (k1  (zB_u hB (zbSg 75 6 12 (-1) 7 rfl (p + 6) c (by omega) (by omega) ⟨by omega, by omega⟩)))
theorem zb124_0r (hT : zRules T) {D : Nat} {κ : Option zA → zM → Prop} {m : zM} {p : Int} {q : Int} 
    (o1 : wr p < 0 → κ (some (zi (-1))) m)
    (o2 : ¬ wr p < 0 → ¬ wr p < wr (m 17 0) → κ (some (zi (-1))) m)
    (o3 : ¬ wr p < 0 → wr p < wr (m 17 0) → wr q < 0 → κ (some (zi (-1))) m)
    (o4 : ¬ wr p < 0 → wr p < wr (m 17 0) → ¬ wr q < 0 → ¬ wr q < 4 → κ (some (zi (-1))) m)
    (o5 : ¬ wr p < 0 → wr p < wr (m 17 0) → ¬ wr q < 0 → wr q < 4 → T (D + 3) 173 (0, [(0, zr 1)], [], m) (fun r m1 => T (D + 4) 124 (24, [(0, zr 1), (1, zi p), (2, zi q)], r.toList ++ [], m1) κ)) :
    T (D + 4) 124 (0, [(0, zr 1), (1, zi p), (2, zi q)], [], m) κ :=
  hT.1 [] 6 (D + 4) 124 _ κ (hT.1 [] 6 (D + 3) 25 _ _ (And.intro (fun a1 => (And.intro (z_b01L rfl) (hT.1 [] 6 (D + 4) 124 _ _ (And.intro (fun _ => (o1 a1)) (fun a3 => (a3 (z_litT rfl)).elim))))) (fun a2 => (And.intro (fun a4 => (hT.1 [] 6 (D + 3) 25 (16, [(0, zr 17), (1, zi p)], [], m) _ (And.intro (z_b01L rfl) (hT.1 [] 6 (D + 4) 124 _ _ (And.intro (fun _ => (o2 a2 a4)) (fun a6 => (a6 (z_litT rfl)).elim)))))) (fun a5 => (hT.1 [] 6 (D + 3) 25 (12, [(0, zr 17), (1, zi p)], [], m) _ (And.intro (z_b01L rfl) (hT.1 [] 6 (D + 4) 124 _ _ (And.intro (fun a7 => (z_litF a7 rfl).elim) (fun _ => (hT.1 [] 6 (D + 3) 163 _ _ (And.intro (fun a8 => (And.intro (z_b01L rfl) (hT.1 [] 6 (D + 4) 124 _ _ (And.intro (fun a10 => (z_litF a10 rfl).elim) (fun _ => (o3 a2 (Classical.byContradiction a5) a8)))))) (fun a9 => (And.intro (fun a11 => (hT.1 [] 6 (D + 3) 163 (14, [(0, zi q)], [zi 0], m) _ (And.intro (z_b01L rfl) (hT.1 [] 6 (D + 4) 124 _ _ (And.intro (fun a13 => (z_litF a13 rfl).elim) (fun _ => (o4 a2 (Classical.byContradiction a5) a9 a11))))))) (fun a12 => (hT.1 [] 6 (D + 3) 163 (10, [(0, zi q)], [zi 1], m) _ (And.intro (z_b01L rfl) (hT.1 [] 6 (D + 4) 124 _ _ (And.intro (fun _ => (o5 a2 (Classical.byContradiction a5) a9 (Classical.byContradiction a12))) (fun a14 => (a14 (z_litT rfl)).elim))))))))))))))))))))
theorem zb124_0 (hT : zRules T) {D : Nat} {κ : Option zA → zM → Prop} {m : zM} {p : Int} {q : Int}  (hB : zB m) (h_p : (-2147483648) ≤ p ∧ p ≤ 2147483647) (h_q : (-2147483648) ≤ q ∧ q ≤ 2147483647) 
    (k1 : p < 0 → κ (some (zi (-1))) m)
    (k2 : ¬ p < 0 → ¬ p < (m 17 0) → κ (some (zi (-1))) m)
    (k3 : ¬ p < 0 → p < (m 17 0) → q < 0 → κ (some (zi (-1))) m)
    (k4 : ¬ p < 0 → p < (m 17 0) → ¬ q < 0 → ¬ q < 4 → κ (some (zi (-1))) m)
    (k5 : ¬ p < 0 → p < (m 17 0) → ¬ q < 0 → q < 4 → T (D + 3) 173 (0, [(0, zr 1)], [], m) (fun r m1 => T (D + 4) 124 (24, [(0, zr 1), (1, zi p), (2, zi q)], r.toList ++ [], m1) κ)) :
    T (D + 4) 124 (0, [(0, zr 1), (1, zi p), (2, zi q)], [], m) κ := by
  have hb2 : 0 ≤ (m 17 0) ∧ (m 17 0) ≤ 6 := hB 17 0
  have he0 : wr p = p := wr_id (by omega) (by omega)
  have he1 : wr (m 17 0) = (m 17 0) := wr_id (by omega) (by omega)
  have he2 : wr q = q := wr_id (by omega) (by omega)
  have key := @zb124_0r T hT D κ m p q
  simp only [he0, he1, he2, Int.toNat_natCast] at key
  exact key
    k1
    k2
    k3
    k4
    k5
theorem zb124_24r (hT : zRules T) {D : Nat} {κ : Option zA → zM → Prop} {m : zM} {p : Nat} {q : Int} {lo : zL} (hlo : z_keep [0, 1, 2] lo = [(0, zr 1), (1, zi (p : Int)), (2, zi q)]) 
    (o1 : (0 ≤ wr (p : Int) ∧ wr (p : Int) < 6))
    (o2 : (0 ≤ wr (p : Int) ∧ wr (p : Int) < 6))
    (o3 : κ (some (zi (wr (m 19 ((wr (p : Int)).toNat))))) (zu m 19 ((wr (p : Int)).toNat) q)) :
    T (D + 4) 124 (24, lo, [], m) κ :=
  zkeep hT hlo (hT.1 [] 6 (D + 4) 124 _ κ (And.intro (o1) (hT.1 [] 6 (D + 4) 124 (34, [(0, zr 1), (1, zi (p : Int)), (2, zi q), (3, zi (m 19 ((wr (p : Int)).toNat)))], [], m) _ (And.intro (And.intro (o2) trivial) (hT.1 [] 6 (D + 4) 124 (44, [(0, zr 1), (1, zi (p : Int)), (2, zi q), (3, zi (m 19 ((wr (p : Int)).toNat)))], [], (zu m 19 ((wr (p : Int)).toNat) q)) _ (o3))))))
theorem zb124_24 (hT : zRules T) {D : Nat} {κ : Option zA → zM → Prop} {m : zM} {p : Nat} {q : Int} {lo : zL} (hlo : z_keep [0, 1, 2] lo = [(0, zr 1), (1, zi (p : Int)), (2, zi q)])  (hB : zB m) (h_p : p ≤ 5) (h_q : 0 ≤ q ∧ q ≤ 3) 
    (k1 : zB (zu m 19 p q) → κ (some (zi (m 19 p))) (zu m 19 p q)) :
    T (D + 4) 124 (24, lo, [], m) κ := by
  have hb2 : (-1) ≤ (m 19 p) ∧ (m 19 p) ≤ 3 := hB 19 p
  have he0 : wr (p : Int) = (p : Int) := wr_id (by omega) (by omega)
  have he1 : (p : Int).toNat = p := by omega
  have he2 : wr (m 19 p) = (m 19 p) := wr_id (by omega) (by omega)
  have key := @zb124_24r T hT D κ m p q lo hlo
  simp only [he0, he1, he2, Int.toNat_natCast] at key
  exact key
    (by refine ⟨?_, ?_⟩ <;> omega)
    (by refine ⟨?_, ?_⟩ <;> omega)
    (k1  (zB_u hB (show (-1) ≤ q ∧ q ≤ 3 from ⟨by omega, by omega⟩)))
theorem zb232_0r (hT : zRules T) {D : Nat} {κ : Option zA → zM → Prop} {m : zM} {p : Int} {q : Int} 
    (o1 : wr p < 0 → κ (some (zi (-1))) (zu m 74 12 0))
    (o2 : ¬ wr p < 0 → wr ((m 74 4) - 1) < wr p → κ (some (zi (-1))) (zu m 74 12 0))
    (o3 : ¬ wr p < 0 → ¬ wr ((m 74 4) - 1) < wr p → wr q < 0 → κ (some (zi (-1))) (zu m 74 12 0))
    (o4 : ¬ wr p < 0 → ¬ wr ((m 74 4) - 1) < wr p → ¬ wr q < 0 → 3 < wr q → κ (some (zi (-1))) (zu m 74 12 0))
    (o5 : ¬ wr p < 0 → ¬ wr ((m 74 4) - 1) < wr p → ¬ wr q < 0 → ¬ 3 < wr q → T (D + 2) 229 (0, [(0, zr 74), (1, zr 75)], [], (zu m 74 12 0)) (fun r m1 => T (D + 3) 232 (30, [(0, zr 74), (1, zi p), (2, zi q)], r.toList ++ [], m1) κ)) :
    T (D + 3) 232 (0, [(0, zr 74), (1, zi p), (2, zi q)], [], m) κ :=
  hT.1 [] 6 (D + 3) 232 _ κ (And.intro trivial (hT.1 [] 6 (D + 2) 190 _ _ (hT.1 [] 6 (D + 2) 190 (8, [(0, zr 74), (1, zi p)], [zi ((m 74 4) - 1), zi 0, zi p], (zu m 74 12 0)) _ (hT.1 [] 6 (D + 1) 186 _ _ (And.intro (fun a1 => (And.intro (z_b01L rfl) (hT.1 [] 6 (D + 2) 190 _ _ (And.intro (z_b01L rfl) (hT.1 [] 6 (D + 3) 232 _ _ (And.intro (fun _ => (o1 a1)) (fun a3 => (a3 (z_litT rfl)).elim))))))) (fun a2 => (And.intro (fun a4 => (hT.1 [] 6 (D + 1) 186 (14, [(0, zi p), (1, zi 0), (2, zi ((m 74 4) - 1))], [], (zu m 74 12 0)) _ (And.intro (z_b01L rfl) (hT.1 [] 6 (D + 2) 190 _ _ (And.intro (z_b01L rfl) (hT.1 [] 6 (D + 3) 232 _ _ (And.intro (fun _ => (o2 a2 a4)) (fun a6 => (a6 (z_litT rfl)).elim)))))))) (fun a5 => (hT.1 [] 6 (D + 1) 186 (10, [(0, zi p), (1, zi 0), (2, zi ((m 74 4) - 1))], [], (zu m 74 12 0)) _ (And.intro (z_b01L rfl) (hT.1 [] 6 (D + 2) 190 _ _ (And.intro (z_b01L rfl) (hT.1 [] 6 (D + 3) 232 _ _ (And.intro (fun a7 => (z_litF a7 rfl).elim) (fun _ => (hT.1 [] 6 (D + 2) 192 _ _ (hT.1 [] 6 (D + 1) 186 _ _ (And.intro (fun a8 => (And.intro (z_b01L rfl) (hT.1 [] 6 (D + 2) 192 _ _ (And.intro (z_b01L rfl) (hT.1 [] 6 (D + 3) 232 _ _ (And.intro (fun a10 => (z_litF a10 rfl).elim) (fun _ => (o3 a2 a5 a8)))))))) (fun a9 => (And.intro (fun a11 => (hT.1 [] 6 (D + 1) 186 (14, [(0, zi q), (1, zi 0), (2, zi 3)], [], (zu m 74 12 0)) _ (And.intro (z_b01L rfl) (hT.1 [] 6 (D + 2) 192 _ _ (And.intro (z_b01L rfl) (hT.1 [] 6 (D + 3) 232 _ _ (And.intro (fun a13 => (z_litF a13 rfl).elim) (fun _ => (o4 a2 a5 a9 a11))))))))) (fun a12 => (hT.1 [] 6 (D + 1) 186 (10, [(0, zi q), (1, zi 0), (2, zi 3)], [], (zu m 74 12 0)) _ (And.intro (z_b01L rfl) (hT.1 [] 6 (D + 2) 192 _ _ (And.intro (z_b01L rfl) (hT.1 [] 6 (D + 3) 232 _ _ (And.intro (fun _ => (o5 a2 a5 a9 a12)) (fun a14 => (a14 (z_litT rfl)).elim))))))))))))))))))))))))))))
theorem zb232_0 (hT : zRules T) {D : Nat} {κ : Option zA → zM → Prop} {m : zM} {p : Int} {q : Int}  (hB : zB m) (h_p : (-2147483648) ≤ p ∧ p ≤ 2147483647) (h_q : (-2147483648) ≤ q ∧ q ≤ 2147483647) 
    (k1 : p < 0 → zB (zu m 74 12 0) → κ (some (zi (-1))) (zu m 74 12 0))
    (k2 : ¬ p < 0 → ((m 74 4) - 1) < p → zB (zu m 74 12 0) → κ (some (zi (-1))) (zu m 74 12 0))
    (k3 : ¬ p < 0 → ¬ ((m 74 4) - 1) < p → q < 0 → zB (zu m 74 12 0) → κ (some (zi (-1))) (zu m 74 12 0))
    (k4 : ¬ p < 0 → ¬ ((m 74 4) - 1) < p → ¬ q < 0 → 3 < q → zB (zu m 74 12 0) → κ (some (zi (-1))) (zu m 74 12 0))
    (k5 : ¬ p < 0 → ¬ ((m 74 4) - 1) < p → ¬ q < 0 → ¬ 3 < q → zB (zu m 74 12 0) → T (D + 2) 229 (0, [(0, zr 74), (1, zr 75)], [], (zu m 74 12 0)) (fun r m1 => T (D + 3) 232 (30, [(0, zr 74), (1, zi p), (2, zi q)], r.toList ++ [], m1) κ)) :
    T (D + 3) 232 (0, [(0, zr 74), (1, zi p), (2, zi q)], [], m) κ := by
  have hb2 : 0 ≤ (m 74 4) ∧ (m 74 4) ≤ 6 := hB 74 4
  have he0 : wr p = p := wr_id (by omega) (by omega)
  have he1 : wr ((m 74 4) - 1) = ((m 74 4) - 1) := wr_id (by omega) (by omega)
  have he2 : wr q = q := wr_id (by omega) (by omega)
  have key := @zb232_0r T hT D κ m p q
  simp only [he0, he1, he2, Int.toNat_natCast] at key
  exact key
    (fun x0 => k1 x0 (zB_u hB trivial))
    (fun x0 x1 => k2 x0 x1 (zB_u hB trivial))
    (fun x0 x1 x2 => k3 x0 x1 x2 (zB_u hB trivial))
    (fun x0 x1 x2 x3 => k4 x0 x1 x2 x3 (zB_u hB trivial))
    (fun x0 x1 x2 x3 => k5 x0 x1 x2 x3 (zB_u hB trivial))
theorem zb232_30r (hT : zRules T) {D : Nat} {κ : Option zA → zM → Prop} {m : zM} {p : Nat} {q : Int} {lo : zL} (hlo : z_keep [0, 1, 2] lo = [(0, zr 74), (1, zi (p : Int)), (2, zi q)]) 
    (o1 : (0 ≤ wr (p : Int) ∧ wr (p : Int) < 59))
    (o2 : (0 ≤ wr (p : Int) ∧ wr (p : Int) < 59))
    (o3 : κ (some (zi (wr (m 75 ((wr (p : Int)).toNat))))) (zu m 75 ((wr (p : Int)).toNat) q)) :
    T (D + 3) 232 (30, lo, [], m) κ :=
  zkeep hT hlo (hT.1 [] 6 (D + 3) 232 _ κ (And.intro (o1) (hT.1 [] 6 (D + 3) 232 (38, [(0, zr 74), (1, zi (p : Int)), (2, zi q), (3, zi (m 75 ((wr (p : Int)).toNat)))], [zr 74], m) _ (And.intro (And.intro (o2) trivial) (o3)))))
theorem zb232_30 (hT : zRules T) {D : Nat} {κ : Option zA → zM → Prop} {m : zM} {p : Nat} {q : Int} {lo : zL} (hlo : z_keep [0, 1, 2] lo = [(0, zr 74), (1, zi (p : Int)), (2, zi q)])  (hB : zB m) (h_p : p ≤ 5) (h_q : 0 ≤ q ∧ q ≤ 3) 
    (k1 : zB (zu m 75 p q) → κ (some (zi (m 75 p))) (zu m 75 p q)) :
    T (D + 3) 232 (30, lo, [], m) κ := by
  have hb2 : 0 ≤ (m 75 p) ∧ (m 75 p) ≤ 3 := zSg hB 75 0 6 0 3 rfl p (by omega) (by omega)
  have he0 : wr (p : Int) = (p : Int) := wr_id (by omega) (by omega)
  have he1 : (p : Int).toNat = p := by omega
  have he2 : wr (m 75 p) = (m 75 p) := wr_id (by omega) (by omega)
  have key := @zb232_30r T hT D κ m p q lo hlo
  simp only [he0, he1, he2, Int.toNat_natCast] at key
  exact key
    (by refine ⟨?_, ?_⟩ <;> omega)
    (by refine ⟨?_, ?_⟩ <;> omega)
    (k1  (zB_u hB (zbSg 75 0 6 0 3 rfl p q (by omega) (by omega) ⟨by omega, by omega⟩)))
theorem zb125_0r (hT : zRules T) {D : Nat} {κ : Option zA → zM → Prop} {m : zM} {c : Int} {v : Int} 
    (o1 : wr c < 0 → κ (some (zi (-1))) m)
    (o2 : ¬ wr c < 0 → ¬ wr c < wr (m 17 1) → κ (some (zi (-1))) m)
    (o3 : ¬ wr c < 0 → wr c < wr (m 17 1) → wr v < 0 → κ (some (zi (-1))) m)
    (o4 : ¬ wr c < 0 → wr c < wr (m 17 1) → ¬ wr v < 0 → 99 < wr v → κ (some (zi (-1))) m)
    (o5 : ¬ wr c < 0 → wr c < wr (m 17 1) → ¬ wr v < 0 → ¬ 99 < wr v → T (D + 3) 173 (0, [(0, zr 1)], [], m) (fun r m1 => T (D + 4) 125 (24, [(0, zr 1), (1, zi c), (2, zi v)], r.toList ++ [], m1) κ)) :
    T (D + 4) 125 (0, [(0, zr 1), (1, zi c), (2, zi v)], [], m) κ :=
  hT.1 [] 6 (D + 4) 125 _ κ (hT.1 [] 6 (D + 3) 26 _ _ (And.intro (fun a1 => (And.intro (z_b01L rfl) (hT.1 [] 6 (D + 4) 125 _ _ (And.intro (fun _ => (o1 a1)) (fun a3 => (a3 (z_litT rfl)).elim))))) (fun a2 => (And.intro (fun a4 => (hT.1 [] 6 (D + 3) 26 (16, [(0, zr 17), (1, zi c)], [], m) _ (And.intro (z_b01L rfl) (hT.1 [] 6 (D + 4) 125 _ _ (And.intro (fun _ => (o2 a2 a4)) (fun a6 => (a6 (z_litT rfl)).elim)))))) (fun a5 => (hT.1 [] 6 (D + 3) 26 (12, [(0, zr 17), (1, zi c)], [], m) _ (And.intro (z_b01L rfl) (hT.1 [] 6 (D + 4) 125 _ _ (And.intro (fun a7 => (z_litF a7 rfl).elim) (fun _ => (hT.1 [] 6 (D + 3) 165 _ _ (And.intro (fun a8 => (And.intro (z_b01L rfl) (hT.1 [] 6 (D + 4) 125 _ _ (And.intro (fun a10 => (z_litF a10 rfl).elim) (fun _ => (o3 a2 (Classical.byContradiction a5) a8)))))) (fun a9 => (And.intro (fun a11 => (hT.1 [] 6 (D + 3) 165 (15, [(0, zi v)], [zi 0], m) _ (And.intro (z_b01L rfl) (hT.1 [] 6 (D + 4) 125 _ _ (And.intro (fun a13 => (z_litF a13 rfl).elim) (fun _ => (o4 a2 (Classical.byContradiction a5) a9 a11))))))) (fun a12 => (hT.1 [] 6 (D + 3) 165 (11, [(0, zi v)], [zi 1], m) _ (And.intro (z_b01L rfl) (hT.1 [] 6 (D + 4) 125 _ _ (And.intro (fun _ => (o5 a2 (Classical.byContradiction a5) a9 a12)) (fun a14 => (a14 (z_litT rfl)).elim))))))))))))))))))))
theorem zb125_0 (hT : zRules T) {D : Nat} {κ : Option zA → zM → Prop} {m : zM} {c : Int} {v : Int}  (hB : zB m) (h_c : (-2147483648) ≤ c ∧ c ≤ 2147483647) (h_v : (-2147483648) ≤ v ∧ v ≤ 2147483647) 
    (k1 : c < 0 → κ (some (zi (-1))) m)
    (k2 : ¬ c < 0 → ¬ c < (m 17 1) → κ (some (zi (-1))) m)
    (k3 : ¬ c < 0 → c < (m 17 1) → v < 0 → κ (some (zi (-1))) m)
    (k4 : ¬ c < 0 → c < (m 17 1) → ¬ v < 0 → 99 < v → κ (some (zi (-1))) m)
    (k5 : ¬ c < 0 → c < (m 17 1) → ¬ v < 0 → ¬ 99 < v → T (D + 3) 173 (0, [(0, zr 1)], [], m) (fun r m1 => T (D + 4) 125 (24, [(0, zr 1), (1, zi c), (2, zi v)], r.toList ++ [], m1) κ)) :
    T (D + 4) 125 (0, [(0, zr 1), (1, zi c), (2, zi v)], [], m) κ := by
  have hb2 : 0 ≤ (m 17 1) ∧ (m 17 1) ≤ 8 := hB 17 1
  have he0 : wr c = c := wr_id (by omega) (by omega)
  have he1 : wr (m 17 1) = (m 17 1) := wr_id (by omega) (by omega)
  have he2 : wr v = v := wr_id (by omega) (by omega)
  have key := @zb125_0r T hT D κ m c v
  simp only [he0, he1, he2, Int.toNat_natCast] at key
  exact key
    k1
    k2
    k3
    k4
    k5
theorem zb125_24r (hT : zRules T) {D : Nat} {κ : Option zA → zM → Prop} {m : zM} {c : Nat} {v : Int} {lo : zL} (hlo : z_keep [0, 1, 2] lo = [(0, zr 1), (1, zi (c : Int)), (2, zi v)]) 
    (o1 : T (D + 3) 38 (0, [(0, zr 17), (1, zi (c : Int)), (2, zi v)], [], (zu (zu (zu m 17 12 0) 17 13 0) 17 14 0)) (fun r m1 => T (D + 4) 125 (40, [(0, zr 1), (1, zi (c : Int)), (2, zi v)], r.toList ++ [], m1) κ)) :
    T (D + 4) 125 (24, lo, [], m) κ :=
  zkeep hT hlo (hT.1 [] 6 (D + 4) 125 _ κ (hT.1 [] 6 (D + 3) 35 _ _ (And.intro trivial (And.intro trivial (hT.1 [] 6 (D + 3) 35 (10, [(0, zr 17)], [], (zu (zu m 17 12 0) 17 13 0)) _ (And.intro trivial (hT.1 [] 6 (D + 4) 125 _ _ (o1))))))))
theorem zb125_24 (hT : zRules T) {D : Nat} {κ : Option zA → zM → Prop} {m : zM} {c : Nat} {v : Int} {lo : zL} (hlo : z_keep [0, 1, 2] lo = [(0, zr 1), (1, zi (c : Int)), (2, zi v)])  (hB : zB m) (h_c : c ≤ 7) (h_v : 0 ≤ v ∧ v ≤ 99) 
    (k1 : zB (zu (zu (zu m 17 12 0) 17 13 0) 17 14 0) → T (D + 3) 38 (0, [(0, zr 17), (1, zi (c : Int)), (2, zi v)], [], (zu (zu (zu m 17 12 0) 17 13 0) 17 14 0)) (fun r m1 => T (D + 4) 125 (40, [(0, zr 1), (1, zi (c : Int)), (2, zi v)], r.toList ++ [], m1) κ)) :
    T (D + 4) 125 (24, lo, [], m) κ := by
  exact zb125_24r hT hlo
    (k1  (zB_u (zB_u (zB_u hB trivial) trivial) trivial))
theorem zb125_40r (hT : zRules T) {D : Nat} {κ : Option zA → zM → Prop} {m : zM} {lo : zL} (hlo : z_keep [0] lo = [(0, zr 1)]) 
    (o1 : κ (some (zi (wr (wr (wr (wr (((m 17 12) * (m 24 1)) + ((m 17 13) * (m 24 2))))))))) (zu (zu (zu (zu (zu m 72 1 3) 73 0 (m 17 12)) 73 1 (m 17 13)) 73 2 (m 17 14)) 17 10 ((m 17 10) - wr (wr (((m 17 12) * (m 24 1)) + ((m 17 13) * (m 24 2))))))) :
    T (D + 4) 125 (40, lo, [], m) κ :=
  zkeep hT hlo (hT.1 [] 6 (D + 4) 125 _ κ (hT.1 [] 6 (D + 3) 177 _ _ (hT.1 [] 6 (D + 3) 177 (12, [(0, zr 1)], [zr 1, zi (m 17 12), zr 72], m) _ (hT.1 [] 6 (D + 2) 47 _ _ (And.intro trivial (hT.1 [] 6 (D + 2) 47 (10, [(0, zr 72), (1, zi (m 17 12)), (2, zi (m 17 13)), (3, zi (m 17 14))], [zi 0, zr 73], (zu m 72 1 3)) _ (And.intro (And.intro (z_ixL rfl) trivial) (hT.1 [] 6 (D + 2) 47 (18, [(0, zr 72), (1, zi (m 17 12)), (2, zi (m 17 13)), (3, zi (m 17 14))], [zi (m 17 13), zi 1, zr 73], (zu (zu m 72 1 3) 73 0 (m 17 12))) _ (And.intro (And.intro (z_ixL rfl) trivial) (And.intro (And.intro (z_ixL rfl) trivial) (hT.1 [] 6 (D + 2) 47 (26, [(0, zr 72), (1, zi (m 17 12)), (2, zi (m 17 13)), (3, zi (m 17 14))], [], (zu (zu (zu (zu m 72 1 3) 73 0 (m 17 12)) 73 1 (m 17 13)) 73 2 (m 17 14))) _ (hT.1 [] 6 (D + 3) 177 _ _ (hT.1 [] 6 (D + 4) 125 _ _ (hT.1 [] 6 (D + 3) 37 _ _ (hT.1 [] 6 (D + 2) 36 _ _ (hT.1 [] 6 (D + 1) 33 _ _ (And.intro (z_ixL rfl) (hT.1 [] 6 (D + 1) 33 (8, [(0, zr 17), (1, zi (m 17 12)), (2, zi (m 17 13))], [zi ((m 17 12) * (m 24 1))], (zu (zu (zu (zu m 72 1 3) 73 0 (m 17 12)) 73 1 (m 17 13)) 73 2 (m 17 14))) _ (And.intro (z_ixL rfl) (hT.1 [] 6 (D + 1) 33 (16, [(0, zr 17), (1, zi (m 17 12)), (2, zi (m 17 13))], [zi ((m 17 13) * (m 24 2)), zi ((m 17 12) * (m 24 1))], (zu (zu (zu (zu m 72 1 3) 73 0 (m 17 12)) 73 1 (m 17 13)) 73 2 (m 17 14))) _ (hT.1 [] 6 (D + 2) 36 _ _ (hT.1 [] 6 (D + 3) 37 _ _ (And.intro trivial (hT.1 [] 6 (D + 2) 36 _ _ (hT.1 [] 6 (D + 1) 33 _ _ (And.intro (z_ixL rfl) (hT.1 [] 6 (D + 1) 33 (8, [(0, zr 17), (1, zi (m 17 12)), (2, zi (m 17 13))], [zi ((m 17 12) * (m 24 1))], (zu (zu (zu (zu (zu m 72 1 3) 73 0 (m 17 12)) 73 1 (m 17 13)) 73 2 (m 17 14)) 17 10 ((m 17 10) - wr (wr (((m 17 12) * (m 24 1)) + ((m 17 13) * (m 24 2))))))) _ (And.intro (z_ixL rfl) (hT.1 [] 6 (D + 1) 33 (16, [(0, zr 17), (1, zi (m 17 12)), (2, zi (m 17 13))], [zi ((m 17 13) * (m 24 2)), zi ((m 17 12) * (m 24 1))], (zu (zu (zu (zu (zu m 72 1 3) 73 0 (m 17 12)) 73 1 (m 17 13)) 73 2 (m 17 14)) 17 10 ((m 17 10) - wr (wr (((m 17 12) * (m 24 1)) + ((m 17 13) * (m 24 2))))))) _ (hT.1 [] 6 (D + 2) 36 _ _ (hT.1 [] 6 (D + 3) 37 _ _ (hT.1 [] 6 (D + 4) 125 _ _ (o1)))))))))))))))))))))))))))))))))
theorem zb125_40 (hT : zRules T) {D : Nat} {κ : Option zA → zM → Prop} {m : zM} {lo : zL} (hlo : z_keep [0] lo = [(0, zr 1)])  (hB : zB m) 
    (k1 : zB (zu (zu (zu (zu (zu m 72 1 3) 73 0 (m 17 12)) 73 1 (m 17 13)) 73 2 (m 17 14)) 17 10 ((m 17 10) - wr (((m 17 12) * (m 24 1)) + ((m 17 13) * (m 24 2))))) → κ (some (zi (wr (((m 17 12) * (m 24 1)) + ((m 17 13) * (m 24 2)))))) (zu (zu (zu (zu (zu m 72 1 3) 73 0 (m 17 12)) 73 1 (m 17 13)) 73 2 (m 17 14)) 17 10 ((m 17 10) - wr (((m 17 12) * (m 24 1)) + ((m 17 13) * (m 24 2)))))) :
    T (D + 4) 125 (40, lo, [], m) κ := by
  have hb0 : 0 ≤ (m 24 1) ∧ (m 24 1) ≤ 9 := hB 24 1
  have hb1 : 0 ≤ (m 24 2) ∧ (m 24 2) ≤ 9 := hB 24 2
  have hb2 : (-2147483648) ≤ wr (((m 17 12) * (m 24 1)) + ((m 17 13) * (m 24 2))) ∧ wr (((m 17 12) * (m 24 1)) + ((m 17 13) * (m 24 2))) ≤ 2147483647 := wrB (((m 17 12) * (m 24 1)) + ((m 17 13) * (m 24 2)))
  have he0 : wr (wr (((m 17 12) * (m 24 1)) + ((m 17 13) * (m 24 2)))) = wr (((m 17 12) * (m 24 1)) + ((m 17 13) * (m 24 2))) := wr_id (by omega) (by omega)
  have key := @zb125_40r T hT D κ m  lo hlo
  simp only [he0, Int.toNat_natCast] at key
  exact key
    (k1  (zB_u (zB_u (zB_u (zB_u (zB_u hB (show 0 ≤ 3 ∧ 3 ≤ 26 from ⟨by omega, by omega⟩)) trivial) trivial) trivial) trivial))
theorem zb234_0r (hT : zRules T) {D : Nat} {κ : Option zA → zM → Prop} {m : zM} {c : Int} {v : Int} 
    (o1 : wr c < 0 → κ (some (zi (-1))) (zu m 74 12 0))
    (o2 : ¬ wr c < 0 → wr ((m 74 6) - 1) < wr c → κ (some (zi (-1))) (zu m 74 12 0))
    (o3 : ¬ wr c < 0 → ¬ wr ((m 74 6) - 1) < wr c → wr v < 0 → κ (some (zi (-1))) (zu m 74 12 0))
    (o4 : ¬ wr c < 0 → ¬ wr ((m 74 6) - 1) < wr c → ¬ wr v < 0 → 99 < wr v → κ (some (zi (-1))) (zu m 74 12 0))
    (o5 : ¬ wr c < 0 → ¬ wr ((m 74 6) - 1) < wr c → ¬ wr v < 0 → ¬ 99 < wr v → T (D + 2) 229 (0, [(0, zr 74), (1, zr 75)], [], (zu m 74 12 0)) (fun r m1 => T (D + 3) 234 (33, [(0, zr 74), (1, zi c), (2, zi v)], r.toList ++ [], m1) κ)) :
    T (D + 3) 234 (0, [(0, zr 74), (1, zi c), (2, zi v)], [], m) κ :=
  hT.1 [] 6 (D + 3) 234 _ κ (And.intro trivial (hT.1 [] 6 (D + 2) 191 _ _ (hT.1 [] 6 (D + 2) 191 (8, [(0, zr 74), (1, zi c)], [zi ((m 74 6) - 1), zi 0, zi c], (zu m 74 12 0)) _ (hT.1 [] 6 (D + 1) 186 _ _ (And.intro (fun a1 => (And.intro (z_b01L rfl) (hT.1 [] 6 (D + 2) 191 _ _ (And.intro (z_b01L rfl) (hT.1 [] 6 (D + 3) 234 _ _ (And.intro (fun _ => (o1 a1)) (fun a3 => (a3 (z_litT rfl)).elim))))))) (fun a2 => (And.intro (fun a4 => (hT.1 [] 6 (D + 1) 186 (14, [(0, zi c), (1, zi 0), (2, zi ((m 74 6) - 1))], [], (zu m 74 12 0)) _ (And.intro (z_b01L rfl) (hT.1 [] 6 (D + 2) 191 _ _ (And.intro (z_b01L rfl) (hT.1 [] 6 (D + 3) 234 _ _ (And.intro (fun _ => (o2 a2 a4)) (fun a6 => (a6 (z_litT rfl)).elim)))))))) (fun a5 => (hT.1 [] 6 (D + 1) 186 (10, [(0, zi c), (1, zi 0), (2, zi ((m 74 6) - 1))], [], (zu m 74 12 0)) _ (And.intro (z_b01L rfl) (hT.1 [] 6 (D + 2) 191 _ _ (And.intro (z_b01L rfl) (hT.1 [] 6 (D + 3) 234 _ _ (And.intro (fun a7 => (z_litF a7 rfl).elim) (fun _ => (hT.1 [] 6 (D + 2) 186 _ _ (And.intro (fun a8 => (And.intro (z_b01L rfl) (hT.1 [] 6 (D + 3) 234 _ _ (And.intro (fun a10 => (z_litF a10 rfl).elim) (fun _ => (o3 a2 a5 a8)))))) (fun a9 => (And.intro (fun a11 => (hT.1 [] 6 (D + 2) 186 (14, [(0, zi v), (1, zi 0), (2, zi 99)], [], (zu m 74 12 0)) _ (And.intro (z_b01L rfl) (hT.1 [] 6 (D + 3) 234 _ _ (And.intro (fun a13 => (z_litF a13 rfl).elim) (fun _ => (o4 a2 a5 a9 a11))))))) (fun a12 => (hT.1 [] 6 (D + 2) 186 (10, [(0, zi v), (1, zi 0), (2, zi 99)], [], (zu m 74 12 0)) _ (And.intro (z_b01L rfl) (hT.1 [] 6 (D + 3) 234 _ _ (And.intro (fun _ => (o5 a2 a5 a9 a12)) (fun a14 => (a14 (z_litT rfl)).elim)))))))))))))))))))))))))
theorem zb234_0 (hT : zRules T) {D : Nat} {κ : Option zA → zM → Prop} {m : zM} {c : Int} {v : Int}  (hB : zB m) (h_c : (-2147483648) ≤ c ∧ c ≤ 2147483647) (h_v : (-2147483648) ≤ v ∧ v ≤ 2147483647) 
    (k1 : c < 0 → zB (zu m 74 12 0) → κ (some (zi (-1))) (zu m 74 12 0))
    (k2 : ¬ c < 0 → ((m 74 6) - 1) < c → zB (zu m 74 12 0) → κ (some (zi (-1))) (zu m 74 12 0))
    (k3 : ¬ c < 0 → ¬ ((m 74 6) - 1) < c → v < 0 → zB (zu m 74 12 0) → κ (some (zi (-1))) (zu m 74 12 0))
    (k4 : ¬ c < 0 → ¬ ((m 74 6) - 1) < c → ¬ v < 0 → 99 < v → zB (zu m 74 12 0) → κ (some (zi (-1))) (zu m 74 12 0))
    (k5 : ¬ c < 0 → ¬ ((m 74 6) - 1) < c → ¬ v < 0 → ¬ 99 < v → zB (zu m 74 12 0) → T (D + 2) 229 (0, [(0, zr 74), (1, zr 75)], [], (zu m 74 12 0)) (fun r m1 => T (D + 3) 234 (33, [(0, zr 74), (1, zi c), (2, zi v)], r.toList ++ [], m1) κ)) :
    T (D + 3) 234 (0, [(0, zr 74), (1, zi c), (2, zi v)], [], m) κ := by
  have hb2 : 0 ≤ (m 74 6) ∧ (m 74 6) ≤ 8 := hB 74 6
  have he0 : wr c = c := wr_id (by omega) (by omega)
  have he1 : wr ((m 74 6) - 1) = ((m 74 6) - 1) := wr_id (by omega) (by omega)
  have he2 : wr v = v := wr_id (by omega) (by omega)
  have key := @zb234_0r T hT D κ m c v
  simp only [he0, he1, he2, Int.toNat_natCast] at key
  exact key
    (fun x0 => k1 x0 (zB_u hB trivial))
    (fun x0 x1 => k2 x0 x1 (zB_u hB trivial))
    (fun x0 x1 x2 => k3 x0 x1 x2 (zB_u hB trivial))
    (fun x0 x1 x2 x3 => k4 x0 x1 x2 x3 (zB_u hB trivial))
    (fun x0 x1 x2 x3 => k5 x0 x1 x2 x3 (zB_u hB trivial))
theorem zb234_33r (hT : zRules T) {D : Nat} {κ : Option zA → zM → Prop} {m : zM} {c : Nat} {v : Int} {lo : zL} (hlo : z_keep [0, 1, 2] lo = [(0, zr 74), (1, zi (c : Int)), (2, zi v)]) 
    (o1 : T (D + 2) 226 (0, [(0, zr 74), (1, zr 75), (2, zi (c : Int)), (3, zi v)], [], (zu (zu (zu m 74 31 0) 74 32 0) 74 33 0)) (fun r m1 => T (D + 3) 234 (47, [(0, zr 74), (1, zi (c : Int)), (2, zi v)], r.toList ++ [], m1) κ)) :
    T (D + 3) 234 (33, lo, [], m) κ :=
  zkeep hT hlo (hT.1 [] 6 (D + 3) 234 _ κ (hT.1 [] 6 (D + 2) 224 _ _ (And.intro trivial (And.intro trivial (hT.1 [] 6 (D + 2) 224 (10, [(0, zr 74)], [], (zu (zu m 74 31 0) 74 32 0)) _ (And.intro trivial (hT.1 [] 6 (D + 3) 234 _ _ (o1))))))))
theorem zb234_33 (hT : zRules T) {D : Nat} {κ : Option zA → zM → Prop} {m : zM} {c : Nat} {v : Int} {lo : zL} (hlo : z_keep [0, 1, 2] lo = [(0, zr 74), (1, zi (c : Int)), (2, zi v)])  (hB : zB m) (h_c : c ≤ 7) (h_v : 0 ≤ v ∧ v ≤ 99) 
    (k1 : zB (zu (zu (zu m 74 31 0) 74 32 0) 74 33 0) → T (D + 2) 226 (0, [(0, zr 74), (1, zr 75), (2, zi (c : Int)), (3, zi v)], [], (zu (zu (zu m 74 31 0) 74 32 0) 74 33 0)) (fun r m1 => T (D + 3) 234 (47, [(0, zr 74), (1, zi (c : Int)), (2, zi v)], r.toList ++ [], m1) κ)) :
    T (D + 3) 234 (33, lo, [], m) κ := by
  exact zb234_33r hT hlo
    (k1  (zB_u (zB_u (zB_u hB trivial) trivial) trivial))
theorem zb234_47r (hT : zRules T) {D : Nat} {κ : Option zA → zM → Prop} {m : zM} {lo : zL} (hlo : z_keep [0] lo = [(0, zr 74)]) 
    (o1 : κ (some (zi (wr (wr (((m 79 1) * (m 74 31)) + ((m 79 2) * (m 74 32))))))) (zu (zu (zu (zu (zu (zu (zu (zu m 75 58 ((m 75 58) - wr (((m 79 1) * (m 74 31)) + ((m 79 2) * (m 74 32))))) 74 11 0) 81 0 (m 74 31)) 74 11 1) 81 1 (m 74 32)) 74 11 2) 81 2 (m 74 33)) 74 11 3)) :
    T (D + 3) 234 (47, lo, [], m) κ :=
  zkeep hT hlo (hT.1 [] 6 (D + 3) 234 _ κ (And.intro (z_ixL rfl) (hT.1 [] 6 (D + 3) 234 (56, [(0, zr 74)], [zr 74, zi (m 75 58), zi 58, zr 75], m) _ (hT.1 [] 6 (D + 2) 225 _ _ (And.intro (z_ixL rfl) (hT.1 [] 6 (D + 2) 225 (10, [(0, zr 74)], [zi (m 74 31), zi (m 79 1)], m) _ (And.intro (z_ixL rfl) (hT.1 [] 6 (D + 2) 225 (18, [(0, zr 74)], [zr 74, zi (m 79 2), zi ((m 79 1) * (m 74 31))], m) _ (hT.1 [] 6 (D + 3) 234 _ _ (And.intro (And.intro (z_ixL rfl) trivial) (hT.1 [] 6 (D + 2) 233 _ _ (And.intro trivial (hT.1 [] 6 (D + 2) 233 (10, [(0, zr 74)], [zi (m 74 31), zr 74], (zu (zu m 75 58 ((m 75 58) - wr (((m 79 1) * (m 74 31)) + ((m 79 2) * (m 74 32))))) 74 11 0)) _ (hT.1 [] 6 (D + 1) 189 _ _ (And.intro (And.intro (z_ixL rfl) trivial) (hT.1 [] 6 (D + 1) 189 (10, [(0, zr 74), (1, zi (m 74 31))], [], (zu (zu (zu m 75 58 ((m 75 58) - wr (((m 79 1) * (m 74 31)) + ((m 79 2) * (m 74 32))))) 74 11 0) 81 0 (m 74 31))) _ (And.intro trivial (hT.1 [] 6 (D + 1) 189 (20, [(0, zr 74), (1, zi (m 74 31))], [], (zu (zu (zu (zu m 75 58 ((m 75 58) - wr (((m 79 1) * (m 74 31)) + ((m 79 2) * (m 74 32))))) 74 11 0) 81 0 (m 74 31)) 74 11 1)) _ (hT.1 [] 6 (D + 2) 233 _ _ (hT.1 [] 6 (D + 1) 189 _ _ (And.intro (And.intro (z_ixL rfl) trivial) (hT.1 [] 6 (D + 1) 189 (10, [(0, zr 74), (1, zi (m 74 32))], [], (zu (zu (zu (zu (zu m 75 58 ((m 75 58) - wr (((m 79 1) * (m 74 31)) + ((m 79 2) * (m 74 32))))) 74 11 0) 81 0 (m 74 31)) 74 11 1) 81 1 (m 74 32))) _ (And.intro trivial (hT.1 [] 6 (D + 1) 189 (20, [(0, zr 74), (1, zi (m 74 32))], [], (zu (zu (zu (zu (zu (zu m 75 58 ((m 75 58) - wr (((m 79 1) * (m 74 31)) + ((m 79 2) * (m 74 32))))) 74 11 0) 81 0 (m 74 31)) 74 11 1) 81 1 (m 74 32)) 74 11 2)) _ (hT.1 [] 6 (D + 2) 233 _ _ (hT.1 [] 6 (D + 1) 189 _ _ (And.intro (And.intro (z_ixL rfl) trivial) (hT.1 [] 6 (D + 1) 189 (10, [(0, zr 74), (1, zi (m 74 33))], [], (zu (zu (zu (zu (zu (zu (zu m 75 58 ((m 75 58) - wr (((m 79 1) * (m 74 31)) + ((m 79 2) * (m 74 32))))) 74 11 0) 81 0 (m 74 31)) 74 11 1) 81 1 (m 74 32)) 74 11 2) 81 2 (m 74 33))) _ (And.intro trivial (hT.1 [] 6 (D + 1) 189 (20, [(0, zr 74), (1, zi (m 74 33))], [], (zu (zu (zu (zu (zu (zu (zu (zu m 75 58 ((m 75 58) - wr (((m 79 1) * (m 74 31)) + ((m 79 2) * (m 74 32))))) 74 11 0) 81 0 (m 74 31)) 74 11 1) 81 1 (m 74 32)) 74 11 2) 81 2 (m 74 33)) 74 11 3)) _ (hT.1 [] 6 (D + 2) 233 _ _ (hT.1 [] 6 (D + 3) 234 _ _ (hT.1 [] 6 (D + 2) 225 _ _ (And.intro (z_ixL rfl) (hT.1 [] 6 (D + 2) 225 (10, [(0, zr 74)], [zi (m 74 31), zi (m 79 1)], (zu (zu (zu (zu (zu (zu (zu (zu m 75 58 ((m 75 58) - wr (((m 79 1) * (m 74 31)) + ((m 79 2) * (m 74 32))))) 74 11 0) 81 0 (m 74 31)) 74 11 1) 81 1 (m 74 32)) 74 11 2) 81 2 (m 74 33)) 74 11 3)) _ (And.intro (z_ixL rfl) (hT.1 [] 6 (D + 2) 225 (18, [(0, zr 74)], [zr 74, zi (m 79 2), zi ((m 79 1) * (m 74 31))], (zu (zu (zu (zu (zu (zu (zu (zu m 75 58 ((m 75 58) - wr (((m 79 1) * (m 74 31)) + ((m 79 2) * (m 74 32))))) 74 11 0) 81 0 (m 74 31)) 74 11 1) 81 1 (m 74 32)) 74 11 2) 81 2 (m 74 33)) 74 11 3)) _ (hT.1 [] 6 (D + 3) 234 _ _ (o1)))))))))))))))))))))))))))))))))))))))
theorem zb234_47 (hT : zRules T) {D : Nat} {κ : Option zA → zM → Prop} {m : zM} {lo : zL} (hlo : z_keep [0] lo = [(0, zr 74)])  (hB : zB m) 
    (k1 : zB (zu (zu (zu (zu (zu (zu (zu (zu m 75 58 ((m 75 58) - wr (((m 79 1) * (m 74 31)) + ((m 79 2) * (m 74 32))))) 74 11 0) 81 0 (m 74 31)) 74 11 1) 81 1 (m 74 32)) 74 11 2) 81 2 (m 74 33)) 74 11 3) → κ (some (zi (wr (((m 79 1) * (m 74 31)) + ((m 79 2) * (m 74 32)))))) (zu (zu (zu (zu (zu (zu (zu (zu m 75 58 ((m 75 58) - wr (((m 79 1) * (m 74 31)) + ((m 79 2) * (m 74 32))))) 74 11 0) 81 0 (m 74 31)) 74 11 1) 81 1 (m 74 32)) 74 11 2) 81 2 (m 74 33)) 74 11 3)) :
    T (D + 3) 234 (47, lo, [], m) κ := by
  have hb0 : 0 ≤ (m 79 1) ∧ (m 79 1) ≤ 9 := hB 79 1
  have hb1 : 0 ≤ (m 79 2) ∧ (m 79 2) ≤ 9 := hB 79 2
  have hb2 : (-2147483648) ≤ wr (((m 79 1) * (m 74 31)) + ((m 79 2) * (m 74 32))) ∧ wr (((m 79 1) * (m 74 31)) + ((m 79 2) * (m 74 32))) ≤ 2147483647 := wrB (((m 79 1) * (m 74 31)) + ((m 79 2) * (m 74 32)))
  have he0 : wr (wr (((m 79 1) * (m 74 31)) + ((m 79 2) * (m 74 32)))) = wr (((m 79 1) * (m 74 31)) + ((m 79 2) * (m 74 32))) := wr_id (by omega) (by omega)
  have key := @zb234_47r T hT D κ m  lo hlo
  simp only [he0, Int.toNat_natCast] at key
  exact key
    (k1  (zB_u (zB_u (zB_u (zB_u (zB_u (zB_u (zB_u (zB_u hB trivial) (show 0 ≤ 0 ∧ 0 ≤ 32 from ⟨by omega, by omega⟩)) trivial) (show 0 ≤ 1 ∧ 1 ≤ 32 from ⟨by omega, by omega⟩)) trivial) (show 0 ≤ 2 ∧ 2 ≤ 32 from ⟨by omega, by omega⟩)) trivial) (show 0 ≤ 3 ∧ 3 ≤ 32 from ⟨by omega, by omega⟩)))
theorem zb174_0r (hT : zRules T) {D : Nat} {κ : Option zA → zM → Prop} {m : zM} {n : Nat} 
    (o1 : T (D + 5) 16 (0, [(0, zr 28), (1, zr 17)], [], m) (fun r m1 => T (D + 6) 174 (11, [(0, zr 1), (1, zi (n : Int))], r.toList ++ [], m1) κ)) :
    T (D + 6) 174 (0, [(0, zr 1), (1, zi (n : Int))], [], m) κ :=
  hT.1 [] 6 (D + 6) 174 _ κ (o1)
theorem zb174_0 (hT : zRules T) {D : Nat} {κ : Option zA → zM → Prop} {m : zM} {n : Nat}  (hB : zB m) (h_n : n ≤ 60) 
    (k1 : T (D + 5) 16 (0, [(0, zr 28), (1, zr 17)], [], m) (fun r m1 => T (D + 6) 174 (11, [(0, zr 1), (1, zi (n : Int))], r.toList ++ [], m1) κ)) :
    T (D + 6) 174 (0, [(0, zr 1), (1, zi (n : Int))], [], m) κ := by
  exact zb174_0r hT
    k1
theorem zb174_11r (hT : zRules T) {D : Nat} {κ : Option zA → zM → Prop} {m : zM} {n : Nat} {lo : zL} (hlo : z_keep [0, 1] lo = [(0, zr 1), (1, zi (n : Int))]) 
    (o1 : ¬ 0 < wr (n : Int) → T (D + 5) 175 (0, [(0, zr 1), (1, zi (n : Int))], [], (zu (zu (zu m 17 12 0) 17 13 0) 17 14 0)) (fun r m1 => T (D + 6) 174 (34, [(0, zr 1), (1, zi (n : Int))], r.toList ++ [], m1) κ))
    (o2 : 0 < wr (n : Int) → ¬ wr (m 28 5) < 12 → T (D + 5) 175 (0, [(0, zr 1), (1, zi (n : Int))], [], (zu (zu (zu (zu m 28 4 (Int.tmod (wr ((m 28 4) + 1)) 13)) 17 12 0) 17 13 0) 17 14 0)) (fun r m1 => T (D + 6) 174 (34, [(0, zr 1), (1, zi (n : Int))], r.toList ++ [], m1) κ))
    (o3 : 0 < wr (n : Int) → wr (m 28 5) < 12 → T (D + 5) 175 (0, [(0, zr 1), (1, zi (n : Int))], [], (zu (zu (zu (zu m 28 5 ((m 28 5) + 1)) 17 12 0) 17 13 0) 17 14 0)) (fun r m1 => T (D + 6) 174 (34, [(0, zr 1), (1, zi (n : Int))], r.toList ++ [], m1) κ)) :
    T (D + 6) 174 (11, lo, [], m) κ :=
  zkeep hT hlo (hT.1 [] 6 (D + 6) 174 _ κ (And.intro (fun a1 => (hT.1 [] 6 (D + 5) 35 _ _ (And.intro trivial (And.intro trivial (hT.1 [] 6 (D + 5) 35 (10, [(0, zr 17)], [], (zu (zu m 17 12 0) 17 13 0)) _ (And.intro trivial (hT.1 [] 6 (D + 6) 174 _ _ (o1 a1)))))))) (fun a2 => (hT.1 [] 6 (D + 5) 17 _ _ (And.intro (fun a3 => (hT.1 [] 6 (D + 5) 17 (24, [(0, zr 28)], [zr 28, zr 28], m) _ (And.intro (z_neL rfl) (And.intro trivial (hT.1 [] 6 (D + 5) 17 (35, [(0, zr 28)], [], (zu m 28 4 (Int.tmod (wr ((m 28 4) + 1)) 13))) _ (hT.1 [] 6 (D + 6) 174 _ _ (hT.1 [] 6 (D + 5) 35 _ _ (And.intro trivial (And.intro trivial (hT.1 [] 6 (D + 5) 35 (10, [(0, zr 17)], [], (zu (zu (zu m 28 4 (Int.tmod (wr ((m 28 4) + 1)) 13)) 17 12 0) 17 13 0)) _ (And.intro trivial (hT.1 [] 6 (D + 6) 174 _ _ (o2 (Classical.byContradiction a2) a3))))))))))))) (fun a4 => (hT.1 [] 6 (D + 5) 17 (11, [(0, zr 28)], [zr 28, zr 28], m) _ (And.intro trivial (hT.1 [] 6 (D + 6) 174 _ _ (hT.1 [] 6 (D + 5) 35 _ _ (And.intro trivial (And.intro trivial (hT.1 [] 6 (D + 5) 35 (10, [(0, zr 17)], [], (zu (zu (zu m 28 5 ((m 28 5) + 1)) 17 12 0) 17 13 0)) _ (And.intro trivial (hT.1 [] 6 (D + 6) 174 _ _ (o3 (Classical.byContradiction a2) (Classical.byContradiction a4)))))))))))))))))
theorem zb174_11 (hT : zRules T) {D : Nat} {κ : Option zA → zM → Prop} {m : zM} {n : Nat} {lo : zL} (hlo : z_keep [0, 1] lo = [(0, zr 1), (1, zi (n : Int))])  (hB : zB m) (h_n : n ≤ 60) 
    (k1 : ¬ 0 < (n : Int) → zB (zu (zu (zu m 17 12 0) 17 13 0) 17 14 0) → T (D + 5) 175 (0, [(0, zr 1), (1, zi (n : Int))], [], (zu (zu (zu m 17 12 0) 17 13 0) 17 14 0)) (fun r m1 => T (D + 6) 174 (34, [(0, zr 1), (1, zi (n : Int))], r.toList ++ [], m1) κ))
    (k2 : 0 < (n : Int) → ¬ (m 28 5) < 12 → zB (zu (zu (zu (zu m 28 4 (Int.tmod ((m 28 4) + 1) 13)) 17 12 0) 17 13 0) 17 14 0) → T (D + 5) 175 (0, [(0, zr 1), (1, zi (n : Int))], [], (zu (zu (zu (zu m 28 4 (Int.tmod ((m 28 4) + 1) 13)) 17 12 0) 17 13 0) 17 14 0)) (fun r m1 => T (D + 6) 174 (34, [(0, zr 1), (1, zi (n : Int))], r.toList ++ [], m1) κ))
    (k3 : 0 < (n : Int) → (m 28 5) < 12 → zB (zu (zu (zu (zu m 28 5 ((m 28 5) + 1)) 17 12 0) 17 13 0) 17 14 0) → T (D + 5) 175 (0, [(0, zr 1), (1, zi (n : Int))], [], (zu (zu (zu (zu m 28 5 ((m 28 5) + 1)) 17 12 0) 17 13 0) 17 14 0)) (fun r m1 => T (D + 6) 174 (34, [(0, zr 1), (1, zi (n : Int))], r.toList ++ [], m1) κ)) :
    T (D + 6) 174 (11, lo, [], m) κ := by
  have hb1 : 0 ≤ (m 28 5) ∧ (m 28 5) ≤ 12 := hB 28 5
  have hb2 : 0 ≤ (m 28 4) ∧ (m 28 4) ≤ 12 := hB 28 4
  have hb3 : 0 ≤ (Int.tmod ((m 28 4) + 1) 13) ∧ (Int.tmod ((m 28 4) + 1) 13) ≤ 12 := z_tmodB ((m 28 4) + 1) 13 12 (by omega) (by omega) (by omega)
  have he0 : wr (n : Int) = (n : Int) := wr_id (by omega) (by omega)
  have he1 : wr (m 28 5) = (m 28 5) := wr_id (by omega) (by omega)
  have he2 : wr ((m 28 4) + 1) = ((m 28 4) + 1) := wr_id (by omega) (by omega)
  have key := @zb174_11r T hT D κ m n lo hlo
  simp only [he0, he1, he2, Int.toNat_natCast] at key
  exact key
    (fun x0 => k1 x0 (zB_u (zB_u (zB_u hB trivial) trivial) trivial))
    (fun x0 x1 => k2 x0 x1 (zB_u (zB_u (zB_u (zB_u hB (show 0 ≤ (Int.tmod ((m 28 4) + 1) 13) ∧ (Int.tmod ((m 28 4) + 1) 13) ≤ 12 from ⟨by omega, by omega⟩)) trivial) trivial) trivial))
    (fun x0 x1 => k3 x0 x1 (zB_u (zB_u (zB_u (zB_u hB (show 0 ≤ ((m 28 5) + 1) ∧ ((m 28 5) + 1) ≤ 12 from ⟨by omega, by omega⟩)) trivial) trivial) trivial))
theorem zb174_34r (hT : zRules T) {D : Nat} {κ : Option zA → zM → Prop} {m : zM} {lo : zL} (hlo : z_keep [0] lo = [(0, zr 1)]) 
    (o1 : κ (some (zi (wr (wr (wr (wr (((m 17 12) * (m 24 1)) + ((m 17 13) * (m 24 2))))))))) (zu (zu (zu (zu (zu m 72 1 3) 73 0 (m 17 12)) 73 1 (m 17 13)) 73 2 (m 17 14)) 17 10 ((m 17 10) - wr (wr (((m 17 12) * (m 24 1)) + ((m 17 13) * (m 24 2))))))) :
    T (D + 6) 174 (34, lo, [], m) κ :=
  zkeep hT hlo (hT.1 [] 6 (D + 6) 174 _ κ (hT.1 [] 6 (D + 5) 177 _ _ (hT.1 [] 6 (D + 5) 177 (12, [(0, zr 1)], [zr 1, zi (m 17 12), zr 72], m) _ (hT.1 [] 6 (D + 4) 47 _ _ (And.intro trivial (hT.1 [] 6 (D + 4) 47 (10, [(0, zr 72), (1, zi (m 17 12)), (2, zi (m 17 13)), (3, zi (m 17 14))], [zi 0, zr 73], (zu m 72 1 3)) _ (And.intro (And.intro (z_ixL rfl) trivial) (hT.1 [] 6 (D + 4) 47 (18, [(0, zr 72), (1, zi (m 17 12)), (2, zi (m 17 13)), (3, zi (m 17 14))], [zi (m 17 13), zi 1, zr 73], (zu (zu m 72 1 3) 73 0 (m 17 12))) _ (And.intro (And.intro (z_ixL rfl) trivial) (And.intro (And.intro (z_ixL rfl) trivial) (hT.1 [] 6 (D + 4) 47 (26, [(0, zr 72), (1, zi (m 17 12)), (2, zi (m 17 13)), (3, zi (m 17 14))], [], (zu (zu (zu (zu m 72 1 3) 73 0 (m 17 12)) 73 1 (m 17 13)) 73 2 (m 17 14))) _ (hT.1 [] 6 (D + 5) 177 _ _ (hT.1 [] 6 (D + 6) 174 _ _ (hT.1 [] 6 (D + 5) 37 _ _ (hT.1 [] 6 (D + 4) 36 _ _ (hT.1 [] 6 (D + 3) 33 _ _ (And.intro (z_ixL rfl) (hT.1 [] 6 (D + 3) 33 (8, [(0, zr 17), (1, zi (m 17 12)), (2, zi (m 17 13))], [zi ((m 17 12) * (m 24 1))], (zu (zu (zu (zu m 72 1 3) 73 0 (m 17 12)) 73 1 (m 17 13)) 73 2 (m 17 14))) _ (And.intro (z_ixL rfl) (hT.1 [] 6 (D + 3) 33 (16, [(0, zr 17), (1, zi (m 17 12)), (2, zi (m 17 13))], [zi ((m 17 13) * (m 24 2)), zi ((m 17 12) * (m 24 1))], (zu (zu (zu (zu m 72 1 3) 73 0 (m 17 12)) 73 1 (m 17 13)) 73 2 (m 17 14))) _ (hT.1 [] 6 (D + 4) 36 _ _ (hT.1 [] 6 (D + 5) 37 _ _ (And.intro trivial (hT.1 [] 6 (D + 4) 36 _ _ (hT.1 [] 6 (D + 3) 33 _ _ (And.intro (z_ixL rfl) (hT.1 [] 6 (D + 3) 33 (8, [(0, zr 17), (1, zi (m 17 12)), (2, zi (m 17 13))], [zi ((m 17 12) * (m 24 1))], (zu (zu (zu (zu (zu m 72 1 3) 73 0 (m 17 12)) 73 1 (m 17 13)) 73 2 (m 17 14)) 17 10 ((m 17 10) - wr (wr (((m 17 12) * (m 24 1)) + ((m 17 13) * (m 24 2))))))) _ (And.intro (z_ixL rfl) (hT.1 [] 6 (D + 3) 33 (16, [(0, zr 17), (1, zi (m 17 12)), (2, zi (m 17 13))], [zi ((m 17 13) * (m 24 2)), zi ((m 17 12) * (m 24 1))], (zu (zu (zu (zu (zu m 72 1 3) 73 0 (m 17 12)) 73 1 (m 17 13)) 73 2 (m 17 14)) 17 10 ((m 17 10) - wr (wr (((m 17 12) * (m 24 1)) + ((m 17 13) * (m 24 2))))))) _ (hT.1 [] 6 (D + 4) 36 _ _ (hT.1 [] 6 (D + 5) 37 _ _ (hT.1 [] 6 (D + 6) 174 _ _ (o1)))))))))))))))))))))))))))))))))
theorem zb174_34 (hT : zRules T) {D : Nat} {κ : Option zA → zM → Prop} {m : zM} {lo : zL} (hlo : z_keep [0] lo = [(0, zr 1)])  (hB : zB m) 
    (k1 : zB (zu (zu (zu (zu (zu m 72 1 3) 73 0 (m 17 12)) 73 1 (m 17 13)) 73 2 (m 17 14)) 17 10 ((m 17 10) - wr (((m 17 12) * (m 24 1)) + ((m 17 13) * (m 24 2))))) → κ (some (zi (wr (((m 17 12) * (m 24 1)) + ((m 17 13) * (m 24 2)))))) (zu (zu (zu (zu (zu m 72 1 3) 73 0 (m 17 12)) 73 1 (m 17 13)) 73 2 (m 17 14)) 17 10 ((m 17 10) - wr (((m 17 12) * (m 24 1)) + ((m 17 13) * (m 24 2)))))) :
    T (D + 6) 174 (34, lo, [], m) κ := by
  have hb0 : 0 ≤ (m 24 1) ∧ (m 24 1) ≤ 9 := hB 24 1
  have hb1 : 0 ≤ (m 24 2) ∧ (m 24 2) ≤ 9 := hB 24 2
  have hb2 : (-2147483648) ≤ wr (((m 17 12) * (m 24 1)) + ((m 17 13) * (m 24 2))) ∧ wr (((m 17 12) * (m 24 1)) + ((m 17 13) * (m 24 2))) ≤ 2147483647 := wrB (((m 17 12) * (m 24 1)) + ((m 17 13) * (m 24 2)))
  have he0 : wr (wr (((m 17 12) * (m 24 1)) + ((m 17 13) * (m 24 2)))) = wr (((m 17 12) * (m 24 1)) + ((m 17 13) * (m 24 2))) := wr_id (by omega) (by omega)
  have key := @zb174_34r T hT D κ m  lo hlo
  simp only [he0, Int.toNat_natCast] at key
  exact key
    (k1  (zB_u (zB_u (zB_u (zB_u (zB_u hB (show 0 ≤ 3 ∧ 3 ≤ 26 from ⟨by omega, by omega⟩)) trivial) trivial) trivial) trivial))
theorem zb126_0r (hT : zRules T) {D : Nat} {κ : Option zA → zM → Prop} {m : zM} 
    (o1 : T (D + 6) 174 (0, [(0, zr 1), (1, zi 1)], [], m) (fun r m1 => T (D + 7) 126 (5, [(0, zr 1)], r.toList ++ [], m1) κ)) :
    T (D + 7) 126 (0, [(0, zr 1)], [], m) κ :=
  hT.1 [] 6 (D + 7) 126 _ κ (o1)
theorem zb126_0 (hT : zRules T) {D : Nat} {κ : Option zA → zM → Prop} {m : zM}  (hB : zB m) 
    (k1 : T (D + 6) 174 (0, [(0, zr 1), (1, zi 1)], [], m) (fun r m1 => T (D + 7) 126 (5, [(0, zr 1)], r.toList ++ [], m1) κ)) :
    T (D + 7) 126 (0, [(0, zr 1)], [], m) κ := by
  exact zb126_0r hT
    k1
theorem zb126_5r (hT : zRules T) {D : Nat} {κ : Option zA → zM → Prop} {m : zM} {v : Int} {lo : zL} (hlo : z_keep [] lo = []) 
    (o1 : κ (some (zi (wr v))) m) :
    T (D + 7) 126 (5, lo, [zi v], m) κ :=
  zkeep hT hlo (hT.1 [] 6 (D + 7) 126 _ κ (o1))
theorem zb126_5 (hT : zRules T) {D : Nat} {κ : Option zA → zM → Prop} {m : zM} {v : Int} {lo : zL} (hlo : z_keep [] lo = [])  
    (k1 : κ (some (zi (wr v))) m) :
    T (D + 7) 126 (5, lo, [zi v], m) κ := by
  have hb0 : (-2147483648) ≤ wr v ∧ wr v ≤ 2147483647 := wrB v
  exact zb126_5r hT hlo
    k1
theorem zb127_0r (hT : zRules T) {D : Nat} {κ : Option zA → zM → Prop} {m : zM} {n : Int} 
    (o1 : wr n < 0 → κ (some (zi (-1))) m)
    (o2 : ¬ wr n < 0 → ¬ 60 < wr n → T (D + 6) 174 (0, [(0, zr 1), (1, zi n)], [], m) (fun r m1 => T (D + 7) 127 (19, [(0, zr 1), (1, zi n)], r.toList ++ [], m1) κ))
    (o3 : ¬ wr n < 0 → 60 < wr n → κ (some (zi (-1))) m) :
    T (D + 7) 127 (0, [(0, zr 1), (1, zi n)], [], m) κ :=
  hT.1 [] 6 (D + 7) 127 _ κ (And.intro (fun a1 => (o1 a1)) (fun a2 => (And.intro (fun a3 => (hT.1 [] 6 (D + 7) 127 (15, [(0, zr 1), (1, zi n)], [zr 1], m) _ (o2 a2 a3))) (fun a4 => (hT.1 [] 6 (D + 7) 127 (11, [(0, zr 1), (1, zi n)], [zi (-1)], m) _ (o3 a2 (Classical.byContradiction a4)))))))
theorem zb127_0 (hT : zRules T) {D : Nat} {κ : Option zA → zM → Prop} {m : zM} {n : Int}  (hB : zB m) (h_n : (-2147483648) ≤ n ∧ n ≤ 2147483647) 
    (k1 : n < 0 → κ (some (zi (-1))) m)
    (k2 : ¬ n < 0 → ¬ 60 < n → T (D + 6) 174 (0, [(0, zr 1), (1, zi n)], [], m) (fun r m1 => T (D + 7) 127 (19, [(0, zr 1), (1, zi n)], r.toList ++ [], m1) κ))
    (k3 : ¬ n < 0 → 60 < n → κ (some (zi (-1))) m) :
    T (D + 7) 127 (0, [(0, zr 1), (1, zi n)], [], m) κ := by
  have he0 : wr n = n := wr_id (by omega) (by omega)
  have key := @zb127_0r T hT D κ m n
  simp only [he0, Int.toNat_natCast] at key
  exact key
    k1
    k2
    k3
theorem zb127_19r (hT : zRules T) {D : Nat} {κ : Option zA → zM → Prop} {m : zM} {v : Int} {lo : zL} (hlo : z_keep [] lo = []) 
    (o1 : κ (some (zi (wr v))) m) :
    T (D + 7) 127 (19, lo, [zi v], m) κ :=
  zkeep hT hlo (hT.1 [] 6 (D + 7) 127 _ κ (o1))
theorem zb127_19 (hT : zRules T) {D : Nat} {κ : Option zA → zM → Prop} {m : zM} {v : Int} {lo : zL} (hlo : z_keep [] lo = [])  
    (k1 : κ (some (zi (wr v))) m) :
    T (D + 7) 127 (19, lo, [zi v], m) κ := by
  have hb0 : (-2147483648) ≤ wr v ∧ wr v ≤ 2147483647 := wrB v
  exact zb127_19r hT hlo
    k1
theorem zb236_0r (hT : zRules T) {D : Nat} {κ : Option zA → zM → Prop} {m : zM} 
    (o1 : T (D + 1) 237 (0, [(0, zr 74), (1, zi 1)], [], m) (fun r m1 => T (D + 2) 236 (5, [(0, zr 74)], r.toList ++ [], m1) κ)) :
    T (D + 2) 236 (0, [(0, zr 74)], [], m) κ :=
  hT.1 [] 6 (D + 2) 236 _ κ (o1)
theorem zb236_0 (hT : zRules T) {D : Nat} {κ : Option zA → zM → Prop} {m : zM}  (hB : zB m) 
    (k1 : T (D + 1) 237 (0, [(0, zr 74), (1, zi 1)], [], m) (fun r m1 => T (D + 2) 236 (5, [(0, zr 74)], r.toList ++ [], m1) κ)) :
    T (D + 2) 236 (0, [(0, zr 74)], [], m) κ := by
  exact zb236_0r hT
    k1
theorem zb236_5r (hT : zRules T) {D : Nat} {κ : Option zA → zM → Prop} {m : zM} {v : Int} {lo : zL} (hlo : z_keep [] lo = []) 
    (o1 : κ (some (zi (wr v))) m) :
    T (D + 2) 236 (5, lo, [zi v], m) κ :=
  zkeep hT hlo (hT.1 [] 6 (D + 2) 236 _ κ (o1))
theorem zb236_5 (hT : zRules T) {D : Nat} {κ : Option zA → zM → Prop} {m : zM} {v : Int} {lo : zL} (hlo : z_keep [] lo = [])  
    (k1 : κ (some (zi (wr v))) m) :
    T (D + 2) 236 (5, lo, [zi v], m) κ := by
  have hb0 : (-2147483648) ≤ wr v ∧ wr v ≤ 2147483647 := wrB v
  exact zb236_5r hT hlo
    k1
theorem zb237_0r (hT : zRules T) {D : Nat} {κ : Option zA → zM → Prop} {m : zM} {n : Int} 
    (o1 : wr n < 0 → κ (some (zi (-1))) (zu m 74 12 0))
    (o2 : ¬ wr n < 0 → 60 < wr n → κ (some (zi (-1))) (zu m 74 12 0))
    (o3 : ¬ wr n < 0 → ¬ 60 < wr n → ¬ 0 < wr n → T (D + 3) 237 (35, [(0, zr 74), (1, zi n), (2, zi 0)], [], (zu (zu (zu (zu m 74 12 0) 74 31 0) 74 32 0) 74 33 0)) κ)
    (o4 : ¬ wr n < 0 → ¬ 60 < wr n → 0 < wr n → T (D + 2) 229 (0, [(0, zr 74), (1, zr 75)], [], (zu m 74 12 0)) (fun r m1 => T (D + 3) 237 (29, [(0, zr 74), (1, zi n)], r.toList ++ [], m1) κ)) :
    T (D + 3) 237 (0, [(0, zr 74), (1, zi n)], [], m) κ :=
  hT.1 [(35, [0, 1, 2])] 6 (D + 3) 237 _ κ (And.intro trivial (hT.1 [(35, [0, 1, 2])] 6 (D + 3) 237 (9, [(0, zr 74), (1, zi n)], [zi 60, zi 0, zi n], (zu m 74 12 0)) _ (hT.1 [] 6 (D + 2) 186 _ _ (And.intro (fun a1 => (And.intro (z_b01L rfl) (hT.1 [(35, [0, 1, 2])] 6 (D + 3) 237 _ _ (And.intro (fun a3 => (z_litF a3 rfl).elim) (fun _ => (o1 a1)))))) (fun a2 => (And.intro (fun a4 => (hT.1 [] 6 (D + 2) 186 (14, [(0, zi n), (1, zi 0), (2, zi 60)], [], (zu m 74 12 0)) _ (And.intro (z_b01L rfl) (hT.1 [(35, [0, 1, 2])] 6 (D + 3) 237 _ _ (And.intro (fun a6 => (z_litF a6 rfl).elim) (fun _ => (o2 a2 a4))))))) (fun a5 => (hT.1 [] 6 (D + 2) 186 (10, [(0, zi n), (1, zi 0), (2, zi 60)], [], (zu m 74 12 0)) _ (And.intro (z_b01L rfl) (hT.1 [(35, [0, 1, 2])] 6 (D + 3) 237 _ _ (And.intro (fun _ => (And.intro (fun a8 => (hT.1 [] 6 (D + 2) 224 _ _ (And.intro trivial (And.intro trivial (hT.1 [] 6 (D + 2) 224 (10, [(0, zr 74)], [], (zu (zu (zu m 74 12 0) 74 31 0) 74 32 0)) _ (And.intro trivial (hT.1 [(35, [0, 1, 2])] 6 (D + 3) 237 _ _ (o3 a2 a5 a8)))))))) (fun a9 => (hT.1 [(35, [0, 1, 2])] 6 (D + 3) 237 (26, [(0, zr 74), (1, zi n)], [zr 75, zr 74], (zu m 74 12 0)) _ (o4 a2 a5 (Classical.byContradiction a9)))))) (fun a7 => (a7 (z_litT rfl)).elim))))))))))))
theorem zb237_0 (hT : zRules T) {D : Nat} {κ : Option zA → zM → Prop} {m : zM} {n : Int}  (hB : zB m) (h_n : (-2147483648) ≤ n ∧ n ≤ 2147483647) 
    (k1 : n < 0 → zB (zu m 74 12 0) → κ (some (zi (-1))) (zu m 74 12 0))
    (k2 : ¬ n < 0 → 60 < n → zB (zu m 74 12 0) → κ (some (zi (-1))) (zu m 74 12 0))
    (k3 : ¬ n < 0 → ¬ 60 < n → ¬ 0 < n → zB (zu (zu (zu (zu m 74 12 0) 74 31 0) 74 32 0) 74 33 0) → T (D + 3) 237 (35, [(0, zr 74), (1, zi n), (2, zi 0)], [], (zu (zu (zu (zu m 74 12 0) 74 31 0) 74 32 0) 74 33 0)) κ)
    (k4 : ¬ n < 0 → ¬ 60 < n → 0 < n → zB (zu m 74 12 0) → T (D + 2) 229 (0, [(0, zr 74), (1, zr 75)], [], (zu m 74 12 0)) (fun r m1 => T (D + 3) 237 (29, [(0, zr 74), (1, zi n)], r.toList ++ [], m1) κ)) :
    T (D + 3) 237 (0, [(0, zr 74), (1, zi n)], [], m) κ := by
  have he0 : wr n = n := wr_id (by omega) (by omega)
  have key := @zb237_0r T hT D κ m n
  simp only [he0, Int.toNat_natCast] at key
  exact key
    (fun x0 => k1 x0 (zB_u hB trivial))
    (fun x0 x1 => k2 x0 x1 (zB_u hB trivial))
    (fun x0 x1 x2 => k3 x0 x1 x2 (zB_u (zB_u (zB_u (zB_u hB trivial) trivial) trivial) trivial))
    (fun x0 x1 x2 => k4 x0 x1 x2 (zB_u hB trivial))
theorem zb237_29r (hT : zRules T) {D : Nat} {κ : Option zA → zM → Prop} {m : zM} {n : Nat} {lo : zL} (hlo : z_keep [0, 1] lo = [(0, zr 74), (1, zi (n : Int))]) 
    (o1 : T (D + 3) 237 (35, [(0, zr 74), (1, zi (n : Int)), (2, zi 0)], [], (zu (zu (zu m 74 31 0) 74 32 0) 74 33 0)) κ) :
    T (D + 3) 237 (29, lo, [], m) κ :=
  zkeep hT hlo (hT.1 [(35, [0, 1, 2])] 6 (D + 3) 237 _ κ (hT.1 [] 6 (D + 2) 224 _ _ (And.intro trivial (And.intro trivial (hT.1 [] 6 (D + 2) 224 (10, [(0, zr 74)], [], (zu (zu m 74 31 0) 74 32 0)) _ (And.intro trivial (hT.1 [(35, [0, 1, 2])] 6 (D + 3) 237 _ _ (o1))))))))
theorem zb237_29 (hT : zRules T) {D : Nat} {κ : Option zA → zM → Prop} {m : zM} {n : Nat} {lo : zL} (hlo : z_keep [0, 1] lo = [(0, zr 74), (1, zi (n : Int))])  (hB : zB m) (h_n : n ≤ 60) 
    (k1 : zB (zu (zu (zu m 74 31 0) 74 32 0) 74 33 0) → T (D + 3) 237 (35, [(0, zr 74), (1, zi (n : Int)), (2, zi 0)], [], (zu (zu (zu m 74 31 0) 74 32 0) 74 33 0)) κ) :
    T (D + 3) 237 (29, lo, [], m) κ := by
  exact zb237_29r hT hlo
    (k1  (zB_u (zB_u (zB_u hB trivial) trivial) trivial))
theorem zb237_35r (hT : zRules T) {D : Nat} {κ : Option zA → zM → Prop} {m : zM} {n : Nat} {k : Nat} {lo : zL} (hlo : z_keep [0, 1, 2] lo = [(0, zr 74), (1, zi (n : Int)), (2, zi (k : Int))]) 
    (o1 : ¬ wr (k : Int) < wr (n : Int) → κ (some (zi (wr (wr (((m 79 1) * (m 74 31)) + ((m 79 2) * (m 74 32))))))) (zu (zu (zu (zu (zu (zu (zu (zu m 75 58 ((m 75 58) - wr (((m 79 1) * (m 74 31)) + ((m 79 2) * (m 74 32))))) 74 11 0) 81 0 (m 74 31)) 74 11 1) 81 1 (m 74 32)) 74 11 2) 81 2 (m 74 33)) 74 11 3))
    (o2 : wr (k : Int) < wr (n : Int) → T (D + 2) 235 (0, [(0, zr 74), (1, zr 75)], [], m) (fun r m1 => T (D + 3) 237 (48, [(0, zr 74), (1, zi (n : Int)), (2, zi (k : Int))], r.toList ++ [], m1) κ)) :
    T (D + 3) 237 (35, lo, [], m) κ :=
  zkeep hT hlo (hT.1 [(35, [0, 1, 2])] 6 (D + 3) 237 _ κ (And.intro (fun a1 => (hT.1 [(35, [0, 1, 2])] 6 (D + 3) 237 (60, [(0, zr 74), (1, zi (n : Int)), (2, zi (k : Int))], [zi 58, zr 75], m) _ (And.intro (z_ixL rfl) (hT.1 [] 6 (D + 2) 225 _ _ (And.intro (z_ixL rfl) (hT.1 [] 6 (D + 2) 225 (10, [(0, zr 74)], [zi (m 74 31), zi (m 79 1)], m) _ (And.intro (z_ixL rfl) (hT.1 [] 6 (D + 2) 225 (18, [(0, zr 74)], [zr 74, zi (m 79 2), zi ((m 79 1) * (m 74 31))], m) _ (hT.1 [(35, [0, 1, 2])] 6 (D + 3) 237 _ _ (And.intro (And.intro (z_ixL rfl) trivial) (hT.1 [] 6 (D + 2) 233 _ _ (And.intro trivial (hT.1 [] 6 (D + 2) 233 (10, [(0, zr 74)], [zi (m 74 31), zr 74], (zu (zu m 75 58 ((m 75 58) - wr (((m 79 1) * (m 74 31)) + ((m 79 2) * (m 74 32))))) 74 11 0)) _ (hT.1 [] 6 (D + 1) 189 _ _ (And.intro (And.intro (z_ixL rfl) trivial) (hT.1 [] 6 (D + 1) 189 (10, [(0, zr 74), (1, zi (m 74 31))], [], (zu (zu (zu m 75 58 ((m 75 58) - wr (((m 79 1) * (m 74 31)) + ((m 79 2) * (m 74 32))))) 74 11 0) 81 0 (m 74 31))) _ (And.intro trivial (hT.1 [] 6 (D + 1) 189 (20, [(0, zr 74), (1, zi (m 74 31))], [], (zu (zu (zu (zu m 75 58 ((m 75 58) - wr (((m 79 1) * (m 74 31)) + ((m 79 2) * (m 74 32))))) 74 11 0) 81 0 (m 74 31)) 74 11 1)) _ (hT.1 [] 6 (D + 2) 233 _ _ (hT.1 [] 6 (D + 1) 189 _ _ (And.intro (And.intro (z_ixL rfl) trivial) (hT.1 [] 6 (D + 1) 189 (10, [(0, zr 74), (1, zi (m 74 32))], [], (zu (zu (zu (zu (zu m 75 58 ((m 75 58) - wr (((m 79 1) * (m 74 31)) + ((m 79 2) * (m 74 32))))) 74 11 0) 81 0 (m 74 31)) 74 11 1) 81 1 (m 74 32))) _ (And.intro trivial (hT.1 [] 6 (D + 1) 189 (20, [(0, zr 74), (1, zi (m 74 32))], [], (zu (zu (zu (zu (zu (zu m 75 58 ((m 75 58) - wr (((m 79 1) * (m 74 31)) + ((m 79 2) * (m 74 32))))) 74 11 0) 81 0 (m 74 31)) 74 11 1) 81 1 (m 74 32)) 74 11 2)) _ (hT.1 [] 6 (D + 2) 233 _ _ (hT.1 [] 6 (D + 1) 189 _ _ (And.intro (And.intro (z_ixL rfl) trivial) (hT.1 [] 6 (D + 1) 189 (10, [(0, zr 74), (1, zi (m 74 33))], [], (zu (zu (zu (zu (zu (zu (zu m 75 58 ((m 75 58) - wr (((m 79 1) * (m 74 31)) + ((m 79 2) * (m 74 32))))) 74 11 0) 81 0 (m 74 31)) 74 11 1) 81 1 (m 74 32)) 74 11 2) 81 2 (m 74 33))) _ (And.intro trivial (hT.1 [] 6 (D + 1) 189 (20, [(0, zr 74), (1, zi (m 74 33))], [], (zu (zu (zu (zu (zu (zu (zu (zu m 75 58 ((m 75 58) - wr (((m 79 1) * (m 74 31)) + ((m 79 2) * (m 74 32))))) 74 11 0) 81 0 (m 74 31)) 74 11 1) 81 1 (m 74 32)) 74 11 2) 81 2 (m 74 33)) 74 11 3)) _ (hT.1 [] 6 (D + 2) 233 _ _ (hT.1 [(35, [0, 1, 2])] 6 (D + 3) 237 _ _ (hT.1 [] 6 (D + 2) 225 _ _ (And.intro (z_ixL rfl) (hT.1 [] 6 (D + 2) 225 (10, [(0, zr 74)], [zi (m 74 31), zi (m 79 1)], (zu (zu (zu (zu (zu (zu (zu (zu m 75 58 ((m 75 58) - wr (((m 79 1) * (m 74 31)) + ((m 79 2) * (m 74 32))))) 74 11 0) 81 0 (m 74 31)) 74 11 1) 81 1 (m 74 32)) 74 11 2) 81 2 (m 74 33)) 74 11 3)) _ (And.intro (z_ixL rfl) (hT.1 [] 6 (D + 2) 225 (18, [(0, zr 74)], [zr 74, zi (m 79 2), zi ((m 79 1) * (m 74 31))], (zu (zu (zu (zu (zu (zu (zu (zu m 75 58 ((m 75 58) - wr (((m 79 1) * (m 74 31)) + ((m 79 2) * (m 74 32))))) 74 11 0) 81 0 (m 74 31)) 74 11 1) 81 1 (m 74 32)) 74 11 2) 81 2 (m 74 33)) 74 11 3)) _ (hT.1 [(35, [0, 1, 2])] 6 (D + 3) 237 _ _ (o1 a1))))))))))))))))))))))))))))))))))))))) (fun a2 => (hT.1 [(35, [0, 1, 2])] 6 (D + 3) 237 (45, [(0, zr 74), (1, zi (n : Int)), (2, zi (k : Int))], [zr 75, zr 74], m) _ (o2 (Classical.byContradiction a2))))))
theorem zb237_35 (hT : zRules T) {D : Nat} {κ : Option zA → zM → Prop} {m : zM} {n : Nat} {k : Nat} {lo : zL} (hlo : z_keep [0, 1, 2] lo = [(0, zr 74), (1, zi (n : Int)), (2, zi (k : Int))])  (hB : zB m) (h_n : n ≤ 60) (h_k : k ≤ 60) 
    (k1 : ¬ (k : Int) < (n : Int) → zB (zu (zu (zu (zu (zu (zu (zu (zu m 75 58 ((m 75 58) - wr (((m 79 1) * (m 74 31)) + ((m 79 2) * (m 74 32))))) 74 11 0) 81 0 (m 74 31)) 74 11 1) 81 1 (m 74 32)) 74 11 2) 81 2 (m 74 33)) 74 11 3) → κ (some (zi (wr (((m 79 1) * (m 74 31)) + ((m 79 2) * (m 74 32)))))) (zu (zu (zu (zu (zu (zu (zu (zu m 75 58 ((m 75 58) - wr (((m 79 1) * (m 74 31)) + ((m 79 2) * (m 74 32))))) 74 11 0) 81 0 (m 74 31)) 74 11 1) 81 1 (m 74 32)) 74 11 2) 81 2 (m 74 33)) 74 11 3))
    (k2 : (k : Int) < (n : Int) → T (D + 2) 235 (0, [(0, zr 74), (1, zr 75)], [], m) (fun r m1 => T (D + 3) 237 (48, [(0, zr 74), (1, zi (n : Int)), (2, zi (k : Int))], r.toList ++ [], m1) κ)) :
    T (D + 3) 237 (35, lo, [], m) κ := by
  have hb2 : 0 ≤ (m 79 1) ∧ (m 79 1) ≤ 9 := hB 79 1
  have hb3 : 0 ≤ (m 79 2) ∧ (m 79 2) ≤ 9 := hB 79 2
  have hb4 : (-2147483648) ≤ wr (((m 79 1) * (m 74 31)) + ((m 79 2) * (m 74 32))) ∧ wr (((m 79 1) * (m 74 31)) + ((m 79 2) * (m 74 32))) ≤ 2147483647 := wrB (((m 79 1) * (m 74 31)) + ((m 79 2) * (m 74 32)))
  have he0 : wr (k : Int) = (k : Int) := wr_id (by omega) (by omega)
  have he1 : wr (n : Int) = (n : Int) := wr_id (by omega) (by omega)
  have he2 : wr (wr (((m 79 1) * (m 74 31)) + ((m 79 2) * (m 74 32)))) = wr (((m 79 1) * (m 74 31)) + ((m 79 2) * (m 74 32))) := wr_id (by omega) (by omega)
  have key := @zb237_35r T hT D κ m n k lo hlo
  simp only [he0, he1, he2, Int.toNat_natCast] at key
  exact key
    (fun x0 => k1 x0 (zB_u (zB_u (zB_u (zB_u (zB_u (zB_u (zB_u (zB_u hB trivial) (show 0 ≤ 0 ∧ 0 ≤ 32 from ⟨by omega, by omega⟩)) trivial) (show 0 ≤ 1 ∧ 1 ≤ 32 from ⟨by omega, by omega⟩)) trivial) (show 0 ≤ 2 ∧ 2 ≤ 32 from ⟨by omega, by omega⟩)) trivial) (show 0 ≤ 3 ∧ 3 ≤ 32 from ⟨by omega, by omega⟩)))
    k2
theorem zb237_48r (hT : zRules T) {D : Nat} {κ : Option zA → zM → Prop} {m : zM} {n : Nat} {k : Nat} {lo : zL} (hlo : z_keep [0, 1, 2] lo = [(0, zr 74), (1, zi (n : Int)), (2, zi (k : Int))]) 
    (o1 : T (D + 3) 237 (35, [(0, zr 74), (1, zi (n : Int)), (2, zi ((k : Int) + 1))], [], m) κ) :
    T (D + 3) 237 (48, lo, [], m) κ :=
  zkeep hT hlo (hT.1 [(35, [0, 1, 2])] 6 (D + 3) 237 _ κ (o1))
theorem zb237_48 (hT : zRules T) {D : Nat} {κ : Option zA → zM → Prop} {m : zM} {n : Nat} {k : Nat} {lo : zL} (hlo : z_keep [0, 1, 2] lo = [(0, zr 74), (1, zi (n : Int)), (2, zi (k : Int))])  (hB : zB m) (h_n : n ≤ 60) (h_k : k ≤ 60) 
    (k1 : T (D + 3) 237 (35, [(0, zr 74), (1, zi (n : Int)), (2, zi ((k : Int) + 1))], [], m) κ) :
    T (D + 3) 237 (48, lo, [], m) κ := by
  exact zb237_48r hT hlo
    k1
theorem zb129_0r (hT : zRules T) {D : Nat} {κ : Option zA → zM → Prop} {m : zM} 
    (o1 : ¬ wr (m 28 5) < 1 → T (D + 2) 19 (0, [(0, zr 28), (1, zr 17)], [], (zu m 28 5 ((m 28 5) - 1))) (fun r m1 => T (D + 3) 129 (31, [(0, zr 1)], r.toList ++ [], m1) κ))
    (o2 : wr (m 28 5) < 1 → κ (some (zi (-1))) m) :
    T (D + 3) 129 (0, [(0, zr 1)], [], m) κ :=
  hT.1 [] 6 (D + 3) 129 _ κ (And.intro (fun a1 => (hT.1 [] 6 (D + 3) 129 (14, [(0, zr 1)], [zr 1], m) _ (hT.1 [] 6 (D + 2) 18 _ _ (And.intro trivial (hT.1 [] 6 (D + 2) 18 (10, [(0, zr 28)], [], (zu m 28 5 ((m 28 5) - 1))) _ (hT.1 [] 6 (D + 3) 129 _ _ (o1 a1))))))) (fun a2 => (hT.1 [] 6 (D + 3) 129 (12, [(0, zr 1)], [zi (-1)], m) _ (o2 (Classical.byContradiction a2)))))
theorem zb129_0 (hT : zRules T) {D : Nat} {κ : Option zA → zM → Prop} {m : zM}  (hB : zB m) 
    (k1 : ¬ (m 28 5) < 1 → zB (zu m 28 5 ((m 28 5) - 1)) → T (D + 2) 19 (0, [(0, zr 28), (1, zr 17)], [], (zu m 28 5 ((m 28 5) - 1))) (fun r m1 => T (D + 3) 129 (31, [(0, zr 1)], r.toList ++ [], m1) κ))
    (k2 : (m 28 5) < 1 → κ (some (zi (-1))) m) :
    T (D + 3) 129 (0, [(0, zr 1)], [], m) κ := by
  have hb0 : 0 ≤ (m 28 5) ∧ (m 28 5) ≤ 12 := hB 28 5
  have he0 : wr (m 28 5) = (m 28 5) := wr_id (by omega) (by omega)
  have key := @zb129_0r T hT D κ m 
  simp only [he0, Int.toNat_natCast] at key
  exact key
    (fun x0 => k1 x0 (zB_u hB (show 0 ≤ ((m 28 5) - 1) ∧ ((m 28 5) - 1) ≤ 12 from ⟨by omega, by omega⟩)))
    k2
theorem zb129_31r (hT : zRules T) {D : Nat} {κ : Option zA → zM → Prop} {m : zM} {lo : zL} (hlo : z_keep [0] lo = [(0, zr 1)]) 
    (o1 : κ (some (zi (wr (m 28 5)))) m) :
    T (D + 3) 129 (31, lo, [], m) κ :=
  zkeep hT hlo (hT.1 [] 6 (D + 3) 129 _ κ (o1))
theorem zb129_31 (hT : zRules T) {D : Nat} {κ : Option zA → zM → Prop} {m : zM} {lo : zL} (hlo : z_keep [0] lo = [(0, zr 1)])  (hB : zB m) 
    (k1 : κ (some (zi (m 28 5))) m) :
    T (D + 3) 129 (31, lo, [], m) κ := by
  have hb0 : 0 ≤ (m 28 5) ∧ (m 28 5) ≤ 12 := hB 28 5
  have he0 : wr (m 28 5) = (m 28 5) := wr_id (by omega) (by omega)
  have key := @zb129_31r T hT D κ m  lo hlo
  simp only [he0, Int.toNat_natCast] at key
  exact key
    k1
theorem zb241_0r (hT : zRules T) {D : Nat} {κ : Option zA → zM → Prop} {m : zM} 
    (o1 : ¬ wr (m 74 35) = 0 → T (D + 1) 241 (26, [(0, zr 74), (1, zi 0)], [], (zu (zu m 74 12 0) 74 35 ((m 74 35) - 1))) κ)
    (o2 : wr (m 74 35) = 0 → κ (some (zi (-1))) (zu m 74 12 0)) :
    T (D + 1) 241 (0, [(0, zr 74)], [], m) κ :=
  hT.1 [(26, [0, 1])] 6 (D + 1) 241 _ κ (And.intro trivial (And.intro (fun a1 => (hT.1 [(26, [0, 1])] 6 (D + 1) 241 (14, [(0, zr 74)], [], (zu m 74 12 0)) _ (And.intro trivial (hT.1 [(26, [0, 1])] 6 (D + 1) 241 (24, [(0, zr 74)], [], (zu (zu m 74 12 0) 74 35 ((m 74 35) - 1))) _ (o1 a1))))) (fun a2 => (hT.1 [(26, [0, 1])] 6 (D + 1) 241 (12, [(0, zr 74)], [], (zu m 74 12 0)) _ (o2 (Classical.byContradiction a2))))))
theorem zb241_0 (hT : zRules T) {D : Nat} {κ : Option zA → zM → Prop} {m : zM}  (hB : zB m) 
    (k1 : ¬ (m 74 35) = 0 → zB (zu (zu m 74 12 0) 74 35 ((m 74 35) - 1)) → T (D + 1) 241 (26, [(0, zr 74), (1, zi 0)], [], (zu (zu m 74 12 0) 74 35 ((m 74 35) - 1))) κ)
    (k2 : (m 74 35) = 0 → zB (zu m 74 12 0) → κ (some (zi (-1))) (zu m 74 12 0)) :
    T (D + 1) 241 (0, [(0, zr 74)], [], m) κ := by
  have hb0 : 0 ≤ (m 74 35) ∧ (m 74 35) ≤ 12 := hB 74 35
  have he0 : wr (m 74 35) = (m 74 35) := wr_id (by omega) (by omega)
  have key := @zb241_0r T hT D κ m 
  simp only [he0, Int.toNat_natCast] at key
  exact key
    (fun x0 => k1 x0 (zB_u (zB_u hB trivial) (show 0 ≤ ((m 74 35) - 1) ∧ ((m 74 35) - 1) ≤ 12 from ⟨by omega, by omega⟩)))
    (fun x0 => k2 x0 (zB_u hB trivial))
theorem zb241_26r (hT : zRules T) {D : Nat} {κ : Option zA → zM → Prop} {m : zM} {k : Nat} {lo : zL} (hlo : z_keep [0, 1] lo = [(0, zr 74), (1, zi (k : Int))]) 
    (o1 : ¬ wr (k : Int) < 59 → κ (some (zi (wr (m 74 35)))) m)
    (o2 : wr (k : Int) < 59 → (0 ≤ wr ((59 * (m 74 35)) + (k : Int)) ∧ wr ((59 * (m 74 35)) + (k : Int)) < 708))
    (o3 : wr (k : Int) < 59 → (0 ≤ wr (k : Int) ∧ wr (k : Int) < 59))
    (o4 : wr (k : Int) < 59 → T (D + 1) 241 (26, [(0, zr 74), (1, zi ((k : Int) + 1))], [], (zu m 75 ((wr (k : Int)).toNat) (m 87 ((wr ((59 * (m 74 35)) + (k : Int))).toNat)))) κ) :
    T (D + 1) 241 (26, lo, [], m) κ :=
  zkeep hT hlo (hT.1 [(26, [0, 1])] 6 (D + 1) 241 _ κ (And.intro (fun a1 => (o1 a1)) (fun a2 => (hT.1 [(26, [0, 1])] 6 (D + 1) 241 (37, [(0, zr 74), (1, zi (k : Int))], [zi (k : Int), zr 75], m) _ (hT.1 [(26, [0, 1])] 6 (D + 1) 241 (48, [(0, zr 74), (1, zi (k : Int))], [zi (59 * (m 74 35)), zr 87, zi (k : Int), zr 75], m) _ (And.intro (o2 (Classical.byContradiction a2)) (And.intro (And.intro (o3 (Classical.byContradiction a2)) trivial) (o4 (Classical.byContradiction a2)))))))))
theorem zb241_26 (hT : zRules T) {D : Nat} {κ : Option zA → zM → Prop} {m : zM} {k : Nat} {lo : zL} (hlo : z_keep [0, 1] lo = [(0, zr 74), (1, zi (k : Int))])  (hB : zB m) (h_k : k ≤ 59) (hf0 : 0 ≤ m 74 35 ∧ m 74 35 ≤ 11) 
    (k1 : ¬ (k : Int) < 59 → κ (some (zi (m 74 35))) m)
    (k2 : (k : Int) < 59 → T (D + 1) 241 (26, [(0, zr 74), (1, zi ((k : Int) + 1))], [], (zu m 75 k (m 87 (((59 * (m 74 35)) + (k : Int)).toNat)))) κ) :
    T (D + 1) 241 (26, lo, [], m) κ := by
  have he0 : wr (k : Int) = (k : Int) := wr_id (by omega) (by omega)
  have he1 : wr ((59 * (m 74 35)) + (k : Int)) = ((59 * (m 74 35)) + (k : Int)) := wr_id (by omega) (by omega)
  have he2 : (k : Int).toNat = k := by omega
  have he3 : wr (m 74 35) = (m 74 35) := wr_id (by omega) (by omega)
  have key := @zb241_26r T hT D κ m k lo hlo
  simp only [he0, he1, he2, he3, Int.toNat_natCast] at key
  exact key
    k1
    (fun x0 => by refine ⟨?_, ?_⟩ <;> omega)
    (fun x0 => by refine ⟨?_, ?_⟩ <;> omega)
    k2
theorem zb159_0r (hT : zRules T) {D : Nat} {κ : Option zA → zM → Prop} {m : zM} {i : Int} 
    (o1 : T (D + 3) 21 (0, [(0, zr 28), (1, zi i), (2, zr 17)], [], m) (fun r m1 => T (D + 4) 159 (12, [(0, zr 1), (1, zi i)], r.toList ++ [], m1) κ)) :
    T (D + 4) 159 (0, [(0, zr 1), (1, zi i)], [], m) κ :=
  hT.1 [] 6 (D + 4) 159 _ κ (o1)
theorem zb159_0 (hT : zRules T) {D : Nat} {κ : Option zA → zM → Prop} {m : zM} {i : Int}  (hB : zB m) (h_i : (-2147483648) ≤ i ∧ i ≤ 2147483647) 
    (k1 : T (D + 3) 21 (0, [(0, zr 28), (1, zi i), (2, zr 17)], [], m) (fun r m1 => T (D + 4) 159 (12, [(0, zr 1), (1, zi i)], r.toList ++ [], m1) κ)) :
    T (D + 4) 159 (0, [(0, zr 1), (1, zi i)], [], m) κ := by
  exact zb159_0r hT
    k1
theorem zb159_12r (hT : zRules T) {D : Nat} {κ : Option zA → zM → Prop} {m : zM} {v : Int} {lo : zL} (hlo : z_keep [] lo = []) 
    (o1 : (0 ≤ wr v ∧ wr v ≤ 1))
    (o2 : κ (some (zi (wr v))) m) :
    T (D + 4) 159 (12, lo, [zi v], m) κ :=
  zkeep hT hlo (hT.1 [] 6 (D + 4) 159 _ κ (And.intro (o1) (o2)))
theorem zb159_12 (hT : zRules T) {D : Nat} {κ : Option zA → zM → Prop} {m : zM} {v : Int} {lo : zL} (hlo : z_keep [] lo = [])  (h_v : 0 ≤ v ∧ v ≤ 1) 
    (k1 : κ (some (zi v)) m) :
    T (D + 4) 159 (12, lo, [zi v], m) κ := by
  have he0 : wr v = v := wr_id (by omega) (by omega)
  have key := @zb159_12r T hT D κ m v lo hlo
  simp only [he0, Int.toNat_natCast] at key
  exact key
    (by refine ⟨?_, ?_⟩ <;> omega)
    k1
theorem zb21_0r (hT : zRules T) {D : Nat} {κ : Option zA → zM → Prop} {m : zM} {i : Int} 
    (o1 : wr i < 0 → κ (some (zi 0)) m)
    (o2 : ¬ wr i < 0 → wr i < 2 → (0 ≤ wr i ∧ wr i < 2))
    (o3 : ¬ wr i < 0 → wr i < 2 → wr i = 0 → T (D + 2) 42 (0, [(0, zr 17), (1, zr 44)], [], m) (fun r m1 => T (D + 3) 21 (21, [(0, zr 28), (1, zi i), (2, zr 17)], r.toList ++ [], m1) κ))
    (o4 : ¬ wr i < 0 → wr i < 2 → wr i = 1 → T (D + 2) 42 (0, [(0, zr 17), (1, zr 45)], [], m) (fun r m1 => T (D + 3) 21 (21, [(0, zr 28), (1, zi i), (2, zr 17)], r.toList ++ [], m1) κ))
    (o5 : ¬ wr i < 0 → ¬ wr i < 2 → κ (some (zi 0)) m) :
    T (D + 3) 21 (0, [(0, zr 28), (1, zi i), (2, zr 17)], [], m) κ :=
  hT.1 [] 6 (D + 3) 21 _ κ (And.intro (fun a1 => (And.intro (z_b01L rfl) (o1 a1))) (fun a2 => (And.intro (fun a3 => (hT.1 [] 6 (D + 3) 21 (12, [(0, zr 28), (1, zi i), (2, zr 17)], [zr 17], m) _ (And.intro (o2 a2 a3) (And.intro (fun a5 => (o3 a2 a3 a5)) (And.intro (fun a6 => (o4 a2 a3 a6)) trivial))))) (fun a4 => (hT.1 [] 6 (D + 3) 21 (10, [(0, zr 28), (1, zi i), (2, zr 17)], [zi 0], m) _ (And.intro (z_b01L rfl) (o5 a2 a4)))))))
theorem zb21_0 (hT : zRules T) {D : Nat} {κ : Option zA → zM → Prop} {m : zM} {i : Int}  (hB : zB m) (h_i : (-2147483648) ≤ i ∧ i ≤ 2147483647) 
    (k1 : i < 0 → κ (some (zi 0)) m)
    (k2 : ¬ i < 0 → i < 2 → i = 0 → T (D + 2) 42 (0, [(0, zr 17), (1, zr 44)], [], m) (fun r m1 => T (D + 3) 21 (21, [(0, zr 28), (1, zi i), (2, zr 17)], r.toList ++ [], m1) κ))
    (k3 : ¬ i < 0 → i < 2 → i = 1 → T (D + 2) 42 (0, [(0, zr 17), (1, zr 45)], [], m) (fun r m1 => T (D + 3) 21 (21, [(0, zr 28), (1, zi i), (2, zr 17)], r.toList ++ [], m1) κ))
    (k4 : ¬ i < 0 → ¬ i < 2 → κ (some (zi 0)) m) :
    T (D + 3) 21 (0, [(0, zr 28), (1, zi i), (2, zr 17)], [], m) κ := by
  have he0 : wr i = i := wr_id (by omega) (by omega)
  have key := @zb21_0r T hT D κ m i
  simp only [he0, Int.toNat_natCast] at key
  exact key
    k1
    (fun x0 x1 => by refine ⟨?_, ?_⟩ <;> omega)
    k2
    k3
    k4
theorem zb21_21r (hT : zRules T) {D : Nat} {κ : Option zA → zM → Prop} {m : zM} {i : Nat} {lo : zL} (hlo : z_keep [0, 1, 2] lo = [(0, zr 28), (1, zi (i : Int)), (2, zr 17)]) 
    (o1 : (0 ≤ wr (i : Int) ∧ wr (i : Int) < 2))
    (o2 : (0 ≤ wr (i : Int) ∧ wr (i : Int) < 2))
    (o3 : κ (some (zi 1)) (zu (zu m 46 ((wr (i : Int)).toNat) (m 17 0)) 47 ((wr (i : Int)).toNat) (m 17 1))) :
    T (D + 3) 21 (21, lo, [], m) κ :=
  zkeep hT hlo (hT.1 [] 6 (D + 3) 21 _ κ (And.intro (And.intro (o1) trivial) (hT.1 [] 6 (D + 3) 21 (31, [(0, zr 28), (1, zi (i : Int)), (2, zr 17)], [], (zu m 46 ((wr (i : Int)).toNat) (m 17 0))) _ (And.intro (And.intro (o2) trivial) (hT.1 [] 6 (D + 3) 21 (41, [(0, zr 28), (1, zi (i : Int)), (2, zr 17)], [], (zu (zu m 46 ((wr (i : Int)).toNat) (m 17 0)) 47 ((wr (i : Int)).toNat) (m 17 1))) _ (And.intro (z_b01L rfl) (o3)))))))
theorem zb21_21 (hT : zRules T) {D : Nat} {κ : Option zA → zM → Prop} {m : zM} {i : Nat} {lo : zL} (hlo : z_keep [0, 1, 2] lo = [(0, zr 28), (1, zi (i : Int)), (2, zr 17)])  (hB : zB m) (h_i : i ≤ 1) 
    (k1 : zB (zu (zu m 46 i (m 17 0)) 47 i (m 17 1)) → κ (some (zi 1)) (zu (zu m 46 i (m 17 0)) 47 i (m 17 1))) :
    T (D + 3) 21 (21, lo, [], m) κ := by
  have hb1 : 0 ≤ (m 17 0) ∧ (m 17 0) ≤ 6 := hB 17 0
  have hb2 : 0 ≤ (m 17 1) ∧ (m 17 1) ≤ 8 := hB 17 1
  have he0 : wr (i : Int) = (i : Int) := wr_id (by omega) (by omega)
  have he1 : (i : Int).toNat = i := by omega
  have key := @zb21_21r T hT D κ m i lo hlo
  simp only [he0, he1, Int.toNat_natCast] at key
  exact key
    (by refine ⟨?_, ?_⟩ <;> omega)
    (by refine ⟨?_, ?_⟩ <;> omega)
    (k1  (zB_u (zB_u hB trivial) trivial))
theorem zb287_0r (hT : zRules T) {D : Nat} {κ : Option zA → zM → Prop} {m : zM} {i : Int} 
    (o1 : wr i < 0 → κ (some (zi 0)) (zu m 74 12 0))
    (o2 : ¬ wr i < 0 → 1 < wr i → κ (some (zi 0)) (zu m 74 12 0))
    (o3 : ¬ wr i < 0 → ¬ 1 < wr i → (0 ≤ wr i ∧ wr i < 2))
    (o4 : ¬ wr i < 0 → ¬ 1 < wr i → (0 ≤ wr i ∧ wr i < 2))
    (o5 : ¬ wr i < 0 → ¬ 1 < wr i → T (D + 1) 228 (0, [(0, zr 75), (1, zr 106), (2, zi (59 * i))], [], (zu (zu (zu m 74 12 0) 107 ((wr i).toNat) 1) 108 ((wr i).toNat) (m 74 62))) (fun r m1 => T (D + 2) 287 (48, [(0, zr 74), (1, zi i)], r.toList ++ [], m1) κ)) :
    T (D + 2) 287 (0, [(0, zr 74), (1, zi i)], [], m) κ :=
  hT.1 [] 6 (D + 2) 287 _ κ (And.intro trivial (hT.1 [] 6 (D + 2) 287 (8, [(0, zr 74), (1, zi i)], [zi 1, zi 0, zi i], (zu m 74 12 0)) _ (hT.1 [] 6 (D + 1) 186 _ _ (And.intro (fun a1 => (And.intro (z_b01L rfl) (hT.1 [] 6 (D + 2) 287 _ _ (And.intro (fun a3 => (z_litF a3 rfl).elim) (fun _ => (And.intro (z_b01L rfl) (o1 a1))))))) (fun a2 => (And.intro (fun a4 => (hT.1 [] 6 (D + 1) 186 (14, [(0, zi i), (1, zi 0), (2, zi 1)], [], (zu m 74 12 0)) _ (And.intro (z_b01L rfl) (hT.1 [] 6 (D + 2) 287 _ _ (And.intro (fun a6 => (z_litF a6 rfl).elim) (fun _ => (And.intro (z_b01L rfl) (o2 a2 a4)))))))) (fun a5 => (hT.1 [] 6 (D + 1) 186 (10, [(0, zi i), (1, zi 0), (2, zi 1)], [], (zu m 74 12 0)) _ (And.intro (z_b01L rfl) (hT.1 [] 6 (D + 2) 287 _ _ (And.intro (fun _ => (And.intro (And.intro (o3 a2 a5) (And.intro (z_leL rfl) (z_leL rfl))) (hT.1 [] 6 (D + 2) 287 (23, [(0, zr 74), (1, zi i)], [], (zu (zu m 74 12 0) 107 ((wr i).toNat) 1)) _ (And.intro (And.intro (o4 a2 a5) trivial) (hT.1 [] 6 (D + 2) 287 (33, [(0, zr 74), (1, zi i)], [], (zu (zu (zu m 74 12 0) 107 ((wr i).toNat) 1) 108 ((wr i).toNat) (m 74 62))) _ (hT.1 [] 6 (D + 2) 287 (44, [(0, zr 74), (1, zi i)], [zi i, zi 59, zr 106, zr 75], (zu (zu (zu m 74 12 0) 107 ((wr i).toNat) 1) 108 ((wr i).toNat) (m 74 62))) _ (o5 a2 a5))))))) (fun a7 => (a7 (z_litT rfl)).elim))))))))))))
theorem zb287_0 (hT : zRules T) {D : Nat} {κ : Option zA → zM → Prop} {m : zM} {i : Int}  (hB : zB m) (h_i : (-2147483648) ≤ i ∧ i ≤ 2147483647) 
    (k1 : i < 0 → zB (zu m 74 12 0) → κ (some (zi 0)) (zu m 74 12 0))
    (k2 : ¬ i < 0 → 1 < i → zB (zu m 74 12 0) → κ (some (zi 0)) (zu m 74 12 0))
    (k3 : ¬ i < 0 → ¬ 1 < i → zB (zu (zu (zu m 74 12 0) 107 (i.toNat) 1) 108 (i.toNat) (m 74 62)) → T (D + 1) 228 (0, [(0, zr 75), (1, zr 106), (2, zi (59 * i))], [], (zu (zu (zu m 74 12 0) 107 (i.toNat) 1) 108 (i.toNat) (m 74 62))) (fun r m1 => T (D + 2) 287 (48, [(0, zr 74), (1, zi i)], r.toList ++ [], m1) κ)) :
    T (D + 2) 287 (0, [(0, zr 74), (1, zi i)], [], m) κ := by
  have he0 : wr i = i := wr_id (by omega) (by omega)
  have key := @zb287_0r T hT D κ m i
  simp only [he0, Int.toNat_natCast] at key
  exact key
    (fun x0 => k1 x0 (zB_u hB trivial))
    (fun x0 x1 => k2 x0 x1 (zB_u hB trivial))
    (fun x0 x1 => by refine ⟨?_, ?_⟩ <;> omega)
    (fun x0 x1 => by refine ⟨?_, ?_⟩ <;> omega)
    (fun x0 x1 => k3 x0 x1 (zB_u (zB_u (zB_u hB trivial) (show 0 ≤ 1 ∧ 1 ≤ 1 from ⟨by omega, by omega⟩)) trivial))
theorem zb287_48r (hT : zRules T) {D : Nat} {κ : Option zA → zM → Prop} {m : zM} {lo : zL} (hlo : z_keep [] lo = []) 
    (o1 : κ (some (zi 1)) m) :
    T (D + 2) 287 (48, lo, [], m) κ :=
  zkeep hT hlo (hT.1 [] 6 (D + 2) 287 _ κ (And.intro (z_b01L rfl) (o1)))
theorem zb287_48 (hT : zRules T) {D : Nat} {κ : Option zA → zM → Prop} {m : zM} {lo : zL} (hlo : z_keep [] lo = [])  
    (k1 : κ (some (zi 1)) m) :
    T (D + 2) 287 (48, lo, [], m) κ := by
  exact zb287_48r hT hlo
    k1
theorem zb160_0r (hT : zRules T) {D : Nat} {κ : Option zA → zM → Prop} {m : zM} {i : Int} 
    (o1 : wr i < 0 → κ (some (zi 0)) m)
    (o2 : ¬ wr i < 0 → ¬ wr i < 2 → κ (some (zi 0)) m)
    (o3 : ¬ wr i < 0 → wr i < 2 → (0 ≤ wr i ∧ wr i < 2))
    (o4 : ¬ wr i < 0 → wr i < 2 → ¬ wr (m 46 ((wr i).toNat)) = wr (m 17 0) → κ (some (zi 0)) m)
    (o5 : ¬ wr i < 0 → wr i < 2 → wr (m 46 ((wr i).toNat)) = wr (m 17 0) → (0 ≤ wr i ∧ wr i < 2))
    (o6 : ¬ wr i < 0 → wr i < 2 → wr (m 46 ((wr i).toNat)) = wr (m 17 0) → ¬ wr (m 47 ((wr i).toNat)) = wr (m 17 1) → κ (some (zi 0)) m)
    (o7 : ¬ wr i < 0 → wr i < 2 → wr (m 46 ((wr i).toNat)) = wr (m 17 0) → wr (m 47 ((wr i).toNat)) = wr (m 17 1) → T (D + 3) 23 (0, [(0, zr 28), (1, zi i), (2, zr 17)], [], m) (fun r m1 => T (D + 4) 160 (29, [(0, zr 1), (1, zi i)], r.toList ++ [], m1) κ)) :
    T (D + 4) 160 (0, [(0, zr 1), (1, zi i)], [], m) κ :=
  hT.1 [] 6 (D + 4) 160 _ κ (hT.1 [] 6 (D + 3) 22 _ _ (And.intro (fun a1 => (And.intro (z_b01L rfl) (hT.1 [] 6 (D + 4) 160 _ _ (And.intro (fun a3 => (z_litF a3 rfl).elim) (fun _ => (And.intro (z_b01L rfl) (o1 a1))))))) (fun a2 => (And.intro (fun a4 => (hT.1 [] 6 (D + 3) 22 (40, [(0, zr 28), (1, zi i), (2, zr 17)], [zi 0], m) _ (And.intro (z_b01L rfl) (hT.1 [] 6 (D + 4) 160 _ _ (And.intro (fun a6 => (z_litF a6 rfl).elim) (fun _ => (And.intro (z_b01L rfl) (o2 a2 a4)))))))) (fun a5 => (hT.1 [] 6 (D + 3) 22 (10, [(0, zr 28), (1, zi i), (2, zr 17)], [zr 28], m) _ (And.intro (o3 a2 (Classical.byContradiction a5)) (And.intro (fun a7 => (hT.1 [] 6 (D + 3) 22 (39, [(0, zr 28), (1, zi i), (2, zr 17)], [], m) _ (And.intro (z_b01L rfl) (hT.1 [] 6 (D + 4) 160 _ _ (And.intro (fun a9 => (z_litF a9 rfl).elim) (fun _ => (And.intro (z_b01L rfl) (o4 a2 (Classical.byContradiction a5) a7)))))))) (fun a8 => (hT.1 [] 6 (D + 3) 22 (22, [(0, zr 28), (1, zi i), (2, zr 17)], [], m) _ (And.intro (o5 a2 (Classical.byContradiction a5) (Classical.byContradiction a8)) (hT.1 [] 6 (D + 3) 22 (32, [(0, zr 28), (1, zi i), (2, zr 17)], [zi (m 17 1), zi (m 47 ((wr i).toNat))], m) _ (And.intro (fun a10 => (And.intro (z_b01L rfl) (hT.1 [] 6 (D + 4) 160 _ _ (And.intro (fun a12 => (z_litF a12 rfl).elim) (fun _ => (And.intro (z_b01L rfl) (o6 a2 (Classical.byContradiction a5) (Classical.byContradiction a8) a10))))))) (fun a11 => (And.intro (z_b01L rfl) (hT.1 [] 6 (D + 4) 160 _ _ (And.intro (fun _ => (hT.1 [] 6 (D + 4) 160 (26, [(0, zr 1), (1, zi i)], [zr 17, zi i, zr 28], m) _ (o7 a2 (Classical.byContradiction a5) (Classical.byContradiction a8) (Classical.byContradiction a11)))) (fun a13 => (a13 (z_litT rfl)).elim))))))))))))))))))
theorem zb160_0 (hT : zRules T) {D : Nat} {κ : Option zA → zM → Prop} {m : zM} {i : Int}  (hB : zB m) (h_i : (-2147483648) ≤ i ∧ i ≤ 2147483647) 
    (k1 : i < 0 → κ (some (zi 0)) m)
    (k2 : ¬ i < 0 → ¬ i < 2 → κ (some (zi 0)) m)
    (k3 : ¬ i < 0 → i < 2 → ¬ wr (m 46 (i.toNat)) = (m 17 0) → κ (some (zi 0)) m)
    (k4 : ¬ i < 0 → i < 2 → wr (m 46 (i.toNat)) = (m 17 0) → ¬ wr (m 47 (i.toNat)) = (m 17 1) → κ (some (zi 0)) m)
    (k5 : ¬ i < 0 → i < 2 → wr (m 46 (i.toNat)) = (m 17 0) → wr (m 47 (i.toNat)) = (m 17 1) → T (D + 3) 23 (0, [(0, zr 28), (1, zi i), (2, zr 17)], [], m) (fun r m1 => T (D + 4) 160 (29, [(0, zr 1), (1, zi i)], r.toList ++ [], m1) κ)) :
    T (D + 4) 160 (0, [(0, zr 1), (1, zi i)], [], m) κ := by
  have hb1 : 0 ≤ (m 17 0) ∧ (m 17 0) ≤ 6 := hB 17 0
  have hb2 : (-2147483648) ≤ wr (m 46 (i.toNat)) ∧ wr (m 46 (i.toNat)) ≤ 2147483647 := wrB (m 46 (i.toNat))
  have hb3 : 0 ≤ (m 17 1) ∧ (m 17 1) ≤ 8 := hB 17 1
  have hb4 : (-2147483648) ≤ wr (m 47 (i.toNat)) ∧ wr (m 47 (i.toNat)) ≤ 2147483647 := wrB (m 47 (i.toNat))
  have he0 : wr i = i := wr_id (by omega) (by omega)
  have he1 : wr (m 17 0) = (m 17 0) := wr_id (by omega) (by omega)
  have he2 : wr (m 17 1) = (m 17 1) := wr_id (by omega) (by omega)
  have key := @zb160_0r T hT D κ m i
  simp only [he0, he1, he2, Int.toNat_natCast] at key
  exact key
    k1
    k2
    (fun x0 x1 => by refine ⟨?_, ?_⟩ <;> omega)
    k3
    (fun x0 x1 x2 => by refine ⟨?_, ?_⟩ <;> omega)
    k4
    k5
theorem zb160_29r (hT : zRules T) {D : Nat} {κ : Option zA → zM → Prop} {m : zM} {lo : zL} (hlo : z_keep [0] lo = [(0, zr 1)]) 
    (o1 : κ (some (zi 1)) (zu m 28 5 0)) :
    T (D + 4) 160 (29, lo, [], m) κ :=
  zkeep hT hlo (hT.1 [] 6 (D + 4) 160 _ κ (hT.1 [] 6 (D + 3) 20 _ _ (And.intro trivial (hT.1 [] 6 (D + 4) 160 _ _ (And.intro (z_b01L rfl) (o1))))))
theorem zb160_29 (hT : zRules T) {D : Nat} {κ : Option zA → zM → Prop} {m : zM} {lo : zL} (hlo : z_keep [0] lo = [(0, zr 1)])  (hB : zB m) 
    (k1 : zB (zu m 28 5 0) → κ (some (zi 1)) (zu m 28 5 0)) :
    T (D + 4) 160 (29, lo, [], m) κ := by
  exact zb160_29r hT hlo
    (k1  (zB_u hB (show 0 ≤ 0 ∧ 0 ≤ 12 from ⟨by omega, by omega⟩)))
theorem zb23_0r (hT : zRules T) {D : Nat} {κ : Option zA → zM → Prop} {m : zM} {i : Nat} 
    (o1 : (0 ≤ wr (i : Int) ∧ wr (i : Int) < 2))
    (o2 : wr (i : Int) = 0 → T (D + 2) 43 (0, [(0, zr 17), (1, zr 44)], [], m) (fun r m1 => T (D + 3) 23 (10, [(0, zr 28), (1, zi (i : Int)), (2, zr 17)], r.toList ++ [], m1) κ))
    (o3 : wr (i : Int) = 1 → T (D + 2) 43 (0, [(0, zr 17), (1, zr 45)], [], m) (fun r m1 => T (D + 3) 23 (10, [(0, zr 28), (1, zi (i : Int)), (2, zr 17)], r.toList ++ [], m1) κ)) :
    T (D + 3) 23 (0, [(0, zr 28), (1, zi (i : Int)), (2, zr 17)], [], m) κ :=
  hT.1 [] 6 (D + 3) 23 _ κ (And.intro (o1) (And.intro (fun a1 => (o2 a1)) (And.intro (fun a2 => (o3 a2)) trivial)))
theorem zb23_0 (hT : zRules T) {D : Nat} {κ : Option zA → zM → Prop} {m : zM} {i : Nat}  (hB : zB m) (h_i : i ≤ 1) 
    (k1 : (i : Int) = 0 → T (D + 2) 43 (0, [(0, zr 17), (1, zr 44)], [], m) (fun r m1 => T (D + 3) 23 (10, [(0, zr 28), (1, zi (i : Int)), (2, zr 17)], r.toList ++ [], m1) κ))
    (k2 : (i : Int) = 1 → T (D + 2) 43 (0, [(0, zr 17), (1, zr 45)], [], m) (fun r m1 => T (D + 3) 23 (10, [(0, zr 28), (1, zi (i : Int)), (2, zr 17)], r.toList ++ [], m1) κ)) :
    T (D + 3) 23 (0, [(0, zr 28), (1, zi (i : Int)), (2, zr 17)], [], m) κ := by
  have he0 : wr (i : Int) = (i : Int) := wr_id (by omega) (by omega)
  have key := @zb23_0r T hT D κ m i
  simp only [he0, Int.toNat_natCast] at key
  exact key
    (by refine ⟨?_, ?_⟩ <;> omega)
    k1
    k2
theorem zb23_10r (hT : zRules T) {D : Nat} {κ : Option zA → zM → Prop} {m : zM} {lo : zL} (hlo : z_keep [] lo = []) 
    (o1 : κ (none) m) :
    T (D + 3) 23 (10, lo, [], m) κ :=
  zkeep hT hlo (hT.1 [] 6 (D + 3) 23 _ κ (o1))
theorem zb23_10 (hT : zRules T) {D : Nat} {κ : Option zA → zM → Prop} {m : zM} {lo : zL} (hlo : z_keep [] lo = [])  
    (k1 : κ (none) m) :
    T (D + 3) 23 (10, lo, [], m) κ := by
  exact zb23_10r hT hlo
    k1
theorem zb288_0r (hT : zRules T) {D : Nat} {κ : Option zA → zM → Prop} {m : zM} {i : Int} 
    (o1 : wr i < 0 → κ (some (zi 0)) (zu m 74 12 0))
    (o2 : ¬ wr i < 0 → 1 < wr i → κ (some (zi 0)) (zu m 74 12 0))
    (o3 : ¬ wr i < 0 → ¬ 1 < wr i → (0 ≤ wr i ∧ wr i < 2))
    (o4 : ¬ wr i < 0 → ¬ 1 < wr i → wr (m 107 ((wr i).toNat)) = 0 → κ (some (zi 0)) (zu m 74 12 0))
    (o5 : ¬ wr i < 0 → ¬ 1 < wr i → ¬ wr (m 107 ((wr i).toNat)) = 0 → (0 ≤ wr i ∧ wr i < 2))
    (o6 : ¬ wr i < 0 → ¬ 1 < wr i → ¬ wr (m 107 ((wr i).toNat)) = 0 → wr (m 108 ((wr i).toNat)) = wr (m 74 62) → T (D + 2) 288 (40, [(0, zr 74), (1, zi i), (2, zi 0)], [], (zu m 74 12 0)) κ)
    (o7 : ¬ wr i < 0 → ¬ 1 < wr i → ¬ wr (m 107 ((wr i).toNat)) = 0 → ¬ wr (m 108 ((wr i).toNat)) = wr (m 74 62) → κ (some (zi 0)) (zu m 74 12 0)) :
    T (D + 2) 288 (0, [(0, zr 74), (1, zi i)], [], m) κ :=
  hT.1 [(40, [0, 1, 2])] 6 (D + 2) 288 _ κ (And.intro trivial (hT.1 [(40, [0, 1, 2])] 6 (D + 2) 288 (8, [(0, zr 74), (1, zi i)], [zi 1, zi 0, zi i], (zu m 74 12 0)) _ (hT.1 [] 6 (D + 1) 186 _ _ (And.intro (fun a1 => (And.intro (z_b01L rfl) (hT.1 [(40, [0, 1, 2])] 6 (D + 2) 288 _ _ (And.intro (fun _ => (And.intro (z_b01L rfl) (o1 a1))) (fun a3 => (a3 (z_litT rfl)).elim))))) (fun a2 => (And.intro (fun a4 => (hT.1 [] 6 (D + 1) 186 (14, [(0, zi i), (1, zi 0), (2, zi 1)], [], (zu m 74 12 0)) _ (And.intro (z_b01L rfl) (hT.1 [(40, [0, 1, 2])] 6 (D + 2) 288 _ _ (And.intro (fun _ => (And.intro (z_b01L rfl) (o2 a2 a4))) (fun a6 => (a6 (z_litT rfl)).elim)))))) (fun a5 => (hT.1 [] 6 (D + 1) 186 (10, [(0, zi i), (1, zi 0), (2, zi 1)], [], (zu m 74 12 0)) _ (And.intro (z_b01L rfl) (hT.1 [(40, [0, 1, 2])] 6 (D + 2) 288 _ _ (And.intro (fun a7 => (z_litF a7 rfl).elim) (fun _ => (And.intro (o3 a2 a5) (And.intro (fun a8 => (hT.1 [(40, [0, 1, 2])] 6 (D + 2) 288 (36, [(0, zr 74), (1, zi i)], [], (zu m 74 12 0)) _ (And.intro (z_b01L rfl) (o4 a2 a5 a8)))) (fun a9 => (hT.1 [(40, [0, 1, 2])] 6 (D + 2) 288 (23, [(0, zr 74), (1, zi i)], [], (zu m 74 12 0)) _ (And.intro (o5 a2 a5 a9) (hT.1 [(40, [0, 1, 2])] 6 (D + 2) 288 (33, [(0, zr 74), (1, zi i)], [zi (m 74 62), zi (m 108 ((wr i).toNat))], (zu m 74 12 0)) _ (And.intro (fun a10 => (o6 a2 a5 a9 a10)) (fun a11 => (And.intro (z_b01L rfl) (o7 a2 a5 a9 a11))))))))))))))))))))))
theorem zb288_0 (hT : zRules T) {D : Nat} {κ : Option zA → zM → Prop} {m : zM} {i : Int}  (hB : zB m) (h_i : (-2147483648) ≤ i ∧ i ≤ 2147483647) 
    (k1 : i < 0 → zB (zu m 74 12 0) → κ (some (zi 0)) (zu m 74 12 0))
    (k2 : ¬ i < 0 → 1 < i → zB (zu m 74 12 0) → κ (some (zi 0)) (zu m 74 12 0))
    (k3 : ¬ i < 0 → ¬ 1 < i → (m 107 (i.toNat)) = 0 → zB (zu m 74 12 0) → κ (some (zi 0)) (zu m 74 12 0))
    (k4 : ¬ i < 0 → ¬ 1 < i → ¬ (m 107 (i.toNat)) = 0 → wr (m 108 (i.toNat)) = wr (m 74 62) → zB (zu m 74 12 0) → T (D + 2) 288 (40, [(0, zr 74), (1, zi i), (2, zi 0)], [], (zu m 74 12 0)) κ)
    (k5 : ¬ i < 0 → ¬ 1 < i → ¬ (m 107 (i.toNat)) = 0 → ¬ wr (m 108 (i.toNat)) = wr (m 74 62) → zB (zu m 74 12 0) → κ (some (zi 0)) (zu m 74 12 0)) :
    T (D + 2) 288 (0, [(0, zr 74), (1, zi i)], [], m) κ := by
  have hb1 : 0 ≤ (m 107 (i.toNat)) ∧ (m 107 (i.toNat)) ≤ 1 := hB 107 (i.toNat)
  have hb2 : (-2147483648) ≤ wr (m 108 (i.toNat)) ∧ wr (m 108 (i.toNat)) ≤ 2147483647 := wrB (m 108 (i.toNat))
  have hb3 : (-2147483648) ≤ wr (m 74 62) ∧ wr (m 74 62) ≤ 2147483647 := wrB (m 74 62)
  have he0 : wr i = i := wr_id (by omega) (by omega)
  have he1 : wr (m 107 (i.toNat)) = (m 107 (i.toNat)) := wr_id (by omega) (by omega)
  have key := @zb288_0r T hT D κ m i
  simp only [he0, he1, Int.toNat_natCast] at key
  exact key
    (fun x0 => k1 x0 (zB_u hB trivial))
    (fun x0 x1 => k2 x0 x1 (zB_u hB trivial))
    (fun x0 x1 => by refine ⟨?_, ?_⟩ <;> omega)
    (fun x0 x1 x2 => k3 x0 x1 x2 (zB_u hB trivial))
    (fun x0 x1 x2 => by refine ⟨?_, ?_⟩ <;> omega)
    (fun x0 x1 x2 x3 => k4 x0 x1 x2 x3 (zB_u hB trivial))
    (fun x0 x1 x2 x3 => k5 x0 x1 x2 x3 (zB_u hB trivial))
theorem zb288_40r (hT : zRules T) {D : Nat} {κ : Option zA → zM → Prop} {m : zM} {i : Nat} {k : Nat} {lo : zL} (hlo : z_keep [0, 1, 2] lo = [(0, zr 74), (1, zi (i : Int)), (2, zi (k : Int))]) 
    (o1 : ¬ wr (k : Int) < 59 → κ (some (zi 1)) (zu m 74 35 0))
    (o2 : wr (k : Int) < 59 → (0 ≤ wr ((59 * (i : Int)) + (k : Int)) ∧ wr ((59 * (i : Int)) + (k : Int)) < 118))
    (o3 : wr (k : Int) < 59 → (0 ≤ wr (k : Int) ∧ wr (k : Int) < 59))
    (o4 : wr (k : Int) < 59 → T (D + 2) 288 (40, [(0, zr 74), (1, zi (i : Int)), (2, zi ((k : Int) + 1))], [], (zu m 75 ((wr (k : Int)).toNat) (m 106 ((wr ((59 * (i : Int)) + (k : Int))).toNat)))) κ) :
    T (D + 2) 288 (40, lo, [], m) κ :=
  zkeep hT hlo (hT.1 [(40, [0, 1, 2])] 6 (D + 2) 288 _ κ (And.intro (fun a1 => (And.intro trivial (hT.1 [(40, [0, 1, 2])] 6 (D + 2) 288 (74, [(0, zr 74), (1, zi (i : Int)), (2, zi (k : Int))], [], (zu m 74 35 0)) _ (And.intro (z_b01L rfl) (o1 a1))))) (fun a2 => (hT.1 [(40, [0, 1, 2])] 6 (D + 2) 288 (51, [(0, zr 74), (1, zi (i : Int)), (2, zi (k : Int))], [zi (k : Int), zr 75], m) _ (hT.1 [(40, [0, 1, 2])] 6 (D + 2) 288 (60, [(0, zr 74), (1, zi (i : Int)), (2, zi (k : Int))], [zi (k : Int), zi (59 * (i : Int)), zr 106, zi (k : Int), zr 75], m) _ (And.intro (o2 (Classical.byContradiction a2)) (And.intro (And.intro (o3 (Classical.byContradiction a2)) trivial) (o4 (Classical.byContradiction a2)))))))))
theorem zb288_40 (hT : zRules T) {D : Nat} {κ : Option zA → zM → Prop} {m : zM} {i : Nat} {k : Nat} {lo : zL} (hlo : z_keep [0, 1, 2] lo = [(0, zr 74), (1, zi (i : Int)), (2, zi (k : Int))])  (hB : zB m) (h_i : i ≤ 1) (h_k : k ≤ 59) 
    (k1 : ¬ (k : Int) < 59 → zB (zu m 74 35 0) → κ (some (zi 1)) (zu m 74 35 0))
    (k2 : (k : Int) < 59 → T (D + 2) 288 (40, [(0, zr 74), (1, zi (i : Int)), (2, zi ((k : Int) + 1))], [], (zu m 75 k (m 106 (59 * i + k)))) κ) :
    T (D + 2) 288 (40, lo, [], m) κ := by
  have he0 : wr (k : Int) = (k : Int) := wr_id (by omega) (by omega)
  have he1 : wr ((59 * (i : Int)) + (k : Int)) = ((59 * (i : Int)) + (k : Int)) := wr_id (by omega) (by omega)
  have he2 : ((59 * (i : Int)) + (k : Int)).toNat = 59 * i + k := by omega
  have he3 : (k : Int).toNat = k := by omega
  have key := @zb288_40r T hT D κ m i k lo hlo
  simp only [he0, he1, he2, he3, Int.toNat_natCast] at key
  exact key
    (fun x0 => k1 x0 (zB_u hB (show 0 ≤ 0 ∧ 0 ≤ 12 from ⟨by omega, by omega⟩)))
    (fun x0 => by refine ⟨?_, ?_⟩ <;> omega)
    (fun x0 => by refine ⟨?_, ?_⟩ <;> omega)
    k2
theorem zb8_0r (hT : zRules T) {D : Nat} {κ : Option zA → zM → Prop} {m : zM} 
    (o1 : T (D + 1) 8 (4, [(0, zr 25), (1, zi 0), (2, zi 0)], [], m) κ) :
    T (D + 1) 8 (0, [(0, zr 25)], [], m) κ :=
  hT.1 [(4, [0, 1, 2])] 6 (D + 1) 8 _ κ (o1)
theorem zb8_0 (hT : zRules T) {D : Nat} {κ : Option zA → zM → Prop} {m : zM}  (hB : zB m) 
    (k1 : T (D + 1) 8 (4, [(0, zr 25), (1, zi 0), (2, zi 0)], [], m) κ) :
    T (D + 1) 8 (0, [(0, zr 25)], [], m) κ := by
  exact zb8_0r hT
    k1
theorem zb8_4r (hT : zRules T) {D : Nat} {κ : Option zA → zM → Prop} {m : zM} {s : Int} {i : Nat} {lo : zL} (hlo : z_keep [0, 1, 2] lo = [(0, zr 25), (1, zi s), (2, zi (i : Int))]) 
    (o1 : ¬ wr (i : Int) < wr (m 25 2) → κ (some (zi (wr s))) m)
    (o2 : wr (i : Int) < wr (m 25 2) → (0 ≤ wr (i : Int) ∧ wr (i : Int) < 20))
    (o3 : wr (i : Int) < wr (m 25 2) → T (D + 1) 8 (4, [(0, zr 25), (1, zi (s + (m 26 ((wr (i : Int)).toNat)))), (2, zi ((i : Int) + 1))], [], m) κ) :
    T (D + 1) 8 (4, lo, [], m) κ :=
  zkeep hT hlo (hT.1 [(4, [0, 1, 2])] 6 (D + 1) 8 _ κ (And.intro (fun a1 => (o1 a1)) (fun a2 => (hT.1 [(4, [0, 1, 2])] 6 (D + 1) 8 (14, [(0, zr 25), (1, zi s), (2, zi (i : Int))], [zr 25, zi s], m) _ (And.intro (o2 (Classical.byContradiction a2)) (hT.1 [(4, [0, 1, 2])] 6 (D + 1) 8 (24, [(0, zr 25), (1, zi (s + (m 26 ((wr (i : Int)).toNat)))), (2, zi ((i : Int) + 1))], [], m) _ (o3 (Classical.byContradiction a2))))))))
theorem zb8_4 (hT : zRules T) {D : Nat} {κ : Option zA → zM → Prop} {m : zM} {s : Int} {i : Nat} {lo : zL} (hlo : z_keep [0, 1, 2] lo = [(0, zr 25), (1, zi s), (2, zi (i : Int))])  (hB : zB m) (h_s : 0 ≤ s ∧ s ≤ 2160) (h_i : i ≤ 20) 
    (k1 : ¬ (i : Int) < (m 25 2) → κ (some (zi s)) m)
    (k2 : (i : Int) < (m 25 2) → T (D + 1) 8 (4, [(0, zr 25), (1, zi (s + (m 26 i))), (2, zi ((i : Int) + 1))], [], m) κ) :
    T (D + 1) 8 (4, lo, [], m) κ := by
  have hb2 : 0 ≤ (m 25 2) ∧ (m 25 2) ≤ 20 := hB 25 2
  have hb3 : 0 ≤ (m 26 i) ∧ (m 26 i) ≤ 108 := hB 26 i
  have he0 : wr (i : Int) = (i : Int) := wr_id (by omega) (by omega)
  have he1 : wr (m 25 2) = (m 25 2) := wr_id (by omega) (by omega)
  have he2 : (i : Int).toNat = i := by omega
  have he3 : wr s = s := wr_id (by omega) (by omega)
  have key := @zb8_4r T hT D κ m s i lo hlo
  simp only [he0, he1, he2, he3, Int.toNat_natCast] at key
  exact key
    k1
    (fun x0 => by refine ⟨?_, ?_⟩ <;> omega)
    k2
theorem zb289_0r (hT : zRules T) {D : Nat} {κ : Option zA → zM → Prop} {m : zM} 
    (o1 : T (D + 1) 289 (4, [(0, zr 74), (1, zi 0), (2, zi 0)], [], m) κ) :
    T (D + 1) 289 (0, [(0, zr 74)], [], m) κ :=
  hT.1 [(4, [0, 1, 2])] 6 (D + 1) 289 _ κ (o1)
theorem zb289_0 (hT : zRules T) {D : Nat} {κ : Option zA → zM → Prop} {m : zM}  (hB : zB m) 
    (k1 : T (D + 1) 289 (4, [(0, zr 74), (1, zi 0), (2, zi 0)], [], m) κ) :
    T (D + 1) 289 (0, [(0, zr 74)], [], m) κ := by
  exact zb289_0r hT
    k1
theorem zb289_4r (hT : zRules T) {D : Nat} {κ : Option zA → zM → Prop} {m : zM} {s : Int} {i : Nat} {lo : zL} (hlo : z_keep [0, 1, 2] lo = [(0, zr 74), (1, zi s), (2, zi (i : Int))]) 
    (o1 : ¬ wr (i : Int) < wr (m 75 56) → κ (some (zi (wr s))) m)
    (o2 : wr (i : Int) < wr (m 75 56) → (0 ≤ wr (36 + (i : Int)) ∧ wr (36 + (i : Int)) < 59))
    (o3 : wr (i : Int) < wr (m 75 56) → T (D + 1) 289 (4, [(0, zr 74), (1, zi (s + (m 75 ((wr (36 + (i : Int))).toNat)))), (2, zi ((i : Int) + 1))], [], m) κ) :
    T (D + 1) 289 (4, lo, [], m) κ :=
  zkeep hT hlo (hT.1 [(4, [0, 1, 2])] 6 (D + 1) 289 _ κ (And.intro (z_ixL rfl) (And.intro (fun a1 => (hT.1 [(4, [0, 1, 2])] 6 (D + 1) 289 (33, [(0, zr 74), (1, zi s), (2, zi (i : Int))], [], m) _ (o1 a1))) (fun a2 => (hT.1 [(4, [0, 1, 2])] 6 (D + 1) 289 (15, [(0, zr 74), (1, zi s), (2, zi (i : Int))], [], m) _ (hT.1 [(4, [0, 1, 2])] 6 (D + 1) 289 (24, [(0, zr 74), (1, zi s), (2, zi (i : Int))], [zi (36 + (i : Int)), zr 75, zi s], m) _ (And.intro (o2 (Classical.byContradiction a2)) (o3 (Classical.byContradiction a2)))))))))
theorem zb289_4 (hT : zRules T) {D : Nat} {κ : Option zA → zM → Prop} {m : zM} {s : Int} {i : Nat} {lo : zL} (hlo : z_keep [0, 1, 2] lo = [(0, zr 74), (1, zi s), (2, zi (i : Int))])  (hB : zB m) (h_s : 0 ≤ s ∧ s ≤ 2160) (h_i : i ≤ 20) 
    (k1 : ¬ (i : Int) < (m 75 56) → κ (some (zi s)) m)
    (k2 : (i : Int) < (m 75 56) → T (D + 1) 289 (4, [(0, zr 74), (1, zi (s + (m 75 (i + 36)))), (2, zi ((i : Int) + 1))], [], m) κ) :
    T (D + 1) 289 (4, lo, [], m) κ := by
  have hb2 : 0 ≤ (m 75 56) ∧ (m 75 56) ≤ 20 := hB 75 56
  have hb3 : 0 ≤ (m 75 (i + 36)) ∧ (m 75 (i + 36)) ≤ 108 := zSg hB 75 36 57 0 108 rfl (i + 36) (by omega) (by omega)
  have he0 : wr (i : Int) = (i : Int) := wr_id (by omega) (by omega)
  have he1 : wr (m 75 56) = (m 75 56) := wr_id (by omega) (by omega)
  have he2 : wr (36 + (i : Int)) = (36 + (i : Int)) := wr_id (by omega) (by omega)
  have he3 : (36 + (i : Int)).toNat = i + 36 := by omega
  have he4 : wr s = s := wr_id (by omega) (by omega)
  have key := @zb289_4r T hT D κ m s i lo hlo
  simp only [he0, he1, he2, he3, he4, Int.toNat_natCast] at key
  exact key
    k1
    (fun x0 => by refine ⟨?_, ?_⟩ <;> omega)
    k2
theorem zb161_0r (hT : zRules T) {D : Nat} {κ : Option zA → zM → Prop} {m : zM} {w : Int} 
    (o1 : wr w = 0 → κ (some (zi (wr (m 4 4)))) m)
    (o2 : ¬ wr w = 0 → wr w = 1 → κ (some (zi (wr (m 17 0)))) m)
    (o3 : ¬ wr w = 0 → ¬ wr w = 1 → wr w = 2 → κ (some (zi (wr (m 17 1)))) m)
    (o4 : ¬ wr w = 0 → ¬ wr w = 1 → ¬ wr w = 2 → wr w = 3 → κ (some (zi (wr (m 17 11)))) m)
    (o5 : ¬ wr w = 0 → ¬ wr w = 1 → ¬ wr w = 2 → ¬ wr w = 3 → wr w = 4 → κ (some (zi (wr (m 25 2)))) m)
    (o6 : ¬ wr w = 0 → ¬ wr w = 1 → ¬ wr w = 2 → ¬ wr w = 3 → ¬ wr w = 4 → wr w = 5 → T (D + 1) 8 (0, [(0, zr 25)], [], m) (fun r m1 => T (D + 2) 161 (111, [(0, zr 1), (1, zi w)], r.toList ++ [], m1) κ))
    (o7 : ¬ wr w = 0 → ¬ wr w = 1 → ¬ wr w = 2 → ¬ wr w = 3 → ¬ wr w = 4 → ¬ wr w = 5 → wr w = 6 → κ (some (zi (wr (m 17 10)))) m)
    (o8 : ¬ wr w = 0 → ¬ wr w = 1 → ¬ wr w = 2 → ¬ wr w = 3 → ¬ wr w = 4 → ¬ wr w = 5 → ¬ wr w = 6 → wr w = 7 → κ (some (zi (wr (m 59 4)))) m)
    (o9 : ¬ wr w = 0 → ¬ wr w = 1 → ¬ wr w = 2 → ¬ wr w = 3 → ¬ wr w = 4 → ¬ wr w = 5 → ¬ wr w = 6 → ¬ wr w = 7 → wr w = 8 → κ (some (zi (wr (m 64 2)))) m)
    (o10 : ¬ wr w = 0 → ¬ wr w = 1 → ¬ wr w = 2 → ¬ wr w = 3 → ¬ wr w = 4 → ¬ wr w = 5 → ¬ wr w = 6 → ¬ wr w = 7 → ¬ wr w = 8 → wr w = 9 → κ (some (zi (wr (m 28 5)))) m)
    (o11 : ¬ wr w = 0 → ¬ wr w = 1 → ¬ wr w = 2 → ¬ wr w = 3 → ¬ wr w = 4 → ¬ wr w = 5 → ¬ wr w = 6 → ¬ wr w = 7 → ¬ wr w = 8 → ¬ wr w = 9 → wr w = 10 → κ (some (zi (wr (m 72 1)))) m)
    (o12 : ¬ wr w = 0 → ¬ wr w = 1 → ¬ wr w = 2 → ¬ wr w = 3 → ¬ wr w = 4 → ¬ wr w = 5 → ¬ wr w = 6 → ¬ wr w = 7 → ¬ wr w = 8 → ¬ wr w = 9 → ¬ wr w = 10 → wr w = 11 → κ (some (zi (wr (m 2 1)))) m)
    (o13 : ¬ wr w = 0 → ¬ wr w = 1 → ¬ wr w = 2 → ¬ wr w = 3 → ¬ wr w = 4 → ¬ wr w = 5 → ¬ wr w = 6 → ¬ wr w = 7 → ¬ wr w = 8 → ¬ wr w = 9 → ¬ wr w = 10 → ¬ wr w = 11 → κ (some (zi (-100000))) m) :
    T (D + 2) 161 (0, [(0, zr 1), (1, zi w)], [], m) κ :=
  hT.1 [] 6 (D + 2) 161 _ κ (And.intro (fun a1 => (o1 a1)) (fun a2 => (And.intro (fun a3 => (o2 a2 a3)) (fun a4 => (And.intro (fun a5 => (o3 a2 a4 a5)) (fun a6 => (And.intro (fun a7 => (o4 a2 a4 a6 a7)) (fun a8 => (And.intro (fun a9 => (o5 a2 a4 a6 a8 a9)) (fun a10 => (And.intro (fun a11 => (o6 a2 a4 a6 a8 a10 a11)) (fun a12 => (And.intro (fun a13 => (o7 a2 a4 a6 a8 a10 a12 a13)) (fun a14 => (And.intro (fun a15 => (o8 a2 a4 a6 a8 a10 a12 a14 a15)) (fun a16 => (And.intro (fun a17 => (o9 a2 a4 a6 a8 a10 a12 a14 a16 a17)) (fun a18 => (And.intro (fun a19 => (o10 a2 a4 a6 a8 a10 a12 a14 a16 a18 a19)) (fun a20 => (And.intro (fun a21 => (o11 a2 a4 a6 a8 a10 a12 a14 a16 a18 a20 a21)) (fun a22 => (And.intro (fun a23 => (o12 a2 a4 a6 a8 a10 a12 a14 a16 a18 a20 a22 a23)) (fun a24 => (o13 a2 a4 a6 a8 a10 a12 a14 a16 a18 a20 a22 a24)))))))))))))))))))))))))
theorem zb161_0 (hT : zRules T) {D : Nat} {κ : Option zA → zM → Prop} {m : zM} {w : Int}  (hB : zB m) (h_w : (-2147483648) ≤ w ∧ w ≤ 2147483647) 
    (k1 : w = 0 → κ (some (zi (m 4 4))) m)
    (k2 : ¬ w = 0 → w = 1 → κ (some (zi (m 17 0))) m)
    (k3 : ¬ w = 0 → ¬ w = 1 → w = 2 → κ (some (zi (m 17 1))) m)
    (k4 : ¬ w = 0 → ¬ w = 1 → ¬ w = 2 → w = 3 → κ (some (zi (m 17 11))) m)
    (k5 : ¬ w = 0 → ¬ w = 1 → ¬ w = 2 → ¬ w = 3 → w = 4 → κ (some (zi (m 25 2))) m)
    (k6 : ¬ w = 0 → ¬ w = 1 → ¬ w = 2 → ¬ w = 3 → ¬ w = 4 → w = 5 → T (D + 1) 8 (0, [(0, zr 25)], [], m) (fun r m1 => T (D + 2) 161 (111, [(0, zr 1), (1, zi w)], r.toList ++ [], m1) κ))
    (k7 : ¬ w = 0 → ¬ w = 1 → ¬ w = 2 → ¬ w = 3 → ¬ w = 4 → ¬ w = 5 → w = 6 → κ (some (zi (wr (m 17 10)))) m)
    (k8 : ¬ w = 0 → ¬ w = 1 → ¬ w = 2 → ¬ w = 3 → ¬ w = 4 → ¬ w = 5 → ¬ w = 6 → w = 7 → κ (some (zi (m 59 4))) m)
    (k9 : ¬ w = 0 → ¬ w = 1 → ¬ w = 2 → ¬ w = 3 → ¬ w = 4 → ¬ w = 5 → ¬ w = 6 → ¬ w = 7 → w = 8 → κ (some (zi (m 64 2))) m)
    (k10 : ¬ w = 0 → ¬ w = 1 → ¬ w = 2 → ¬ w = 3 → ¬ w = 4 → ¬ w = 5 → ¬ w = 6 → ¬ w = 7 → ¬ w = 8 → w = 9 → κ (some (zi (m 28 5))) m)
    (k11 : ¬ w = 0 → ¬ w = 1 → ¬ w = 2 → ¬ w = 3 → ¬ w = 4 → ¬ w = 5 → ¬ w = 6 → ¬ w = 7 → ¬ w = 8 → ¬ w = 9 → w = 10 → κ (some (zi (m 72 1))) m)
    (k12 : ¬ w = 0 → ¬ w = 1 → ¬ w = 2 → ¬ w = 3 → ¬ w = 4 → ¬ w = 5 → ¬ w = 6 → ¬ w = 7 → ¬ w = 8 → ¬ w = 9 → ¬ w = 10 → w = 11 → κ (some (zi (m 2 1))) m)
    (k13 : ¬ w = 0 → ¬ w = 1 → ¬ w = 2 → ¬ w = 3 → ¬ w = 4 → ¬ w = 5 → ¬ w = 6 → ¬ w = 7 → ¬ w = 8 → ¬ w = 9 → ¬ w = 10 → ¬ w = 11 → κ (some (zi (-100000))) m) :
    T (D + 2) 161 (0, [(0, zr 1), (1, zi w)], [], m) κ := by
  have hb1 : 0 ≤ (m 4 4) ∧ (m 4 4) ≤ 4 := hB 4 4
  have hb2 : 0 ≤ (m 17 0) ∧ (m 17 0) ≤ 6 := hB 17 0
  have hb3 : 0 ≤ (m 17 1) ∧ (m 17 1) ≤ 8 := hB 17 1
  have hb4 : 0 ≤ (m 17 11) ∧ (m 17 11) ≤ 400000 := hB 17 11
  have hb5 : 0 ≤ (m 25 2) ∧ (m 25 2) ≤ 20 := hB 25 2
  have hb6 : (-2147483648) ≤ wr (m 17 10) ∧ wr (m 17 10) ≤ 2147483647 := wrB (m 17 10)
  have hb7 : 0 ≤ (m 59 4) ∧ (m 59 4) ≤ 12 := hB 59 4
  have hb8 : 0 ≤ (m 64 2) ∧ (m 64 2) ≤ 7 := hB 64 2
  have hb9 : 0 ≤ (m 28 5) ∧ (m 28 5) ≤ 12 := hB 28 5
  have hb10 : 0 ≤ (m 72 1) ∧ (m 72 1) ≤ 26 := hB 72 1
  have hb11 : 0 ≤ (m 2 1) ∧ (m 2 1) ≤ 80 := hB 2 1
  have he0 : wr w = w := wr_id (by omega) (by omega)
  have he1 : wr (m 4 4) = (m 4 4) := wr_id (by omega) (by omega)
  have he2 : wr (m 17 0) = (m 17 0) := wr_id (by omega) (by omega)
  have he3 : wr (m 17 1) = (m 17 1) := wr_id (by omega) (by omega)
  have he4 : wr (m 17 11) = (m 17 11) := wr_id (by omega) (by omega)
  have he5 : wr (m 25 2) = (m 25 2) := wr_id (by omega) (by omega)
  have he6 : wr (m 59 4) = (m 59 4) := wr_id (by omega) (by omega)
  have he7 : wr (m 64 2) = (m 64 2) := wr_id (by omega) (by omega)
  have he8 : wr (m 28 5) = (m 28 5) := wr_id (by omega) (by omega)
  have he9 : wr (m 72 1) = (m 72 1) := wr_id (by omega) (by omega)
  have he10 : wr (m 2 1) = (m 2 1) := wr_id (by omega) (by omega)
  have key := @zb161_0r T hT D κ m w
  simp only [he0, he1, he2, he3, he4, he5, he6, he7, he8, he9, he10, Int.toNat_natCast] at key
  exact key
    k1
    k2
    k3
    k4
    k5
    k6
    k7
    k8
    k9
    k10
    k11
    k12
    k13
theorem zb161_111r (hT : zRules T) {D : Nat} {κ : Option zA → zM → Prop} {m : zM} {v : Int} {lo : zL} (hlo : z_keep [] lo = []) 
    (o1 : κ (some (zi (wr v))) m) :
    T (D + 2) 161 (111, lo, [zi v], m) κ :=
  zkeep hT hlo (hT.1 [] 6 (D + 2) 161 _ κ (o1))
theorem zb161_111 (hT : zRules T) {D : Nat} {κ : Option zA → zM → Prop} {m : zM} {v : Int} {lo : zL} (hlo : z_keep [] lo = [])  (h_v : 0 ≤ v ∧ v ≤ 2160) 
    (k1 : κ (some (zi v)) m) :
    T (D + 2) 161 (111, lo, [zi v], m) κ := by
  have he0 : wr v = v := wr_id (by omega) (by omega)
  have key := @zb161_111r T hT D κ m v lo hlo
  simp only [he0, Int.toNat_natCast] at key
  exact key
    k1
theorem zb290_0r (hT : zRules T) {D : Nat} {κ : Option zA → zM → Prop} {m : zM} {w : Int} 
    (o1 : wr w = 0 → κ (some (zi (wr (m 74 1)))) (zu m 74 12 0))
    (o2 : ¬ wr w = 0 → wr w = 1 → κ (some (zi (wr (m 74 4)))) (zu m 74 12 0))
    (o3 : ¬ wr w = 0 → ¬ wr w = 1 → wr w = 2 → κ (some (zi (wr (m 74 6)))) (zu m 74 12 0))
    (o4 : ¬ wr w = 0 → ¬ wr w = 1 → ¬ wr w = 2 → wr w = 3 → κ (some (zi (wr (m 75 57)))) (zu m 74 12 0))
    (o5 : ¬ wr w = 0 → ¬ wr w = 1 → ¬ wr w = 2 → ¬ wr w = 3 → wr w = 4 → κ (some (zi (wr (m 75 56)))) (zu m 74 12 0))
    (o6 : ¬ wr w = 0 → ¬ wr w = 1 → ¬ wr w = 2 → ¬ wr w = 3 → ¬ wr w = 4 → wr w = 5 → T (D + 1) 289 (0, [(0, zr 74)], [], (zu m 74 12 0)) (fun r m1 => T (D + 2) 290 (103, [(0, zr 74), (1, zi w)], r.toList ++ [], m1) κ))
    (o7 : ¬ wr w = 0 → ¬ wr w = 1 → ¬ wr w = 2 → ¬ wr w = 3 → ¬ wr w = 4 → ¬ wr w = 5 → wr w = 6 → κ (some (zi (wr (m 75 58)))) (zu m 74 12 0))
    (o8 : ¬ wr w = 0 → ¬ wr w = 1 → ¬ wr w = 2 → ¬ wr w = 3 → ¬ wr w = 4 → ¬ wr w = 5 → ¬ wr w = 6 → wr w = 7 → κ (some (zi (wr (m 74 52)))) (zu m 74 12 0))
    (o9 : ¬ wr w = 0 → ¬ wr w = 1 → ¬ wr w = 2 → ¬ wr w = 3 → ¬ wr w = 4 → ¬ wr w = 5 → ¬ wr w = 6 → ¬ wr w = 7 → wr w = 8 → κ (some (zi (wr (m 74 54)))) (zu m 74 12 0))
    (o10 : ¬ wr w = 0 → ¬ wr w = 1 → ¬ wr w = 2 → ¬ wr w = 3 → ¬ wr w = 4 → ¬ wr w = 5 → ¬ wr w = 6 → ¬ wr w = 7 → ¬ wr w = 8 → wr w = 9 → κ (some (zi (wr (m 74 35)))) (zu m 74 12 0))
    (o11 : ¬ wr w = 0 → ¬ wr w = 1 → ¬ wr w = 2 → ¬ wr w = 3 → ¬ wr w = 4 → ¬ wr w = 5 → ¬ wr w = 6 → ¬ wr w = 7 → ¬ wr w = 8 → ¬ wr w = 9 → wr w = 10 → κ (some (zi (wr (m 74 11)))) (zu m 74 12 0))
    (o12 : ¬ wr w = 0 → ¬ wr w = 1 → ¬ wr w = 2 → ¬ wr w = 3 → ¬ wr w = 4 → ¬ wr w = 5 → ¬ wr w = 6 → ¬ wr w = 7 → ¬ wr w = 8 → ¬ wr w = 9 → ¬ wr w = 10 → wr w = 11 → κ (some (zi (wr (m 74 9)))) (zu m 74 12 0))
    (o13 : ¬ wr w = 0 → ¬ wr w = 1 → ¬ wr w = 2 → ¬ wr w = 3 → ¬ wr w = 4 → ¬ wr w = 5 → ¬ wr w = 6 → ¬ wr w = 7 → ¬ wr w = 8 → ¬ wr w = 9 → ¬ wr w = 10 → ¬ wr w = 11 → κ (some (zi (-100000))) (zu m 74 12 0)) :
    T (D + 2) 290 (0, [(0, zr 74), (1, zi w)], [], m) κ :=
  hT.1 [] 6 (D + 2) 290 _ κ (And.intro trivial (And.intro (fun a1 => (hT.1 [] 6 (D + 2) 290 (69, [(0, zr 74), (1, zi w)], [zr 74], (zu m 74 12 0)) _ (o1 a1))) (fun a2 => (And.intro (fun a3 => (hT.1 [] 6 (D + 2) 290 (74, [(0, zr 74), (1, zi w)], [zr 74], (zu m 74 12 0)) _ (o2 a2 a3))) (fun a4 => (And.intro (fun a5 => (hT.1 [] 6 (D + 2) 290 (79, [(0, zr 74), (1, zi w)], [zr 74], (zu m 74 12 0)) _ (o3 a2 a4 a5))) (fun a6 => (And.intro (fun a7 => (hT.1 [] 6 (D + 2) 290 (84, [(0, zr 74), (1, zi w)], [zr 74], (zu m 74 12 0)) _ (And.intro (z_ixL rfl) (o4 a2 a4 a6 a7)))) (fun a8 => (And.intro (fun a9 => (hT.1 [] 6 (D + 2) 290 (92, [(0, zr 74), (1, zi w)], [zr 74], (zu m 74 12 0)) _ (And.intro (z_ixL rfl) (o5 a2 a4 a6 a8 a9)))) (fun a10 => (And.intro (fun a11 => (hT.1 [] 6 (D + 2) 290 (100, [(0, zr 74), (1, zi w)], [zr 74], (zu m 74 12 0)) _ (o6 a2 a4 a6 a8 a10 a11))) (fun a12 => (And.intro (fun a13 => (hT.1 [] 6 (D + 2) 290 (105, [(0, zr 74), (1, zi w)], [zr 74], (zu m 74 12 0)) _ (And.intro (z_ixL rfl) (o7 a2 a4 a6 a8 a10 a12 a13)))) (fun a14 => (And.intro (fun a15 => (hT.1 [] 6 (D + 2) 290 (113, [(0, zr 74), (1, zi w)], [zr 74], (zu m 74 12 0)) _ (o8 a2 a4 a6 a8 a10 a12 a14 a15))) (fun a16 => (And.intro (fun a17 => (hT.1 [] 6 (D + 2) 290 (118, [(0, zr 74), (1, zi w)], [zr 74], (zu m 74 12 0)) _ (o9 a2 a4 a6 a8 a10 a12 a14 a16 a17))) (fun a18 => (And.intro (fun a19 => (hT.1 [] 6 (D + 2) 290 (123, [(0, zr 74), (1, zi w)], [zr 74], (zu m 74 12 0)) _ (o10 a2 a4 a6 a8 a10 a12 a14 a16 a18 a19))) (fun a20 => (And.intro (fun a21 => (hT.1 [] 6 (D + 2) 290 (128, [(0, zr 74), (1, zi w)], [zr 74], (zu m 74 12 0)) _ (o11 a2 a4 a6 a8 a10 a12 a14 a16 a18 a20 a21))) (fun a22 => (And.intro (fun a23 => (hT.1 [] 6 (D + 2) 290 (133, [(0, zr 74), (1, zi w)], [zr 74], (zu m 74 12 0)) _ (o12 a2 a4 a6 a8 a10 a12 a14 a16 a18 a20 a22 a23))) (fun a24 => (hT.1 [] 6 (D + 2) 290 (140, [(0, zr 74), (1, zi w)], [zi (-100000)], (zu m 74 12 0)) _ (o13 a2 a4 a6 a8 a10 a12 a14 a16 a18 a20 a22 a24)))))))))))))))))))))))))))
theorem zb290_0 (hT : zRules T) {D : Nat} {κ : Option zA → zM → Prop} {m : zM} {w : Int}  (hB : zB m) (h_w : (-2147483648) ≤ w ∧ w ≤ 2147483647) 
    (k1 : w = 0 → zB (zu m 74 12 0) → κ (some (zi (m 74 1))) (zu m 74 12 0))
    (k2 : ¬ w = 0 → w = 1 → zB (zu m 74 12 0) → κ (some (zi (m 74 4))) (zu m 74 12 0))
    (k3 : ¬ w = 0 → ¬ w = 1 → w = 2 → zB (zu m 74 12 0) → κ (some (zi (m 74 6))) (zu m 74 12 0))
    (k4 : ¬ w = 0 → ¬ w = 1 → ¬ w = 2 → w = 3 → zB (zu m 74 12 0) → κ (some (zi (m 75 57))) (zu m 74 12 0))
    (k5 : ¬ w = 0 → ¬ w = 1 → ¬ w = 2 → ¬ w = 3 → w = 4 → zB (zu m 74 12 0) → κ (some (zi (m 75 56))) (zu m 74 12 0))
    (k6 : ¬ w = 0 → ¬ w = 1 → ¬ w = 2 → ¬ w = 3 → ¬ w = 4 → w = 5 → zB (zu m 74 12 0) → T (D + 1) 289 (0, [(0, zr 74)], [], (zu m 74 12 0)) (fun r m1 => T (D + 2) 290 (103, [(0, zr 74), (1, zi w)], r.toList ++ [], m1) κ))
    (k7 : ¬ w = 0 → ¬ w = 1 → ¬ w = 2 → ¬ w = 3 → ¬ w = 4 → ¬ w = 5 → w = 6 → zB (zu m 74 12 0) → κ (some (zi (wr (m 75 58)))) (zu m 74 12 0))
    (k8 : ¬ w = 0 → ¬ w = 1 → ¬ w = 2 → ¬ w = 3 → ¬ w = 4 → ¬ w = 5 → ¬ w = 6 → w = 7 → zB (zu m 74 12 0) → κ (some (zi (m 74 52))) (zu m 74 12 0))
    (k9 : ¬ w = 0 → ¬ w = 1 → ¬ w = 2 → ¬ w = 3 → ¬ w = 4 → ¬ w = 5 → ¬ w = 6 → ¬ w = 7 → w = 8 → zB (zu m 74 12 0) → κ (some (zi (m 74 54))) (zu m 74 12 0))
    (k10 : ¬ w = 0 → ¬ w = 1 → ¬ w = 2 → ¬ w = 3 → ¬ w = 4 → ¬ w = 5 → ¬ w = 6 → ¬ w = 7 → ¬ w = 8 → w = 9 → zB (zu m 74 12 0) → κ (some (zi (m 74 35))) (zu m 74 12 0))
    (k11 : ¬ w = 0 → ¬ w = 1 → ¬ w = 2 → ¬ w = 3 → ¬ w = 4 → ¬ w = 5 → ¬ w = 6 → ¬ w = 7 → ¬ w = 8 → ¬ w = 9 → w = 10 → zB (zu m 74 12 0) → κ (some (zi (m 74 11))) (zu m 74 12 0))
    (k12 : ¬ w = 0 → ¬ w = 1 → ¬ w = 2 → ¬ w = 3 → ¬ w = 4 → ¬ w = 5 → ¬ w = 6 → ¬ w = 7 → ¬ w = 8 → ¬ w = 9 → ¬ w = 10 → w = 11 → zB (zu m 74 12 0) → κ (some (zi (m 74 9))) (zu m 74 12 0))
    (k13 : ¬ w = 0 → ¬ w = 1 → ¬ w = 2 → ¬ w = 3 → ¬ w = 4 → ¬ w = 5 → ¬ w = 6 → ¬ w = 7 → ¬ w = 8 → ¬ w = 9 → ¬ w = 10 → ¬ w = 11 → zB (zu m 74 12 0) → κ (some (zi (-100000))) (zu m 74 12 0)) :
    T (D + 2) 290 (0, [(0, zr 74), (1, zi w)], [], m) κ := by
  have hb1 : 0 ≤ (m 74 1) ∧ (m 74 1) ≤ 4 := hB 74 1
  have hb2 : 0 ≤ (m 74 4) ∧ (m 74 4) ≤ 6 := hB 74 4
  have hb3 : 0 ≤ (m 74 6) ∧ (m 74 6) ≤ 8 := hB 74 6
  have hb4 : 0 ≤ (m 75 57) ∧ (m 75 57) ≤ 400000 := hB 75 57
  have hb5 : 0 ≤ (m 75 56) ∧ (m 75 56) ≤ 20 := hB 75 56
  have hb6 : (-2147483648) ≤ wr (m 75 58) ∧ wr (m 75 58) ≤ 2147483647 := wrB (m 75 58)
  have hb7 : 0 ≤ (m 74 52) ∧ (m 74 52) ≤ 12 := hB 74 52
  have hb8 : 0 ≤ (m 74 54) ∧ (m 74 54) ≤ 7 := hB 74 54
  have hb9 : 0 ≤ (m 74 35) ∧ (m 74 35) ≤ 12 := hB 74 35
  have hb10 : 0 ≤ (m 74 11) ∧ (m 74 11) ≤ 32 := hB 74 11
  have hb11 : 0 ≤ (m 74 9) ∧ (m 74 9) ≤ 80 := hB 74 9
  have he0 : wr w = w := wr_id (by omega) (by omega)
  have he1 : wr (m 74 1) = (m 74 1) := wr_id (by omega) (by omega)
  have he2 : wr (m 74 4) = (m 74 4) := wr_id (by omega) (by omega)
  have he3 : wr (m 74 6) = (m 74 6) := wr_id (by omega) (by omega)
  have he4 : wr (m 75 57) = (m 75 57) := wr_id (by omega) (by omega)
  have he5 : wr (m 75 56) = (m 75 56) := wr_id (by omega) (by omega)
  have he6 : wr (m 74 52) = (m 74 52) := wr_id (by omega) (by omega)
  have he7 : wr (m 74 54) = (m 74 54) := wr_id (by omega) (by omega)
  have he8 : wr (m 74 35) = (m 74 35) := wr_id (by omega) (by omega)
  have he9 : wr (m 74 11) = (m 74 11) := wr_id (by omega) (by omega)
  have he10 : wr (m 74 9) = (m 74 9) := wr_id (by omega) (by omega)
  have key := @zb290_0r T hT D κ m w
  simp only [he0, he1, he2, he3, he4, he5, he6, he7, he8, he9, he10, Int.toNat_natCast] at key
  exact key
    (fun x0 => k1 x0 (zB_u hB trivial))
    (fun x0 x1 => k2 x0 x1 (zB_u hB trivial))
    (fun x0 x1 x2 => k3 x0 x1 x2 (zB_u hB trivial))
    (fun x0 x1 x2 x3 => k4 x0 x1 x2 x3 (zB_u hB trivial))
    (fun x0 x1 x2 x3 x4 => k5 x0 x1 x2 x3 x4 (zB_u hB trivial))
    (fun x0 x1 x2 x3 x4 x5 => k6 x0 x1 x2 x3 x4 x5 (zB_u hB trivial))
    (fun x0 x1 x2 x3 x4 x5 x6 => k7 x0 x1 x2 x3 x4 x5 x6 (zB_u hB trivial))
    (fun x0 x1 x2 x3 x4 x5 x6 x7 => k8 x0 x1 x2 x3 x4 x5 x6 x7 (zB_u hB trivial))
    (fun x0 x1 x2 x3 x4 x5 x6 x7 x8 => k9 x0 x1 x2 x3 x4 x5 x6 x7 x8 (zB_u hB trivial))
    (fun x0 x1 x2 x3 x4 x5 x6 x7 x8 x9 => k10 x0 x1 x2 x3 x4 x5 x6 x7 x8 x9 (zB_u hB trivial))
    (fun x0 x1 x2 x3 x4 x5 x6 x7 x8 x9 x10 => k11 x0 x1 x2 x3 x4 x5 x6 x7 x8 x9 x10 (zB_u hB trivial))
    (fun x0 x1 x2 x3 x4 x5 x6 x7 x8 x9 x10 x11 => k12 x0 x1 x2 x3 x4 x5 x6 x7 x8 x9 x10 x11 (zB_u hB trivial))
    (fun x0 x1 x2 x3 x4 x5 x6 x7 x8 x9 x10 x11 => k13 x0 x1 x2 x3 x4 x5 x6 x7 x8 x9 x10 x11 (zB_u hB trivial))
theorem zb290_103r (hT : zRules T) {D : Nat} {κ : Option zA → zM → Prop} {m : zM} {v : Int} {lo : zL} (hlo : z_keep [] lo = []) 
    (o1 : κ (some (zi (wr v))) m) :
    T (D + 2) 290 (103, lo, [zi v], m) κ :=
  zkeep hT hlo (hT.1 [] 6 (D + 2) 290 _ κ (o1))
theorem zb290_103 (hT : zRules T) {D : Nat} {κ : Option zA → zM → Prop} {m : zM} {v : Int} {lo : zL} (hlo : z_keep [] lo = [])  (h_v : 0 ≤ v ∧ v ≤ 2160) 
    (k1 : κ (some (zi v)) m) :
    T (D + 2) 290 (103, lo, [zi v], m) κ := by
  have he0 : wr v = v := wr_id (by omega) (by omega)
  have key := @zb290_103r T hT D κ m v lo hlo
  simp only [he0, Int.toNat_natCast] at key
  exact key
    k1
theorem zb162_0r (hT : zRules T) {D : Nat} {κ : Option zA → zM → Prop} {m : zM} {i : Int} 
    (o1 : wr i < 0 → κ none m)
    (o2 : ¬ wr i < 0 → wr i < wr (m 72 1) → (0 ≤ wr i ∧ wr i < 26))
    (o3 : ¬ wr i < 0 → wr i < wr (m 72 1) → κ (some (zi (wr (m 73 ((wr i).toNat))))) m)
    (o4 : ¬ wr i < 0 → ¬ wr i < wr (m 72 1) → κ none m) :
    T (D + 2) 162 (0, [(0, zr 1), (1, zi i)], [], m) κ :=
  hT.1 [] 6 (D + 2) 162 _ κ (And.intro (fun a1 => (And.intro rfl (o1 a1))) (fun a2 => (hT.1 [] 6 (D + 2) 162 (12, [(0, zr 1), (1, zi i)], [zi (m 72 1), zi i], m) _ (And.intro (fun a3 => (And.intro (o2 a2 a3) (hT.1 [] 6 (D + 2) 162 (35, [(0, zr 1), (1, zi i)], [zi (m 73 ((wr i).toNat))], m) _ (o3 a2 a3)))) (fun a4 => (And.intro rfl (o4 a2 a4)))))))
theorem zb162_0 (hT : zRules T) {D : Nat} {κ : Option zA → zM → Prop} {m : zM} {i : Int}  (hB : zB m) (h_i : (-2147483648) ≤ i ∧ i ≤ 2147483647) 
    (k1 : i < 0 → κ none m)
    (k2 : ¬ i < 0 → i < (m 72 1) → κ (some (zi (wr (m 73 (i.toNat))))) m)
    (k3 : ¬ i < 0 → ¬ i < (m 72 1) → κ none m) :
    T (D + 2) 162 (0, [(0, zr 1), (1, zi i)], [], m) κ := by
  have hb1 : 0 ≤ (m 72 1) ∧ (m 72 1) ≤ 26 := hB 72 1
  have hb2 : (-2147483648) ≤ wr (m 73 (i.toNat)) ∧ wr (m 73 (i.toNat)) ≤ 2147483647 := wrB (m 73 (i.toNat))
  have he0 : wr i = i := wr_id (by omega) (by omega)
  have he1 : wr (m 72 1) = (m 72 1) := wr_id (by omega) (by omega)
  have key := @zb162_0r T hT D κ m i
  simp only [he0, he1, Int.toNat_natCast] at key
  exact key
    k1
    (fun x0 x1 => by refine ⟨?_, ?_⟩ <;> omega)
    k2
    k3
theorem zb291_0r (hT : zRules T) {D : Nat} {κ : Option zA → zM → Prop} {m : zM} {i : Int} 
    (o1 : wr i < 0 → κ (some (zi 0)) (zu (zu m 74 12 0) 74 12 1))
    (o2 : ¬ wr i < 0 → wr ((m 74 11) - 1) < wr i → κ (some (zi 0)) (zu (zu m 74 12 0) 74 12 1))
    (o3 : ¬ wr i < 0 → ¬ wr ((m 74 11) - 1) < wr i → (0 ≤ wr i ∧ wr i < 32))
    (o4 : ¬ wr i < 0 → ¬ wr ((m 74 11) - 1) < wr i → κ (some (zi (wr (m 81 ((wr i).toNat))))) (zu m 74 12 0)) :
    T (D + 2) 291 (0, [(0, zr 74), (1, zi i)], [], m) κ :=
  hT.1 [] 6 (D + 2) 291 _ κ (And.intro trivial (hT.1 [] 6 (D + 2) 291 (8, [(0, zr 74), (1, zi i)], [zr 74, zi 0, zi i], (zu m 74 12 0)) _ (hT.1 [] 6 (D + 1) 186 _ _ (And.intro (fun a1 => (And.intro (z_b01L rfl) (hT.1 [] 6 (D + 2) 291 _ _ (And.intro (fun _ => (hT.1 [] 6 (D + 1) 188 _ _ (And.intro trivial (hT.1 [] 6 (D + 2) 291 _ _ (o1 a1))))) (fun a3 => (a3 (z_litT rfl)).elim))))) (fun a2 => (And.intro (fun a4 => (hT.1 [] 6 (D + 1) 186 (14, [(0, zi i), (1, zi 0), (2, zi ((m 74 11) - 1))], [], (zu m 74 12 0)) _ (And.intro (z_b01L rfl) (hT.1 [] 6 (D + 2) 291 _ _ (And.intro (fun _ => (hT.1 [] 6 (D + 1) 188 _ _ (And.intro trivial (hT.1 [] 6 (D + 2) 291 _ _ (o2 a2 a4))))) (fun a6 => (a6 (z_litT rfl)).elim)))))) (fun a5 => (hT.1 [] 6 (D + 1) 186 (10, [(0, zi i), (1, zi 0), (2, zi ((m 74 11) - 1))], [], (zu m 74 12 0)) _ (And.intro (z_b01L rfl) (hT.1 [] 6 (D + 2) 291 _ _ (And.intro (fun a7 => (z_litF a7 rfl).elim) (fun _ => (And.intro (o3 a2 a5) (hT.1 [] 6 (D + 2) 291 (32, [(0, zr 74), (1, zi i)], [zi (m 81 ((wr i).toNat))], (zu m 74 12 0)) _ (o4 a2 a5)))))))))))))))
theorem zb291_0 (hT : zRules T) {D : Nat} {κ : Option zA → zM → Prop} {m : zM} {i : Int}  (hB : zB m) (h_i : (-2147483648) ≤ i ∧ i ≤ 2147483647) 
    (k1 : i < 0 → zB (zu (zu m 74 12 0) 74 12 1) → κ (some (zi 0)) (zu (zu m 74 12 0) 74 12 1))
    (k2 : ¬ i < 0 → ((m 74 11) - 1) < i → zB (zu (zu m 74 12 0) 74 12 1) → κ (some (zi 0)) (zu (zu m 74 12 0) 74 12 1))
    (k3 : ¬ i < 0 → ¬ ((m 74 11) - 1) < i → zB (zu m 74 12 0) → κ (some (zi (wr (m 81 (i.toNat))))) (zu m 74 12 0)) :
    T (D + 2) 291 (0, [(0, zr 74), (1, zi i)], [], m) κ := by
  have hb1 : 0 ≤ (m 74 11) ∧ (m 74 11) ≤ 32 := hB 74 11
  have hb2 : (-2147483648) ≤ wr (m 81 (i.toNat)) ∧ wr (m 81 (i.toNat)) ≤ 2147483647 := wrB (m 81 (i.toNat))
  have he0 : wr i = i := wr_id (by omega) (by omega)
  have he1 : wr ((m 74 11) - 1) = ((m 74 11) - 1) := wr_id (by omega) (by omega)
  have key := @zb291_0r T hT D κ m i
  simp only [he0, he1, Int.toNat_natCast] at key
  exact key
    (fun x0 => k1 x0 (zB_u (zB_u hB trivial) trivial))
    (fun x0 x1 => k2 x0 x1 (zB_u (zB_u hB trivial) trivial))
    (fun x0 x1 => by refine ⟨?_, ?_⟩ <;> omega)
    (fun x0 x1 => k3 x0 x1 (zB_u hB trivial))
theorem zb130_0r (hT : zRules T) {D : Nat} {κ : Option zA → zM → Prop} {m : zM} {i : Int} 
    (o1 : wr i < 0 → κ none m)
    (o2 : ¬ wr i < 0 → ¬ wr i < wr (m 25 2) → κ none m)
    (o3 : ¬ wr i < 0 → wr i < wr (m 25 2) → (0 ≤ wr i ∧ wr i < 20))
    (o4 : ¬ wr i < 0 → wr i < wr (m 25 2) → κ (some (zi (wr (m 26 ((wr i).toNat))))) m) :
    T (D + 2) 130 (0, [(0, zr 1), (1, zi i)], [], m) κ :=
  hT.1 [] 6 (D + 2) 130 _ κ (hT.1 [] 6 (D + 1) 7 _ _ (And.intro (fun a1 => (And.intro (z_b01L rfl) (hT.1 [] 6 (D + 2) 130 _ _ (And.intro (fun a3 => (z_litF a3 rfl).elim) (fun _ => (And.intro rfl (o1 a1))))))) (fun a2 => (And.intro (fun a4 => (hT.1 [] 6 (D + 1) 7 (16, [(0, zr 25), (1, zi i)], [], m) _ (And.intro (z_b01L rfl) (hT.1 [] 6 (D + 2) 130 _ _ (And.intro (fun a6 => (z_litF a6 rfl).elim) (fun _ => (And.intro rfl (o2 a2 a4)))))))) (fun a5 => (hT.1 [] 6 (D + 1) 7 (12, [(0, zr 25), (1, zi i)], [], m) _ (And.intro (z_b01L rfl) (hT.1 [] 6 (D + 2) 130 _ _ (And.intro (fun _ => (And.intro (o3 a2 (Classical.byContradiction a5)) (hT.1 [] 6 (D + 2) 130 (31, [(0, zr 1), (1, zi i)], [zi (m 26 ((wr i).toNat))], m) _ (o4 a2 (Classical.byContradiction a5))))) (fun a7 => (a7 (z_litT rfl)).elim))))))))))
theorem zb130_0 (hT : zRules T) {D : Nat} {κ : Option zA → zM → Prop} {m : zM} {i : Int}  (hB : zB m) (h_i : (-2147483648) ≤ i ∧ i ≤ 2147483647) 
    (k1 : i < 0 → κ none m)
    (k2 : ¬ i < 0 → ¬ i < (m 25 2) → κ none m)
    (k3 : ¬ i < 0 → i < (m 25 2) → κ (some (zi (m 26 (i.toNat)))) m) :
    T (D + 2) 130 (0, [(0, zr 1), (1, zi i)], [], m) κ := by
  have hb1 : 0 ≤ (m 25 2) ∧ (m 25 2) ≤ 20 := hB 25 2
  have hb2 : 0 ≤ (m 26 (i.toNat)) ∧ (m 26 (i.toNat)) ≤ 108 := hB 26 (i.toNat)
  have he0 : wr i = i := wr_id (by omega) (by omega)
  have he1 : wr (m 25 2) = (m 25 2) := wr_id (by omega) (by omega)
  have he2 : wr (m 26 (i.toNat)) = (m 26 (i.toNat)) := wr_id (by omega) (by omega)
  have key := @zb130_0r T hT D κ m i
  simp only [he0, he1, he2, Int.toNat_natCast] at key
  exact key
    k1
    k2
    (fun x0 x1 => by refine ⟨?_, ?_⟩ <;> omega)
    k3
theorem zb242_0r (hT : zRules T) {D : Nat} {κ : Option zA → zM → Prop} {m : zM} {i : Int} 
    (o1 : wr i < 0 → κ (some (zi 0)) (zu (zu m 74 12 0) 74 12 1))
    (o2 : ¬ wr i < 0 → wr ((m 75 56) - 1) < wr i → κ (some (zi 0)) (zu (zu m 74 12 0) 74 12 1))
    (o3 : ¬ wr i < 0 → ¬ wr ((m 75 56) - 1) < wr i → (0 ≤ wr (36 + i) ∧ wr (36 + i) < 59))
    (o4 : ¬ wr i < 0 → ¬ wr ((m 75 56) - 1) < wr i → κ (some (zi (wr (m 75 ((wr (36 + i)).toNat))))) (zu m 74 12 0)) :
    T (D + 2) 242 (0, [(0, zr 74), (1, zi i)], [], m) κ :=
  hT.1 [] 6 (D + 2) 242 _ κ (And.intro trivial (hT.1 [] 6 (D + 2) 242 (8, [(0, zr 74), (1, zi i)], [zr 74, zi 0, zi i], (zu m 74 12 0)) _ (And.intro (z_ixL rfl) (hT.1 [] 6 (D + 1) 186 _ _ (And.intro (fun a1 => (And.intro (z_b01L rfl) (hT.1 [] 6 (D + 2) 242 _ _ (And.intro (fun _ => (hT.1 [] 6 (D + 1) 188 _ _ (And.intro trivial (hT.1 [] 6 (D + 2) 242 _ _ (o1 a1))))) (fun a3 => (a3 (z_litT rfl)).elim))))) (fun a2 => (And.intro (fun a4 => (hT.1 [] 6 (D + 1) 186 (14, [(0, zi i), (1, zi 0), (2, zi ((m 75 56) - 1))], [], (zu m 74 12 0)) _ (And.intro (z_b01L rfl) (hT.1 [] 6 (D + 2) 242 _ _ (And.intro (fun _ => (hT.1 [] 6 (D + 1) 188 _ _ (And.intro trivial (hT.1 [] 6 (D + 2) 242 _ _ (o2 a2 a4))))) (fun a6 => (a6 (z_litT rfl)).elim)))))) (fun a5 => (hT.1 [] 6 (D + 1) 186 (10, [(0, zi i), (1, zi 0), (2, zi ((m 75 56) - 1))], [], (zu m 74 12 0)) _ (And.intro (z_b01L rfl) (hT.1 [] 6 (D + 2) 242 _ _ (And.intro (fun a7 => (z_litF a7 rfl).elim) (fun _ => (hT.1 [] 6 (D + 2) 242 (30, [(0, zr 74), (1, zi i)], [zi (36 + i), zr 75], (zu m 74 12 0)) _ (And.intro (o3 a2 a5) (o4 a2 a5))))))))))))))))
theorem zb242_0 (hT : zRules T) {D : Nat} {κ : Option zA → zM → Prop} {m : zM} {i : Int}  (hB : zB m) (h_i : (-2147483648) ≤ i ∧ i ≤ 2147483647) 
    (k1 : i < 0 → zB (zu (zu m 74 12 0) 74 12 1) → κ (some (zi 0)) (zu (zu m 74 12 0) 74 12 1))
    (k2 : ¬ i < 0 → ((m 75 56) - 1) < i → zB (zu (zu m 74 12 0) 74 12 1) → κ (some (zi 0)) (zu (zu m 74 12 0) 74 12 1))
    (k3 : ¬ i < 0 → ¬ ((m 75 56) - 1) < i → (0 ≤ wr (36 + i) ∧ wr (36 + i) < 59))
    (k4 : ¬ i < 0 → ¬ ((m 75 56) - 1) < i → zB (zu m 74 12 0) → κ (some (zi (wr (m 75 ((wr (36 + i)).toNat))))) (zu m 74 12 0)) :
    T (D + 2) 242 (0, [(0, zr 74), (1, zi i)], [], m) κ := by
  have hb1 : 0 ≤ (m 75 56) ∧ (m 75 56) ≤ 20 := hB 75 56
  have hb2 : (-2147483648) ≤ wr (36 + i) ∧ wr (36 + i) ≤ 2147483647 := wrB (36 + i)
  have hb3 : (-2147483648) ≤ wr (m 75 ((wr (36 + i)).toNat)) ∧ wr (m 75 ((wr (36 + i)).toNat)) ≤ 2147483647 := wrB (m 75 ((wr (36 + i)).toNat))
  have he0 : wr i = i := wr_id (by omega) (by omega)
  have he1 : wr ((m 75 56) - 1) = ((m 75 56) - 1) := wr_id (by omega) (by omega)
  have key := @zb242_0r T hT D κ m i
  simp only [he0, he1, Int.toNat_natCast] at key
  exact key
    (fun x0 => k1 x0 (zB_u (zB_u hB trivial) trivial))
    (fun x0 x1 => k2 x0 x1 (zB_u (zB_u hB trivial) trivial))
    k3
    (fun x0 x1 => k4 x0 x1 (zB_u hB trivial))
theorem zb10_0r (hT : zRules T) {D : Nat} {κ : Option zA → zM → Prop} {m : zM} {b : Int} 
    (o1 : T (D + 1) 10 (4, [(0, zr 25), (1, zi b), (2, zi 0), (3, zi 0)], [], m) κ) :
    T (D + 1) 10 (0, [(0, zr 25), (1, zi b)], [], m) κ :=
  hT.1 [(4, [0, 1, 2, 3])] 6 (D + 1) 10 _ κ (o1)
theorem zb10_0 (hT : zRules T) {D : Nat} {κ : Option zA → zM → Prop} {m : zM} {b : Int}  (hB : zB m) (h_b : (-2147483648) ≤ b ∧ b ≤ 2147483647) 
    (k1 : T (D + 1) 10 (4, [(0, zr 25), (1, zi b), (2, zi 0), (3, zi 0)], [], m) κ) :
    T (D + 1) 10 (0, [(0, zr 25), (1, zi b)], [], m) κ := by
  exact zb10_0r hT
    k1
theorem zb10_4r (hT : zRules T) {D : Nat} {κ : Option zA → zM → Prop} {m : zM} {b : Int} {l : Nat} {i : Nat} {lo : zL} (hlo : z_keep [0, 1, 2, 3] lo = [(0, zr 25), (1, zi b), (2, zi (l : Int)), (3, zi (i : Int))]) 
    (o1 : ¬ wr (i : Int) < wr (m 25 2) → κ (none) (zu m 25 2 (l : Int)))
    (o2 : wr (i : Int) < wr (m 25 2) → ¬ wr (z_and (z_shr b (i : Int)) 1) = 0 → T (D + 1) 10 (4, [(0, zr 25), (1, zi b), (2, zi (l : Int)), (3, zi ((i : Int) + 1))], [], m) κ)
    (o3 : wr (i : Int) < wr (m 25 2) → wr (z_and (z_shr b (i : Int)) 1) = 0 → (0 ≤ wr (i : Int) ∧ wr (i : Int) < 20))
    (o4 : wr (i : Int) < wr (m 25 2) → wr (z_and (z_shr b (i : Int)) 1) = 0 → (0 ≤ wr (l : Int) ∧ wr (l : Int) < 20))
    (o5 : wr (i : Int) < wr (m 25 2) → wr (z_and (z_shr b (i : Int)) 1) = 0 → T (D + 1) 10 (4, [(0, zr 25), (1, zi b), (2, zi ((l : Int) + 1)), (3, zi ((i : Int) + 1))], [], (zu m 26 ((wr (l : Int)).toNat) (m 26 ((wr (i : Int)).toNat)))) κ) :
    T (D + 1) 10 (4, lo, [], m) κ :=
  zkeep hT hlo (hT.1 [(4, [0, 1, 2, 3])] 6 (D + 1) 10 _ κ (And.intro (fun a1 => (hT.1 [(4, [0, 1, 2, 3])] 6 (D + 1) 10 (43, [(0, zr 25), (1, zi b), (2, zi (l : Int)), (3, zi (i : Int))], [zi (l : Int), zr 25], m) _ (And.intro trivial (o1 a1)))) (fun a2 => (hT.1 [(4, [0, 1, 2, 3])] 6 (D + 1) 10 (14, [(0, zr 25), (1, zi b), (2, zi (l : Int)), (3, zi (i : Int))], [zi (i : Int), zi b], m) _ (And.intro (fun a3 => (o2 (Classical.byContradiction a2) a3)) (fun a4 => (hT.1 [(4, [0, 1, 2, 3])] 6 (D + 1) 10 (24, [(0, zr 25), (1, zi b), (2, zi (l : Int)), (3, zi (i : Int))], [zr 26], m) _ (And.intro (o3 (Classical.byContradiction a2) (Classical.byContradiction a4)) (And.intro (And.intro (o4 (Classical.byContradiction a2) (Classical.byContradiction a4)) trivial) (hT.1 [(4, [0, 1, 2, 3])] 6 (D + 1) 10 (32, [(0, zr 25), (1, zi b), (2, zi (l : Int)), (3, zi (i : Int))], [], (zu m 26 ((wr (l : Int)).toNat) (m 26 ((wr (i : Int)).toNat)))) _ (o5 (Classical.byContradiction a2) (Classical.byContradiction a4))))))))))))
theorem zb10_4 (hT : zRules T) {D : Nat} {κ : Option zA → zM → Prop} {m : zM} {b : Int} {l : Nat} {i : Nat} {lo : zL} (hlo : z_keep [0, 1, 2, 3] lo = [(0, zr 25), (1, zi b), (2, zi (l : Int)), (3, zi (i : Int))])  (hB : zB m) (h_b : (-2147483648) ≤ b ∧ b ≤ 2147483647) (h_l : l ≤ 20) (h_i : i ≤ 20) 
    (k1 : ¬ (i : Int) < (m 25 2) → zB (zu m 25 2 (l : Int)) → κ (none) (zu m 25 2 (l : Int)))
    (k2 : (i : Int) < (m 25 2) → ¬ (z_and (z_shr b (i : Int)) 1) = 0 → T (D + 1) 10 (4, [(0, zr 25), (1, zi b), (2, zi (l : Int)), (3, zi ((i : Int) + 1))], [], m) κ)
    (k3 : (i : Int) < (m 25 2) → (z_and (z_shr b (i : Int)) 1) = 0 → (0 ≤ (l : Int) ∧ (l : Int) < 20))
    (k4 : (i : Int) < (m 25 2) → (z_and (z_shr b (i : Int)) 1) = 0 → zB (zu m 26 l (m 26 i)) → T (D + 1) 10 (4, [(0, zr 25), (1, zi b), (2, zi ((l : Int) + 1)), (3, zi ((i : Int) + 1))], [], (zu m 26 l (m 26 i))) κ) :
    T (D + 1) 10 (4, lo, [], m) κ := by
  have hb3 : 0 ≤ (m 25 2) ∧ (m 25 2) ≤ 20 := hB 25 2
  have hb4 : (-2147483648) ≤ (z_shr b (i : Int)) ∧ (z_shr b (i : Int)) ≤ 2147483647 := z_shrB b (i : Int)
  have hb5 : 0 ≤ (z_and (z_shr b (i : Int)) 1) ∧ (z_and (z_shr b (i : Int)) 1) ≤ 1 := z_andC (z_shr b (i : Int)) 1 (by decide)
  have hb6 : 0 ≤ (m 26 i) ∧ (m 26 i) ≤ 108 := hB 26 i
  have he0 : wr (i : Int) = (i : Int) := wr_id (by omega) (by omega)
  have he1 : wr (m 25 2) = (m 25 2) := wr_id (by omega) (by omega)
  have he2 : wr (z_and (z_shr b (i : Int)) 1) = (z_and (z_shr b (i : Int)) 1) := wr_id (by omega) (by omega)
  have he3 : (i : Int).toNat = i := by omega
  have he4 : wr (l : Int) = (l : Int) := wr_id (by omega) (by omega)
  have he5 : (l : Int).toNat = l := by omega
  have key := @zb10_4r T hT D κ m b l i lo hlo
  simp only [he0, he1, he2, he3, he4, he5, Int.toNat_natCast] at key
  exact key
    (fun x0 => k1 x0 (zB_u hB (show 0 ≤ (l : Int) ∧ (l : Int) ≤ 20 from ⟨by omega, by omega⟩)))
    k2
    (fun x0 x1 => by refine ⟨?_, ?_⟩ <;> omega)
    k3
    (fun x0 x1 => k4 x0 x1 (zB_u hB (show 0 ≤ (m 26 i) ∧ (m 26 i) ≤ 108 from ⟨by omega, by omega⟩)))
theorem zb243_0r (hT : zRules T) {D : Nat} {κ : Option zA → zM → Prop} {m : zM} {i : Nat} 
    (o1 : T (D + 1) 243 (2, [(0, zr 74), (2, zi (i : Int))], [], m) κ) :
    T (D + 1) 243 (0, [(0, zr 74), (1, zi (i : Int))], [], m) κ :=
  hT.1 [(2, [0, 2])] 6 (D + 1) 243 _ κ (o1)
theorem zb243_0 (hT : zRules T) {D : Nat} {κ : Option zA → zM → Prop} {m : zM} {i : Nat}  (hB : zB m) (h_i : i ≤ 19) 
    (k1 : T (D + 1) 243 (2, [(0, zr 74), (2, zi (i : Int))], [], m) κ) :
    T (D + 1) 243 (0, [(0, zr 74), (1, zi (i : Int))], [], m) κ := by
  exact zb243_0r hT
    k1
theorem zb243_2r (hT : zRules T) {D : Nat} {κ : Option zA → zM → Prop} {m : zM} {k : Nat} {lo : zL} (hlo : z_keep [0, 2] lo = [(0, zr 74), (2, zi (k : Int))]) 
    (o1 : ¬ wr ((k : Int) + 1) < wr (m 75 56) → κ (none) (zu m 75 56 ((m 75 56) - 1)))
    (o2 : wr ((k : Int) + 1) < wr (m 75 56) → (0 ≤ wr ((36 + (k : Int)) + 1) ∧ wr ((36 + (k : Int)) + 1) < 59))
    (o3 : wr ((k : Int) + 1) < wr (m 75 56) → (0 ≤ wr (36 + (k : Int)) ∧ wr (36 + (k : Int)) < 59))
    (o4 : wr ((k : Int) + 1) < wr (m 75 56) → T (D + 1) 243 (2, [(0, zr 74), (2, zi ((k : Int) + 1))], [], (zu m 75 ((wr (36 + (k : Int))).toNat) (m 75 ((wr ((36 + (k : Int)) + 1)).toNat)))) κ) :
    T (D + 1) 243 (2, lo, [], m) κ :=
  zkeep hT hlo (hT.1 [(2, [0, 2])] 6 (D + 1) 243 _ κ (hT.1 [(2, [0, 2])] 6 (D + 1) 243 (11, [(0, zr 74), (2, zi (k : Int))], [zi 56, zr 75, zi ((k : Int) + 1)], m) _ (And.intro (z_ixL rfl) (And.intro (fun a1 => (hT.1 [(2, [0, 2])] 6 (D + 1) 243 (48, [(0, zr 74), (2, zi (k : Int))], [zi 56, zr 75, zi 56, zr 75], m) _ (And.intro (z_ixL rfl) (And.intro (And.intro (z_ixL rfl) trivial) (o1 a1))))) (fun a2 => (hT.1 [(2, [0, 2])] 6 (D + 1) 243 (22, [(0, zr 74), (2, zi (k : Int))], [zi (k : Int), zi 36, zr 75], m) _ (hT.1 [(2, [0, 2])] 6 (D + 1) 243 (31, [(0, zr 74), (2, zi (k : Int))], [zi (36 + (k : Int)), zr 75, zi (36 + (k : Int)), zr 75], m) _ (And.intro (o2 (Classical.byContradiction a2)) (And.intro (And.intro (o3 (Classical.byContradiction a2)) trivial) (o4 (Classical.byContradiction a2)))))))))))
theorem zb243_2 (hT : zRules T) {D : Nat} {κ : Option zA → zM → Prop} {m : zM} {k : Nat} {lo : zL} (hlo : z_keep [0, 2] lo = [(0, zr 74), (2, zi (k : Int))])  (hB : zB m) (h_k : k ≤ 19) 
    (k1 : ¬ ((k : Int) + 1) < (m 75 56) → κ (none) (zu m 75 56 ((m 75 56) - 1)))
    (k2 : ((k : Int) + 1) < (m 75 56) → zB (zu m 75 (k + 36) (m 75 (k + 37))) → T (D + 1) 243 (2, [(0, zr 74), (2, zi ((k : Int) + 1))], [], (zu m 75 (k + 36) (m 75 (k + 37)))) κ) :
    T (D + 1) 243 (2, lo, [], m) κ := by
  have hb1 : 0 ≤ (m 75 56) ∧ (m 75 56) ≤ 20 := hB 75 56
  have hb2 : 0 ≤ (m 75 (k + 37)) ∧ (m 75 (k + 37)) ≤ 108 := zSg hB 75 36 57 0 108 rfl (k + 37) (by omega) (by omega)
  have he0 : wr ((k : Int) + 1) = ((k : Int) + 1) := wr_id (by omega) (by omega)
  have he1 : wr (m 75 56) = (m 75 56) := wr_id (by omega) (by omega)
  have he2 : wr ((36 + (k : Int)) + 1) = ((36 + (k : Int)) + 1) := wr_id (by omega) (by omega)
  have he3 : ((36 + (k : Int)) + 1).toNat = k + 37 := by omega
  have he4 : wr (36 + (k : Int)) = (36 + (k : Int)) := wr_id (by omega) (by omega)
  have he5 : (36 + (k : Int)).toNat = k + 36 := by omega
  have key := @zb243_2r T hT D κ m k lo hlo
  simp only [he0, he1, he2, he3, he4, he5, Int.toNat_natCast] at key
  exact key
    k1
    (fun x0 => by refine ⟨?_, ?_⟩ <;> omega)
    (fun x0 => by refine ⟨?_, ?_⟩ <;> omega)
    (fun x0 => k2 x0 (zB_u hB (zbSg 75 36 56 0 108 rfl (k + 36) (m 75 (k + 37)) (by omega) (by omega) ⟨by omega, by omega⟩)))
theorem zb131_0r (hT : zRules T) {D : Nat} {κ : Option zA → zM → Prop} {m : zM} {i : Int} {v : Int} 
    (o1 : wr i < 0 → κ (some (zi (-1))) m)
    (o2 : ¬ wr i < 0 → ¬ wr i < wr (m 25 2) → κ (some (zi (-1))) m)
    (o3 : ¬ wr i < 0 → wr i < wr (m 25 2) → wr v < 0 → κ (some (zi (-1))) m)
    (o4 : ¬ wr i < 0 → wr i < wr (m 25 2) → ¬ wr v < 0 → ¬ 9 < wr v → T (D + 3) 173 (0, [(0, zr 1)], [], m) (fun r m1 => T (D + 4) 131 (27, [(0, zr 1), (1, zi i), (2, zi v)], r.toList ++ [], m1) κ))
    (o5 : ¬ wr i < 0 → wr i < wr (m 25 2) → ¬ wr v < 0 → 9 < wr v → κ (some (zi (-1))) m) :
    T (D + 4) 131 (0, [(0, zr 1), (1, zi i), (2, zi v)], [], m) κ :=
  hT.1 [] 6 (D + 4) 131 _ κ (hT.1 [] 6 (D + 3) 7 _ _ (And.intro (fun a1 => (And.intro (z_b01L rfl) (hT.1 [] 6 (D + 4) 131 _ _ (And.intro (fun _ => (o1 a1)) (fun a3 => (a3 (z_litT rfl)).elim))))) (fun a2 => (And.intro (fun a4 => (hT.1 [] 6 (D + 3) 7 (16, [(0, zr 25), (1, zi i)], [], m) _ (And.intro (z_b01L rfl) (hT.1 [] 6 (D + 4) 131 _ _ (And.intro (fun _ => (o2 a2 a4)) (fun a6 => (a6 (z_litT rfl)).elim)))))) (fun a5 => (hT.1 [] 6 (D + 3) 7 (12, [(0, zr 25), (1, zi i)], [], m) _ (And.intro (z_b01L rfl) (hT.1 [] 6 (D + 4) 131 _ _ (And.intro (fun a7 => (z_litF a7 rfl).elim) (fun _ => (And.intro (fun a8 => (o3 a2 (Classical.byContradiction a5) a8)) (fun a9 => (And.intro (fun a10 => (hT.1 [] 6 (D + 4) 131 (23, [(0, zr 1), (1, zi i), (2, zi v)], [], m) _ (o4 a2 (Classical.byContradiction a5) a9 a10))) (fun a11 => (hT.1 [] 6 (D + 4) 131 (21, [(0, zr 1), (1, zi i), (2, zi v)], [], m) _ (o5 a2 (Classical.byContradiction a5) a9 (Classical.byContradiction a11)))))))))))))))))
theorem zb131_0 (hT : zRules T) {D : Nat} {κ : Option zA → zM → Prop} {m : zM} {i : Int} {v : Int}  (hB : zB m) (h_i : (-2147483648) ≤ i ∧ i ≤ 2147483647) (h_v : (-2147483648) ≤ v ∧ v ≤ 2147483647) 
    (k1 : i < 0 → κ (some (zi (-1))) m)
    (k2 : ¬ i < 0 → ¬ i < (m 25 2) → κ (some (zi (-1))) m)
    (k3 : ¬ i < 0 → i < (m 25 2) → v < 0 → κ (some (zi (-1))) m)
    (k4 : ¬ i < 0 → i < (m 25 2) → ¬ v < 0 → ¬ 9 < v → T (D + 3) 173 (0, [(0, zr 1)], [], m) (fun r m1 => T (D + 4) 131 (27, [(0, zr 1), (1, zi i), (2, zi v)], r.toList ++ [], m1) κ))
    (k5 : ¬ i < 0 → i < (m 25 2) → ¬ v < 0 → 9 < v → κ (some (zi (-1))) m) :
    T (D + 4) 131 (0, [(0, zr 1), (1, zi i), (2, zi v)], [], m) κ := by
  have hb2 : 0 ≤ (m 25 2) ∧ (m 25 2) ≤ 20 := hB 25 2
  have he0 : wr i = i := wr_id (by omega) (by omega)
  have he1 : wr (m 25 2) = (m 25 2) := wr_id (by omega) (by omega)
  have he2 : wr v = v := wr_id (by omega) (by omega)
  have key := @zb131_0r T hT D κ m i v
  simp only [he0, he1, he2, Int.toNat_natCast] at key
  exact key
    k1
    k2
    k3
    k4
    k5
theorem zb131_27r (hT : zRules T) {D : Nat} {κ : Option zA → zM → Prop} {m : zM} {i : Nat} {v : Int} {lo : zL} (hlo : z_keep [0, 1, 2] lo = [(0, zr 1), (1, zi (i : Int)), (2, zi v)]) 
    (o1 : (0 ≤ wr (i : Int) ∧ wr (i : Int) < 20))
    (o2 : T (D + 3) 10 (0, [(0, zr 25), (1, zi (z_shl 1 (i : Int)))], [], m) (fun r m1 => T (D + 4) 131 (49, [(0, zr 1), (1, zi (i : Int)), (2, zi v), (3, zi ((m 26 ((wr (i : Int)).toNat)) * v))], r.toList ++ [], m1) κ)) :
    T (D + 4) 131 (27, lo, [], m) κ :=
  zkeep hT hlo (hT.1 [] 6 (D + 4) 131 _ κ (And.intro (o1) (hT.1 [] 6 (D + 4) 131 (37, [(0, zr 1), (1, zi (i : Int)), (2, zi v)], [zi v, zi (m 26 ((wr (i : Int)).toNat))], m) _ (hT.1 [] 6 (D + 4) 131 (45, [(0, zr 1), (1, zi (i : Int)), (2, zi v), (3, zi ((m 26 ((wr (i : Int)).toNat)) * v))], [zi (i : Int), zi 1, zr 25], m) _ (o2)))))
theorem zb131_27 (hT : zRules T) {D : Nat} {κ : Option zA → zM → Prop} {m : zM} {i : Nat} {v : Int} {lo : zL} (hlo : z_keep [0, 1, 2] lo = [(0, zr 1), (1, zi (i : Int)), (2, zi v)])  (hB : zB m) (h_i : i ≤ 19) (h_v : 0 ≤ v ∧ v ≤ 9) 
    (k1 : T (D + 3) 10 (0, [(0, zr 25), (1, zi (z_shl 1 (i : Int)))], [], m) (fun r m1 => T (D + 4) 131 (49, [(0, zr 1), (1, zi (i : Int)), (2, zi v), (3, zi ((m 26 i) * v))], r.toList ++ [], m1) κ)) :
    T (D + 4) 131 (27, lo, [], m) κ := by
  have hb2 : 0 ≤ (m 26 i) ∧ (m 26 i) ≤ 108 := hB 26 i
  have hb3 : 0 ≤ ((m 26 i) * v) ∧ ((m 26 i) * v) ≤ 972 := z_mulB (m 26 i) v 108 9 972 (by omega) (by omega) (by omega) (by omega) rfl
  have hb4 : (-2147483648) ≤ (z_shl 1 (i : Int)) ∧ (z_shl 1 (i : Int)) ≤ 2147483647 := z_shlB 1 (i : Int)
  have he0 : wr (i : Int) = (i : Int) := wr_id (by omega) (by omega)
  have he1 : (i : Int).toNat = i := by omega
  have key := @zb131_27r T hT D κ m i v lo hlo
  simp only [he0, he1, Int.toNat_natCast] at key
  exact key
    (by refine ⟨?_, ?_⟩ <;> omega)
    k1
theorem zb131_49r (hT : zRules T) {D : Nat} {κ : Option zA → zM → Prop} {m : zM} {v : Int} {lo : zL} (hlo : z_keep [0, 3] lo = [(0, zr 1), (3, zi v)]) 
    (o1 : κ (some (zi (wr v))) (zu m 17 10 ((m 17 10) + v))) :
    T (D + 4) 131 (49, lo, [], m) κ :=
  zkeep hT hlo (hT.1 [] 6 (D + 4) 131 _ κ (hT.1 [] 6 (D + 4) 131 (59, [(0, zr 1), (3, zi v)], [zi ((m 17 10) + v), zr 17], m) _ (And.intro trivial (o1))))
theorem zb131_49 (hT : zRules T) {D : Nat} {κ : Option zA → zM → Prop} {m : zM} {v : Int} {lo : zL} (hlo : z_keep [0, 3] lo = [(0, zr 1), (3, zi v)])  (hB : zB m) (h_v : 0 ≤ v ∧ v ≤ 972) 
    (k1 : zB (zu m 17 10 ((m 17 10) + v)) → κ (some (zi v)) (zu m 17 10 ((m 17 10) + v))) :
    T (D + 4) 131 (49, lo, [], m) κ := by
  have he0 : wr v = v := wr_id (by omega) (by omega)
  have key := @zb131_49r T hT D κ m v lo hlo
  simp only [he0, Int.toNat_natCast] at key
  exact key
    (k1  (zB_u hB trivial))
theorem zb244_0r (hT : zRules T) {D : Nat} {κ : Option zA → zM → Prop} {m : zM} {i : Int} {v : Int} 
    (o1 : wr i < 0 → κ (some (zi (-1))) (zu m 74 12 0))
    (o2 : ¬ wr i < 0 → wr ((m 75 56) - 1) < wr i → κ (some (zi (-1))) (zu m 74 12 0))
    (o3 : ¬ wr i < 0 → ¬ wr ((m 75 56) - 1) < wr i → wr v < 0 → κ (some (zi (-1))) (zu m 74 12 0))
    (o4 : ¬ wr i < 0 → ¬ wr ((m 75 56) - 1) < wr i → ¬ wr v < 0 → 9 < wr v → κ (some (zi (-1))) (zu m 74 12 0))
    (o5 : ¬ wr i < 0 → ¬ wr ((m 75 56) - 1) < wr i → ¬ wr v < 0 → ¬ 9 < wr v → T (D + 2) 229 (0, [(0, zr 74), (1, zr 75)], [], (zu m 74 12 0)) (fun r m1 => T (D + 3) 244 (42, [(0, zr 74), (1, zi i), (2, zi v)], r.toList ++ [], m1) κ)) :
    T (D + 3) 244 (0, [(0, zr 74), (1, zi i), (2, zi v)], [], m) κ :=
  hT.1 [] 6 (D + 3) 244 _ κ (And.intro trivial (hT.1 [] 6 (D + 3) 244 (8, [(0, zr 74), (1, zi i), (2, zi v)], [zr 74, zi 0, zi i], (zu m 74 12 0)) _ (And.intro (z_ixL rfl) (hT.1 [] 6 (D + 2) 186 _ _ (And.intro (fun a1 => (And.intro (z_b01L rfl) (hT.1 [] 6 (D + 3) 244 _ _ (And.intro (fun _ => (o1 a1)) (fun a3 => (a3 (z_litT rfl)).elim))))) (fun a2 => (And.intro (fun a4 => (hT.1 [] 6 (D + 2) 186 (14, [(0, zi i), (1, zi 0), (2, zi ((m 75 56) - 1))], [], (zu m 74 12 0)) _ (And.intro (z_b01L rfl) (hT.1 [] 6 (D + 3) 244 _ _ (And.intro (fun _ => (o2 a2 a4)) (fun a6 => (a6 (z_litT rfl)).elim)))))) (fun a5 => (hT.1 [] 6 (D + 2) 186 (10, [(0, zi i), (1, zi 0), (2, zi ((m 75 56) - 1))], [], (zu m 74 12 0)) _ (And.intro (z_b01L rfl) (hT.1 [] 6 (D + 3) 244 _ _ (And.intro (fun a7 => (z_litF a7 rfl).elim) (fun _ => (hT.1 [] 6 (D + 2) 186 _ _ (And.intro (fun a8 => (And.intro (z_b01L rfl) (hT.1 [] 6 (D + 3) 244 _ _ (And.intro (fun a10 => (z_litF a10 rfl).elim) (fun _ => (o3 a2 a5 a8)))))) (fun a9 => (And.intro (fun a11 => (hT.1 [] 6 (D + 2) 186 (14, [(0, zi v), (1, zi 0), (2, zi 9)], [], (zu m 74 12 0)) _ (And.intro (z_b01L rfl) (hT.1 [] 6 (D + 3) 244 _ _ (And.intro (fun a13 => (z_litF a13 rfl).elim) (fun _ => (o4 a2 a5 a9 a11))))))) (fun a12 => (hT.1 [] 6 (D + 2) 186 (10, [(0, zi v), (1, zi 0), (2, zi 9)], [], (zu m 74 12 0)) _ (And.intro (z_b01L rfl) (hT.1 [] 6 (D + 3) 244 _ _ (And.intro (fun _ => (o5 a2 a5 a9 a12)) (fun a14 => (a14 (z_litT rfl)).elim)))))))))))))))))))))))
theorem zb244_0 (hT : zRules T) {D : Nat} {κ : Option zA → zM → Prop} {m : zM} {i : Int} {v : Int}  (hB : zB m) (h_i : (-2147483648) ≤ i ∧ i ≤ 2147483647) (h_v : (-2147483648) ≤ v ∧ v ≤ 2147483647) 
    (k1 : i < 0 → zB (zu m 74 12 0) → κ (some (zi (-1))) (zu m 74 12 0))
    (k2 : ¬ i < 0 → ((m 75 56) - 1) < i → zB (zu m 74 12 0) → κ (some (zi (-1))) (zu m 74 12 0))
    (k3 : ¬ i < 0 → ¬ ((m 75 56) - 1) < i → v < 0 → zB (zu m 74 12 0) → κ (some (zi (-1))) (zu m 74 12 0))
    (k4 : ¬ i < 0 → ¬ ((m 75 56) - 1) < i → ¬ v < 0 → 9 < v → zB (zu m 74 12 0) → κ (some (zi (-1))) (zu m 74 12 0))
    (k5 : ¬ i < 0 → ¬ ((m 75 56) - 1) < i → ¬ v < 0 → ¬ 9 < v → zB (zu m 74 12 0) → T (D + 2) 229 (0, [(0, zr 74), (1, zr 75)], [], (zu m 74 12 0)) (fun r m1 => T (D + 3) 244 (42, [(0, zr 74), (1, zi i), (2, zi v)], r.toList ++ [], m1) κ)) :
    T (D + 3) 244 (0, [(0, zr 74), (1, zi i), (2, zi v)], [], m) κ := by
  have hb2 : 0 ≤ (m 75 56) ∧ (m 75 56) ≤ 20 := hB 75 56
  have he0 : wr i = i := wr_id (by omega) (by omega)
  have he1 : wr ((m 75 56) - 1) = ((m 75 56) - 1) := wr_id (by omega) (by omega)
  have he2 : wr v = v := wr_id (by omega) (by omega)
  have key := @zb244_0r T hT D κ m i v
  simp only [he0, he1, he2, Int.toNat_natCast] at key
  exact key
    (fun x0 => k1 x0 (zB_u hB trivial))
    (fun x0 x1 => k2 x0 x1 (zB_u hB trivial))
    (fun x0 x1 x2 => k3 x0 x1 x2 (zB_u hB trivial))
    (fun x0 x1 x2 x3 => k4 x0 x1 x2 x3 (zB_u hB trivial))
    (fun x0 x1 x2 x3 => k5 x0 x1 x2 x3 (zB_u hB trivial))
theorem zb244_42r (hT : zRules T) {D : Nat} {κ : Option zA → zM → Prop} {m : zM} {i : Nat} {v : Int} {lo : zL} (hlo : z_keep [0, 1, 2] lo = [(0, zr 74), (1, zi (i : Int)), (2, zi v)]) 
    (o1 : (0 ≤ wr (36 + (i : Int)) ∧ wr (36 + (i : Int)) < 59))
    (o2 : T (D + 2) 243 (0, [(0, zr 74), (1, zi (i : Int))], [], (zu m 75 58 ((m 75 58) + (v * (m 75 ((wr (36 + (i : Int))).toNat)))))) (fun r m1 => T (D + 3) 244 (70, [(0, zr 74), (1, zi (i : Int)), (2, zi v), (3, zi (v * (m 75 ((wr (36 + (i : Int))).toNat))))], r.toList ++ [], m1) κ)) :
    T (D + 3) 244 (42, lo, [], m) κ :=
  zkeep hT hlo (hT.1 [] 6 (D + 3) 244 _ κ (hT.1 [] 6 (D + 3) 244 (51, [(0, zr 74), (1, zi (i : Int)), (2, zi v)], [zi (36 + (i : Int)), zr 75, zi v], m) _ (And.intro (o1) (hT.1 [] 6 (D + 3) 244 (60, [(0, zr 74), (1, zi (i : Int)), (2, zi v), (3, zi (v * (m 75 ((wr (36 + (i : Int))).toNat))))], [zi 58, zr 75], m) _ (And.intro (z_ixL rfl) (And.intro (And.intro (z_ixL rfl) trivial) (hT.1 [] 6 (D + 3) 244 (66, [(0, zr 74), (1, zi (i : Int)), (2, zi v), (3, zi (v * (m 75 ((wr (36 + (i : Int))).toNat))))], [zr 74], (zu m 75 58 ((m 75 58) + (v * (m 75 ((wr (36 + (i : Int))).toNat)))))) _ (o2))))))))
theorem zb244_42 (hT : zRules T) {D : Nat} {κ : Option zA → zM → Prop} {m : zM} {i : Nat} {v : Int} {lo : zL} (hlo : z_keep [0, 1, 2] lo = [(0, zr 74), (1, zi (i : Int)), (2, zi v)])  (hB : zB m) (h_i : i ≤ 19) (h_v : 0 ≤ v ∧ v ≤ 9) 
    (k1 : zB (zu m 75 58 ((m 75 58) + (v * (m 75 (i + 36))))) → T (D + 2) 243 (0, [(0, zr 74), (1, zi (i : Int))], [], (zu m 75 58 ((m 75 58) + (v * (m 75 (i + 36)))))) (fun r m1 => T (D + 3) 244 (70, [(0, zr 74), (1, zi (i : Int)), (2, zi v), (3, zi (v * (m 75 (i + 36))))], r.toList ++ [], m1) κ)) :
    T (D + 3) 244 (42, lo, [], m) κ := by
  have hb2 : 0 ≤ (m 75 (i + 36)) ∧ (m 75 (i + 36)) ≤ 108 := zSg hB 75 36 56 0 108 rfl (i + 36) (by omega) (by omega)
  have hb3 : 0 ≤ (v * (m 75 (i + 36))) ∧ (v * (m 75 (i + 36))) ≤ 972 := z_mulB v (m 75 (i + 36)) 9 108 972 (by omega) (by omega) (by omega) (by omega) rfl
  have he0 : wr (36 + (i : Int)) = (36 + (i : Int)) := wr_id (by omega) (by omega)
  have he1 : (36 + (i : Int)).toNat = i + 36 := by omega
  have key := @zb244_42r T hT D κ m i v lo hlo
  simp only [he0, he1, Int.toNat_natCast] at key
  exact key
    (by refine ⟨?_, ?_⟩ <;> omega)
    (k1  (zB_u hB trivial))
theorem zb244_70r (hT : zRules T) {D : Nat} {κ : Option zA → zM → Prop} {m : zM} {v : Int} {lo : zL} (hlo : z_keep [3] lo = [(3, zi v)]) 
    (o1 : κ (some (zi (wr v))) m) :
    T (D + 3) 244 (70, lo, [], m) κ :=
  zkeep hT hlo (hT.1 [] 6 (D + 3) 244 _ κ (o1))
theorem zb244_70 (hT : zRules T) {D : Nat} {κ : Option zA → zM → Prop} {m : zM} {v : Int} {lo : zL} (hlo : z_keep [3] lo = [(3, zi v)])  (hB : zB m) (h_v : 0 ≤ v ∧ v ≤ 972) 
    (k1 : κ (some (zi v)) m) :
    T (D + 3) 244 (70, lo, [], m) κ := by
  have he0 : wr v = v := wr_id (by omega) (by omega)
  have key := @zb244_70r T hT D κ m v lo hlo
  simp only [he0, Int.toNat_natCast] at key
  exact key
    k1
theorem zb122_0r (hT : zRules T) {D : Nat} {κ : Option zA → zM → Prop} {m : zM} {k : Int} {n : Int} {f : Int} {s : Int} 
    (o1 : wr k < 0 → κ (some (zi (-1))) m)
    (o2 : ¬ wr k < 0 → 3 < wr k → κ (some (zi (-1))) m)
    (o3 : ¬ wr k < 0 → ¬ 3 < wr k → ¬ 8 < wr n → wr k = 3 → ¬ wr k = 3 → False)
    (o4 : ¬ wr k < 0 → ¬ 3 < wr k → ¬ 8 < wr n → wr k = 3 → wr k = 3 → T (D + 3) 122 (47, [(0, zr 1), (1, zi k), (3, zi f), (4, zi s), (5, zi 0), (6, zi 0), (7, zi 0)], [], m) κ)
    (o5 : ¬ wr k < 0 → ¬ 3 < wr k → ¬ 8 < wr n → ¬ wr k = 3 → ¬ wr n < 0 → ¬ wr k = 3 → T (D + 3) 122 (47, [(0, zr 1), (1, zi k), (3, zi f), (4, zi s), (5, zi n), (6, zi 0), (7, zi 0)], [], m) κ)
    (o6 : ¬ wr k < 0 → ¬ 3 < wr k → ¬ 8 < wr n → ¬ wr k = 3 → ¬ wr n < 0 → wr k = 3 → False)
    (o7 : ¬ wr k < 0 → ¬ 3 < wr k → ¬ 8 < wr n → ¬ wr k = 3 → wr n < 0 → κ (some (zi (-2))) m)
    (o8 : ¬ wr k < 0 → ¬ 3 < wr k → 8 < wr n → κ (some (zi (-1))) m) :
    T (D + 3) 122 (0, [(0, zr 1), (1, zi k), (2, zi n), (3, zi f), (4, zi s)], [], m) κ :=
  hT.1 [(47, [0, 1, 3, 4, 5, 6, 7])] 6 (D + 3) 122 _ κ (And.intro (fun a1 => (o1 a1)) (fun a2 => (And.intro (fun a3 => (hT.1 [(47, [0, 1, 3, 4, 5, 6, 7])] 6 (D + 3) 122 (16, [(0, zr 1), (1, zi k), (2, zi n), (3, zi f), (4, zi s)], [zi (-1)], m) _ (o2 a2 a3))) (fun a4 => (hT.1 [(47, [0, 1, 3, 4, 5, 6, 7])] 6 (D + 3) 122 (10, [(0, zr 1), (1, zi k), (2, zi n), (3, zi f), (4, zi s)], [zi n], m) _ (And.intro (fun a5 => (And.intro (fun a7 => (hT.1 [(47, [0, 1, 3, 4, 5, 6, 7])] 6 (D + 3) 122 (30, [(0, zr 1), (1, zi k), (2, zi n), (3, zi f), (4, zi s)], [zi k], m) _ (And.intro (fun a9 => (o3 a2 a4 a5 a7 a9).elim) (fun a10 => (hT.1 [(47, [0, 1, 3, 4, 5, 6, 7])] 6 (D + 3) 122 (42, [(0, zr 1), (1, zi k), (2, zi n), (3, zi f), (4, zi s), (5, zi 0)], [zi 0], m) _ (o4 a2 a4 a5 a7 (Classical.byContradiction a10))))))) (fun a8 => (hT.1 [(47, [0, 1, 3, 4, 5, 6, 7])] 6 (D + 3) 122 (23, [(0, zr 1), (1, zi k), (2, zi n), (3, zi f), (4, zi s)], [zi n], m) _ (And.intro (fun a11 => (And.intro (fun a13 => (hT.1 [(47, [0, 1, 3, 4, 5, 6, 7])] 6 (D + 3) 122 (41, [(0, zr 1), (1, zi k), (2, zi n), (3, zi f), (4, zi s), (5, zi n)], [], m) _ (o5 a2 a4 a5 a8 a11 a13))) (fun a14 => (o6 a2 a4 a5 a8 a11 (Classical.byContradiction a14)).elim))) (fun a12 => (o7 a2 a4 a5 a8 (Classical.byContradiction a12)))))))) (fun a6 => (o8 a2 a4 (Classical.byContradiction a6)))))))))
theorem zb122_0 (hT : zRules T) {D : Nat} {κ : Option zA → zM → Prop} {m : zM} {k : Int} {n : Int} {f : Int} {s : Int}  (hB : zB m) (h_k : (-2147483648) ≤ k ∧ k ≤ 2147483647) (h_n : (-2147483648) ≤ n ∧ n ≤ 2147483647) (h_f : (-2147483648) ≤ f ∧ f ≤ 2147483647) (h_s : (-2147483648) ≤ s ∧ s ≤ 2147483647) 
    (k1 : k < 0 → κ (some (zi (-1))) m)
    (k2 : ¬ k < 0 → 3 < k → κ (some (zi (-1))) m)
    (k3 : ¬ k < 0 → ¬ 3 < k → ¬ 8 < n → k = 3 → T (D + 3) 122 (47, [(0, zr 1), (1, zi k), (3, zi f), (4, zi s), (5, zi 0), (6, zi 0), (7, zi 0)], [], m) κ)
    (k4 : ¬ k < 0 → ¬ 3 < k → ¬ 8 < n → ¬ k = 3 → ¬ n < 0 → T (D + 3) 122 (47, [(0, zr 1), (1, zi k), (3, zi f), (4, zi s), (5, zi n), (6, zi 0), (7, zi 0)], [], m) κ)
    (k5 : ¬ k < 0 → ¬ 3 < k → ¬ 8 < n → ¬ k = 3 → n < 0 → κ (some (zi (-2))) m)
    (k6 : ¬ k < 0 → ¬ 3 < k → 8 < n → κ (some (zi (-1))) m) :
    T (D + 3) 122 (0, [(0, zr 1), (1, zi k), (2, zi n), (3, zi f), (4, zi s)], [], m) κ := by
  have he0 : wr k = k := wr_id (by omega) (by omega)
  have he1 : wr n = n := wr_id (by omega) (by omega)
  have key := @zb122_0r T hT D κ m k n f s
  simp only [he0, he1, Int.toNat_natCast] at key
  exact key
    k1
    k2
    (fun x0 x1 x2 x3 x4 => by omega)
    (fun x0 x1 x2 x3 x4 => k3 x0 x1 x2 x3)
    (fun x0 x1 x2 x3 x4 x5 => k4 x0 x1 x2 x3 x4)
    (fun x0 x1 x2 x3 x4 x5 => by omega)
    k5
    k6
theorem zb122_47r (hT : zRules T) {D : Nat} {κ : Option zA → zM → Prop} {m : zM} {k : Int} {f : Int} {s : Int} {e : Int} {t : Int} {c : Nat} {lo : zL} (hlo : z_keep [0, 1, 3, 4, 5, 6, 7] lo = [(0, zr 1), (1, zi k), (3, zi f), (4, zi s), (5, zi e), (6, zi t), (7, zi (c : Int))]) 
    (o1 : ¬ wr (c : Int) < wr (m 17 1) → ¬ wr k = 3 → κ (some (zi (wr t))) m)
    (o2 : ¬ wr (c : Int) < wr (m 17 1) → wr k = 3 → κ (some (zi (-3))) m)
    (o3 : wr (c : Int) < wr (m 17 1) → ¬ wr (c : Int) < wr e → (0 ≤ wr (c : Int) ∧ wr (c : Int) < 8))
    (o4 : wr (c : Int) < wr (m 17 1) → ¬ wr (c : Int) < wr e → (0 ≤ wr (c : Int) ∧ wr (c : Int) < 8))
    (o5 : wr (c : Int) < wr (m 17 1) → ¬ wr (c : Int) < wr e → T (D + 3) 122 (47, [(0, zr 1), (1, zi k), (3, zi f), (4, zi s), (5, zi e), (6, zi (t + ((zu m 21 ((wr (c : Int)).toNat) 0) 21 ((wr (c : Int)).toNat)))), (7, zi ((c : Int) + 1))], [], (zu m 21 ((wr (c : Int)).toNat) 0)) κ)
    (o6 : wr (c : Int) < wr (m 17 1) → wr (c : Int) < wr e → ¬ wr k = 0 → ¬ wr k = 1 → wr (f + ((c : Int) * s)) < 99 → 0 < wr (wr (f + ((c : Int) * s))) → (0 ≤ wr (c : Int) ∧ wr (c : Int) < 8))
    (o7 : wr (c : Int) < wr (m 17 1) → wr (c : Int) < wr e → ¬ wr k = 0 → ¬ wr k = 1 → wr (f + ((c : Int) * s)) < 99 → 0 < wr (wr (f + ((c : Int) * s))) → (0 ≤ wr (c : Int) ∧ wr (c : Int) < 8))
    (o8 : wr (c : Int) < wr (m 17 1) → wr (c : Int) < wr e → ¬ wr k = 0 → ¬ wr k = 1 → wr (f + ((c : Int) * s)) < 99 → 0 < wr (wr (f + ((c : Int) * s))) → T (D + 3) 122 (47, [(0, zr 1), (1, zi k), (3, zi f), (4, zi s), (5, zi e), (6, zi (t + ((zu m 21 ((wr (c : Int)).toNat) (wr (wr (wr (wr (f + ((c : Int) * s))))))) 21 ((wr (c : Int)).toNat)))), (7, zi ((c : Int) + 1))], [], (zu m 21 ((wr (c : Int)).toNat) (wr (wr (wr (wr (f + ((c : Int) * s)))))))) κ)
    (o9 : wr (c : Int) < wr (m 17 1) → wr (c : Int) < wr e → ¬ wr k = 0 → ¬ wr k = 1 → wr (f + ((c : Int) * s)) < 99 → ¬ 0 < wr (wr (f + ((c : Int) * s))) → (0 ≤ wr (c : Int) ∧ wr (c : Int) < 8))
    (o10 : wr (c : Int) < wr (m 17 1) → wr (c : Int) < wr e → ¬ wr k = 0 → ¬ wr k = 1 → wr (f + ((c : Int) * s)) < 99 → ¬ 0 < wr (wr (f + ((c : Int) * s))) → (0 ≤ wr (c : Int) ∧ wr (c : Int) < 8))
    (o11 : wr (c : Int) < wr (m 17 1) → wr (c : Int) < wr e → ¬ wr k = 0 → ¬ wr k = 1 → wr (f + ((c : Int) * s)) < 99 → ¬ 0 < wr (wr (f + ((c : Int) * s))) → T (D + 3) 122 (47, [(0, zr 1), (1, zi k), (3, zi f), (4, zi s), (5, zi e), (6, zi (t + ((zu m 21 ((wr (c : Int)).toNat) 0) 21 ((wr (c : Int)).toNat)))), (7, zi ((c : Int) + 1))], [], (zu m 21 ((wr (c : Int)).toNat) 0)) κ)
    (o12 : wr (c : Int) < wr (m 17 1) → wr (c : Int) < wr e → ¬ wr k = 0 → ¬ wr k = 1 → ¬ wr (f + ((c : Int) * s)) < 99 → (0 ≤ wr (c : Int) ∧ wr (c : Int) < 8))
    (o13 : wr (c : Int) < wr (m 17 1) → wr (c : Int) < wr e → ¬ wr k = 0 → ¬ wr k = 1 → ¬ wr (f + ((c : Int) * s)) < 99 → (0 ≤ wr (c : Int) ∧ wr (c : Int) < 8))
    (o14 : wr (c : Int) < wr (m 17 1) → wr (c : Int) < wr e → ¬ wr k = 0 → ¬ wr k = 1 → ¬ wr (f + ((c : Int) * s)) < 99 → T (D + 3) 122 (47, [(0, zr 1), (1, zi k), (3, zi f), (4, zi s), (5, zi e), (6, zi (t + ((zu m 21 ((wr (c : Int)).toNat) 99) 21 ((wr (c : Int)).toNat)))), (7, zi ((c : Int) + 1))], [], (zu m 21 ((wr (c : Int)).toNat) 99)) κ)
    (o15 : wr (c : Int) < wr (m 17 1) → wr (c : Int) < wr e → ¬ wr k = 0 → wr k = 1 → wr (z_s16 (f + ((c : Int) * s))) < 99 → 0 < wr (wr (z_s16 (f + ((c : Int) * s)))) → (0 ≤ wr (c : Int) ∧ wr (c : Int) < 8))
    (o16 : wr (c : Int) < wr (m 17 1) → wr (c : Int) < wr e → ¬ wr k = 0 → wr k = 1 → wr (z_s16 (f + ((c : Int) * s))) < 99 → 0 < wr (wr (z_s16 (f + ((c : Int) * s)))) → (0 ≤ wr (c : Int) ∧ wr (c : Int) < 8))
    (o17 : wr (c : Int) < wr (m 17 1) → wr (c : Int) < wr e → ¬ wr k = 0 → wr k = 1 → wr (z_s16 (f + ((c : Int) * s))) < 99 → 0 < wr (wr (z_s16 (f + ((c : Int) * s)))) → T (D + 3) 122 (47, [(0, zr 1), (1, zi k), (3, zi f), (4, zi s), (5, zi e), (6, zi (t + ((zu m 21 ((wr (c : Int)).toNat) (wr (wr (wr (wr (z_s16 (f + ((c : Int) * s)))))))) 21 ((wr (c : Int)).toNat)))), (7, zi ((c : Int) + 1))], [], (zu m 21 ((wr (c : Int)).toNat) (wr (wr (wr (wr (z_s16 (f + ((c : Int) * s))))))))) κ)
    (o18 : wr (c : Int) < wr (m 17 1) → wr (c : Int) < wr e → ¬ wr k = 0 → wr k = 1 → wr (z_s16 (f + ((c : Int) * s))) < 99 → ¬ 0 < wr (wr (z_s16 (f + ((c : Int) * s)))) → (0 ≤ wr (c : Int) ∧ wr (c : Int) < 8))
    (o19 : wr (c : Int) < wr (m 17 1) → wr (c : Int) < wr e → ¬ wr k = 0 → wr k = 1 → wr (z_s16 (f + ((c : Int) * s))) < 99 → ¬ 0 < wr (wr (z_s16 (f + ((c : Int) * s)))) → (0 ≤ wr (c : Int) ∧ wr (c : Int) < 8))
    (o20 : wr (c : Int) < wr (m 17 1) → wr (c : Int) < wr e → ¬ wr k = 0 → wr k = 1 → wr (z_s16 (f + ((c : Int) * s))) < 99 → ¬ 0 < wr (wr (z_s16 (f + ((c : Int) * s)))) → T (D + 3) 122 (47, [(0, zr 1), (1, zi k), (3, zi f), (4, zi s), (5, zi e), (6, zi (t + ((zu m 21 ((wr (c : Int)).toNat) 0) 21 ((wr (c : Int)).toNat)))), (7, zi ((c : Int) + 1))], [], (zu m 21 ((wr (c : Int)).toNat) 0)) κ)
    (o21 : wr (c : Int) < wr (m 17 1) → wr (c : Int) < wr e → ¬ wr k = 0 → wr k = 1 → ¬ wr (z_s16 (f + ((c : Int) * s))) < 99 → (0 ≤ wr (c : Int) ∧ wr (c : Int) < 8))
    (o22 : wr (c : Int) < wr (m 17 1) → wr (c : Int) < wr e → ¬ wr k = 0 → wr k = 1 → ¬ wr (z_s16 (f + ((c : Int) * s))) < 99 → (0 ≤ wr (c : Int) ∧ wr (c : Int) < 8))
    (o23 : wr (c : Int) < wr (m 17 1) → wr (c : Int) < wr e → ¬ wr k = 0 → wr k = 1 → ¬ wr (z_s16 (f + ((c : Int) * s))) < 99 → T (D + 3) 122 (47, [(0, zr 1), (1, zi k), (3, zi f), (4, zi s), (5, zi e), (6, zi (t + ((zu m 21 ((wr (c : Int)).toNat) 99) 21 ((wr (c : Int)).toNat)))), (7, zi ((c : Int) + 1))], [], (zu m 21 ((wr (c : Int)).toNat) 99)) κ)
    (o24 : wr (c : Int) < wr (m 17 1) → wr (c : Int) < wr e → wr k = 0 → wr (z_b8 (f + ((c : Int) * s))) < 99 → 0 < wr (wr (z_b8 (f + ((c : Int) * s)))) → (0 ≤ wr (c : Int) ∧ wr (c : Int) < 8))
    (o25 : wr (c : Int) < wr (m 17 1) → wr (c : Int) < wr e → wr k = 0 → wr (z_b8 (f + ((c : Int) * s))) < 99 → 0 < wr (wr (z_b8 (f + ((c : Int) * s)))) → (0 ≤ wr (c : Int) ∧ wr (c : Int) < 8))
    (o26 : wr (c : Int) < wr (m 17 1) → wr (c : Int) < wr e → wr k = 0 → wr (z_b8 (f + ((c : Int) * s))) < 99 → 0 < wr (wr (z_b8 (f + ((c : Int) * s)))) → T (D + 3) 122 (47, [(0, zr 1), (1, zi k), (3, zi f), (4, zi s), (5, zi e), (6, zi (t + ((zu m 21 ((wr (c : Int)).toNat) (wr (wr (wr (wr (z_b8 (f + ((c : Int) * s)))))))) 21 ((wr (c : Int)).toNat)))), (7, zi ((c : Int) + 1))], [], (zu m 21 ((wr (c : Int)).toNat) (wr (wr (wr (wr (z_b8 (f + ((c : Int) * s))))))))) κ)
    (o27 : wr (c : Int) < wr (m 17 1) → wr (c : Int) < wr e → wr k = 0 → wr (z_b8 (f + ((c : Int) * s))) < 99 → ¬ 0 < wr (wr (z_b8 (f + ((c : Int) * s)))) → (0 ≤ wr (c : Int) ∧ wr (c : Int) < 8))
    (o28 : wr (c : Int) < wr (m 17 1) → wr (c : Int) < wr e → wr k = 0 → wr (z_b8 (f + ((c : Int) * s))) < 99 → ¬ 0 < wr (wr (z_b8 (f + ((c : Int) * s)))) → (0 ≤ wr (c : Int) ∧ wr (c : Int) < 8))
    (o29 : wr (c : Int) < wr (m 17 1) → wr (c : Int) < wr e → wr k = 0 → wr (z_b8 (f + ((c : Int) * s))) < 99 → ¬ 0 < wr (wr (z_b8 (f + ((c : Int) * s)))) → T (D + 3) 122 (47, [(0, zr 1), (1, zi k), (3, zi f), (4, zi s), (5, zi e), (6, zi (t + ((zu m 21 ((wr (c : Int)).toNat) 0) 21 ((wr (c : Int)).toNat)))), (7, zi ((c : Int) + 1))], [], (zu m 21 ((wr (c : Int)).toNat) 0)) κ)
    (o30 : wr (c : Int) < wr (m 17 1) → wr (c : Int) < wr e → wr k = 0 → ¬ wr (z_b8 (f + ((c : Int) * s))) < 99 → (0 ≤ wr (c : Int) ∧ wr (c : Int) < 8))
    (o31 : wr (c : Int) < wr (m 17 1) → wr (c : Int) < wr e → wr k = 0 → ¬ wr (z_b8 (f + ((c : Int) * s))) < 99 → (0 ≤ wr (c : Int) ∧ wr (c : Int) < 8))
    (o32 : wr (c : Int) < wr (m 17 1) → wr (c : Int) < wr e → wr k = 0 → ¬ wr (z_b8 (f + ((c : Int) * s))) < 99 → T (D + 3) 122 (47, [(0, zr 1), (1, zi k), (3, zi f), (4, zi s), (5, zi e), (6, zi (t + ((zu m 21 ((wr (c : Int)).toNat) 99) 21 ((wr (c : Int)).toNat)))), (7, zi ((c : Int) + 1))], [], (zu m 21 ((wr (c : Int)).toNat) 99)) κ) :
    T (D + 3) 122 (47, lo, [], m) κ :=
  zkeep hT hlo (hT.1 [(47, [0, 1, 3, 4, 5, 6, 7])] 6 (D + 3) 122 _ κ (And.intro (fun a1 => (hT.1 [(47, [0, 1, 3, 4, 5, 6, 7])] 6 (D + 3) 122 (113, [(0, zr 1), (1, zi k), (3, zi f), (4, zi s), (5, zi e), (6, zi t), (7, zi (c : Int))], [zi k], m) _ (And.intro (fun a3 => (o1 a1 a3)) (fun a4 => (o2 a1 (Classical.byContradiction a4)))))) (fun a2 => (hT.1 [(47, [0, 1, 3, 4, 5, 6, 7])] 6 (D + 3) 122 (60, [(0, zr 1), (1, zi k), (3, zi f), (4, zi s), (5, zi e), (6, zi t), (7, zi (c : Int))], [zr 1], m) _ (And.intro (fun a5 => (hT.1 [(47, [0, 1, 3, 4, 5, 6, 7])] 6 (D + 3) 122 (89, [(0, zr 1), (1, zi k), (3, zi f), (4, zi s), (5, zi e), (6, zi t), (7, zi (c : Int))], [zi (c : Int), zr 21], m) _ (And.intro (And.intro (o3 (Classical.byContradiction a2) a5) trivial) (hT.1 [(47, [0, 1, 3, 4, 5, 6, 7])] 6 (D + 3) 122 (100, [(0, zr 1), (1, zi k), (3, zi f), (4, zi s), (5, zi e), (6, zi t), (7, zi (c : Int))], [zr 21, zi t], (zu m 21 ((wr (c : Int)).toNat) 0)) _ (And.intro (o4 (Classical.byContradiction a2) a5) (o5 (Classical.byContradiction a2) a5)))))) (fun a6 => (hT.1 [(47, [0, 1, 3, 4, 5, 6, 7])] 6 (D + 3) 122 (75, [(0, zr 1), (1, zi k), (3, zi f), (4, zi s), (5, zi e), (6, zi t), (7, zi (c : Int))], [zi (c : Int), zr 21], m) _ (hT.1 [(47, [0, 1, 3, 4, 5, 6, 7])] 6 (D + 3) 122 (83, [(0, zr 1), (1, zi k), (3, zi f), (4, zi s), (5, zi e), (6, zi t), (7, zi (c : Int))], [zi (f + ((c : Int) * s)), zi k, zi (c : Int), zr 21], m) _ (hT.1 [] 6 (D + 2) 167 _ _ (And.intro (fun a7 => (And.intro (fun a9 => (hT.1 [] 6 (D + 2) 167 (21, [(0, zi k), (1, zi (f + ((c : Int) * s)))], [zi (f + ((c : Int) * s))], m) _ (hT.1 [] 6 (D + 1) 166 _ _ (hT.1 [] 6 D 294 _ _ (And.intro (fun a11 => (hT.1 [] 6 (D + 1) 166 _ _ (hT.1 [] 6 D 295 _ _ (And.intro (fun a13 => (hT.1 [] 6 (D + 1) 166 _ _ (hT.1 [] 6 (D + 2) 167 _ _ (hT.1 [(47, [0, 1, 3, 4, 5, 6, 7])] 6 (D + 3) 122 _ _ (And.intro (And.intro (o6 (Classical.byContradiction a2) (Classical.byContradiction a6) a7 a9 a11 a13) trivial) (hT.1 [(47, [0, 1, 3, 4, 5, 6, 7])] 6 (D + 3) 122 (100, [(0, zr 1), (1, zi k), (3, zi f), (4, zi s), (5, zi e), (6, zi t), (7, zi (c : Int))], [zr 21, zi t], (zu m 21 ((wr (c : Int)).toNat) (wr (wr (wr (wr (f + ((c : Int) * s)))))))) _ (And.intro (o7 (Classical.byContradiction a2) (Classical.byContradiction a6) a7 a9 a11 a13) (o8 (Classical.byContradiction a2) (Classical.byContradiction a6) a7 a9 a11 a13)))))))) (fun a14 => (hT.1 [] 6 (D + 1) 166 _ _ (hT.1 [] 6 (D + 2) 167 _ _ (hT.1 [(47, [0, 1, 3, 4, 5, 6, 7])] 6 (D + 3) 122 _ _ (And.intro (And.intro (o9 (Classical.byContradiction a2) (Classical.byContradiction a6) a7 a9 a11 a14) trivial) (hT.1 [(47, [0, 1, 3, 4, 5, 6, 7])] 6 (D + 3) 122 (100, [(0, zr 1), (1, zi k), (3, zi f), (4, zi s), (5, zi e), (6, zi t), (7, zi (c : Int))], [zr 21, zi t], (zu m 21 ((wr (c : Int)).toNat) 0)) _ (And.intro (o10 (Classical.byContradiction a2) (Classical.byContradiction a6) a7 a9 a11 a14) (o11 (Classical.byContradiction a2) (Classical.byContradiction a6) a7 a9 a11 a14)))))))))))) (fun a12 => (hT.1 [] 6 (D + 1) 166 _ _ (hT.1 [] 6 D 295 _ _ (And.intro (fun _ => (hT.1 [] 6 (D + 1) 166 _ _ (hT.1 [] 6 (D + 2) 167 _ _ (hT.1 [(47, [0, 1, 3, 4, 5, 6, 7])] 6 (D + 3) 122 _ _ (And.intro (And.intro (o12 (Classical.byContradiction a2) (Classical.byContradiction a6) a7 a9 a12) trivial) (hT.1 [(47, [0, 1, 3, 4, 5, 6, 7])] 6 (D + 3) 122 (100, [(0, zr 1), (1, zi k), (3, zi f), (4, zi s), (5, zi e), (6, zi t), (7, zi (c : Int))], [zr 21, zi t], (zu m 21 ((wr (c : Int)).toNat) 99)) _ (And.intro (o13 (Classical.byContradiction a2) (Classical.byContradiction a6) a7 a9 a12) (o14 (Classical.byContradiction a2) (Classical.byContradiction a6) a7 a9 a12)))))))) (fun a15 => (a15 (z_litT rfl)).elim)))))))))) (fun a10 => (hT.1 [] 6 (D + 2) 167 (16, [(0, zi k), (1, zi (f + ((c : Int) * s)))], [zi (f + ((c : Int) * s))], m) _ (hT.1 [] 6 (D + 1) 166 _ _ (hT.1 [] 6 D 294 _ _ (And.intro (fun a16 => (hT.1 [] 6 (D + 1) 166 _ _ (hT.1 [] 6 D 295 _ _ (And.intro (fun a18 => (hT.1 [] 6 (D + 1) 166 _ _ (hT.1 [] 6 (D + 2) 167 _ _ (hT.1 [(47, [0, 1, 3, 4, 5, 6, 7])] 6 (D + 3) 122 _ _ (And.intro (And.intro (o15 (Classical.byContradiction a2) (Classical.byContradiction a6) a7 (Classical.byContradiction a10) a16 a18) trivial) (hT.1 [(47, [0, 1, 3, 4, 5, 6, 7])] 6 (D + 3) 122 (100, [(0, zr 1), (1, zi k), (3, zi f), (4, zi s), (5, zi e), (6, zi t), (7, zi (c : Int))], [zr 21, zi t], (zu m 21 ((wr (c : Int)).toNat) (wr (wr (wr (wr (z_s16 (f + ((c : Int) * s))))))))) _ (And.intro (o16 (Classical.byContradiction a2) (Classical.byContradiction a6) a7 (Classical.byContradiction a10) a16 a18) (o17 (Classical.byContradiction a2) (Classical.byContradiction a6) a7 (Classical.byContradiction a10) a16 a18)))))))) (fun a19 => (hT.1 [] 6 (D + 1) 166 _ _ (hT.1 [] 6 (D + 2) 167 _ _ (hT.1 [(47, [0, 1, 3, 4, 5, 6, 7])] 6 (D + 3) 122 _ _ (And.intro (And.intro (o18 (Classical.byContradiction a2) (Classical.byContradiction a6) a7 (Classical.byContradiction a10) a16 a19) trivial) (hT.1 [(47, [0, 1, 3, 4, 5, 6, 7])] 6 (D + 3) 122 (100, [(0, zr 1), (1, zi k), (3, zi f), (4, zi s), (5, zi e), (6, zi t), (7, zi (c : Int))], [zr 21, zi t], (zu m 21 ((wr (c : Int)).toNat) 0)) _ (And.intro (o19 (Classical.byContradiction a2) (Classical.byContradiction a6) a7 (Classical.byContradiction a10) a16 a19) (o20 (Classical.byContradiction a2) (Classical.byContradiction a6) a7 (Classical.byContradiction a10) a16 a19)))))))))))) (fun a17 => (hT.1 [] 6 (D + 1) 166 _ _ (hT.1 [] 6 D 295 _ _ (And.intro (fun _ => (hT.1 [] 6 (D + 1) 166 _ _ (hT.1 [] 6 (D + 2) 167 _ _ (hT.1 [(47, [0, 1, 3, 4, 5, 6, 7])] 6 (D + 3) 122 _ _ (And.intro (And.intro (o21 (Classical.byContradiction a2) (Classical.byContradiction a6) a7 (Classical.byContradiction a10) a17) trivial) (hT.1 [(47, [0, 1, 3, 4, 5, 6, 7])] 6 (D + 3) 122 (100, [(0, zr 1), (1, zi k), (3, zi f), (4, zi s), (5, zi e), (6, zi t), (7, zi (c : Int))], [zr 21, zi t], (zu m 21 ((wr (c : Int)).toNat) 99)) _ (And.intro (o22 (Classical.byContradiction a2) (Classical.byContradiction a6) a7 (Classical.byContradiction a10) a17) (o23 (Classical.byContradiction a2) (Classical.byContradiction a6) a7 (Classical.byContradiction a10) a17)))))))) (fun a20 => (a20 (z_litT rfl)).elim)))))))))))) (fun a8 => (hT.1 [] 6 (D + 1) 166 _ _ (hT.1 [] 6 D 294 _ _ (And.intro (fun a21 => (hT.1 [] 6 (D + 1) 166 _ _ (hT.1 [] 6 D 295 _ _ (And.intro (fun a23 => (hT.1 [] 6 (D + 1) 166 _ _ (hT.1 [] 6 (D + 2) 167 _ _ (hT.1 [(47, [0, 1, 3, 4, 5, 6, 7])] 6 (D + 3) 122 _ _ (And.intro (And.intro (o24 (Classical.byContradiction a2) (Classical.byContradiction a6) (Classical.byContradiction a8) a21 a23) trivial) (hT.1 [(47, [0, 1, 3, 4, 5, 6, 7])] 6 (D + 3) 122 (100, [(0, zr 1), (1, zi k), (3, zi f), (4, zi s), (5, zi e), (6, zi t), (7, zi (c : Int))], [zr 21, zi t], (zu m 21 ((wr (c : Int)).toNat) (wr (wr (wr (wr (z_b8 (f + ((c : Int) * s))))))))) _ (And.intro (o25 (Classical.byContradiction a2) (Classical.byContradiction a6) (Classical.byContradiction a8) a21 a23) (o26 (Classical.byContradiction a2) (Classical.byContradiction a6) (Classical.byContradiction a8) a21 a23)))))))) (fun a24 => (hT.1 [] 6 (D + 1) 166 _ _ (hT.1 [] 6 (D + 2) 167 _ _ (hT.1 [(47, [0, 1, 3, 4, 5, 6, 7])] 6 (D + 3) 122 _ _ (And.intro (And.intro (o27 (Classical.byContradiction a2) (Classical.byContradiction a6) (Classical.byContradiction a8) a21 a24) trivial) (hT.1 [(47, [0, 1, 3, 4, 5, 6, 7])] 6 (D + 3) 122 (100, [(0, zr 1), (1, zi k), (3, zi f), (4, zi s), (5, zi e), (6, zi t), (7, zi (c : Int))], [zr 21, zi t], (zu m 21 ((wr (c : Int)).toNat) 0)) _ (And.intro (o28 (Classical.byContradiction a2) (Classical.byContradiction a6) (Classical.byContradiction a8) a21 a24) (o29 (Classical.byContradiction a2) (Classical.byContradiction a6) (Classical.byContradiction a8) a21 a24)))))))))))) (fun a22 => (hT.1 [] 6 (D + 1) 166 _ _ (hT.1 [] 6 D 295 _ _ (And.intro (fun _ => (hT.1 [] 6 (D + 1) 166 _ _ (hT.1 [] 6 (D + 2) 167 _ _ (hT.1 [(47, [0, 1, 3, 4, 5, 6, 7])] 6 (D + 3) 122 _ _ (And.intro (And.intro (o30 (Classical.byContradiction a2) (Classical.byContradiction a6) (Classical.byContradiction a8) a22) trivial) (hT.1 [(47, [0, 1, 3, 4, 5, 6, 7])] 6 (D + 3) 122 (100, [(0, zr 1), (1, zi k), (3, zi f), (4, zi s), (5, zi e), (6, zi t), (7, zi (c : Int))], [zr 21, zi t], (zu m 21 ((wr (c : Int)).toNat) 99)) _ (And.intro (o31 (Classical.byContradiction a2) (Classical.byContradiction a6) (Classical.byContradiction a8) a22) (o32 (Classical.byContradiction a2) (Classical.byContradiction a6) (Classical.byContradiction a8) a22)))))))) (fun a25 => (a25 (z_litT rfl)).elim)))))))))))))))))))
theorem zb122_47 (hT : zRules T) {D : Nat} {κ : Option zA → zM → Prop} {m : zM} {k : Int} {f : Int} {s : Int} {e : Int} {t : Int} {c : Nat} {lo : zL} (hlo : z_keep [0, 1, 3, 4, 5, 6, 7] lo = [(0, zr 1), (1, zi k), (3, zi f), (4, zi s), (5, zi e), (6, zi t), (7, zi (c : Int))])  (hB : zB m) (h_k : 0 ≤ k ∧ k ≤ 3) (h_f : (-2147483648) ≤ f ∧ f ≤ 2147483647) (h_s : (-2147483648) ≤ s ∧ s ≤ 2147483647) (h_e : 0 ≤ e ∧ e ≤ 8) (h_t : 0 ≤ t ∧ t ≤ 800) (h_c : c ≤ 8) 
    (k1 : ¬ (c : Int) < (m 17 1) → ¬ k = 3 → κ (some (zi t)) m)
    (k2 : ¬ (c : Int) < (m 17 1) → k = 3 → κ (some (zi (-3))) m)
    (k3 : (c : Int) < (m 17 1) → ¬ (c : Int) < e → zB (zu m 21 c 0) → T (D + 3) 122 (47, [(0, zr 1), (1, zi k), (3, zi f), (4, zi s), (5, zi e), (6, zi (t + 0)), (7, zi ((c : Int) + 1))], [], (zu m 21 c 0)) κ)
    (k4 : (c : Int) < (m 17 1) → (c : Int) < e → ¬ k = 0 → ¬ k = 1 → wr (f + ((c : Int) * s)) < 99 → 0 < wr (f + ((c : Int) * s)) → zB (zu m 21 c (wr (f + ((c : Int) * s)))) → T (D + 3) 122 (47, [(0, zr 1), (1, zi k), (3, zi f), (4, zi s), (5, zi e), (6, zi (t + wr (f + ((c : Int) * s)))), (7, zi ((c : Int) + 1))], [], (zu m 21 c (wr (f + ((c : Int) * s))))) κ)
    (k5 : (c : Int) < (m 17 1) → (c : Int) < e → ¬ k = 0 → ¬ k = 1 → wr (f + ((c : Int) * s)) < 99 → ¬ 0 < wr (f + ((c : Int) * s)) → zB (zu m 21 c 0) → T (D + 3) 122 (47, [(0, zr 1), (1, zi k), (3, zi f), (4, zi s), (5, zi e), (6, zi (t + 0)), (7, zi ((c : Int) + 1))], [], (zu m 21 c 0)) κ)
    (k6 : (c : Int) < (m 17 1) → (c : Int) < e → ¬ k = 0 → ¬ k = 1 → ¬ wr (f + ((c : Int) * s)) < 99 → zB (zu m 21 c 99) → T (D + 3) 122 (47, [(0, zr 1), (1, zi k), (3, zi f), (4, zi s), (5, zi e), (6, zi (t + 99)), (7, zi ((c : Int) + 1))], [], (zu m 21 c 99)) κ)
    (k7 : (c : Int) < (m 17 1) → (c : Int) < e → ¬ k = 0 → k = 1 → (z_s16 (f + ((c : Int) * s))) < 99 → 0 < (z_s16 (f + ((c : Int) * s))) → zB (zu m 21 c (z_s16 (f + ((c : Int) * s)))) → T (D + 3) 122 (47, [(0, zr 1), (1, zi k), (3, zi f), (4, zi s), (5, zi e), (6, zi (t + (z_s16 (f + ((c : Int) * s))))), (7, zi ((c : Int) + 1))], [], (zu m 21 c (z_s16 (f + ((c : Int) * s))))) κ)
    (k8 : (c : Int) < (m 17 1) → (c : Int) < e → ¬ k = 0 → k = 1 → (z_s16 (f + ((c : Int) * s))) < 99 → ¬ 0 < (z_s16 (f + ((c : Int) * s))) → zB (zu m 21 c 0) → T (D + 3) 122 (47, [(0, zr 1), (1, zi k), (3, zi f), (4, zi s), (5, zi e), (6, zi (t + 0)), (7, zi ((c : Int) + 1))], [], (zu m 21 c 0)) κ)
    (k9 : (c : Int) < (m 17 1) → (c : Int) < e → ¬ k = 0 → k = 1 → ¬ (z_s16 (f + ((c : Int) * s))) < 99 → zB (zu m 21 c 99) → T (D + 3) 122 (47, [(0, zr 1), (1, zi k), (3, zi f), (4, zi s), (5, zi e), (6, zi (t + 99)), (7, zi ((c : Int) + 1))], [], (zu m 21 c 99)) κ)
    (k10 : (c : Int) < (m 17 1) → (c : Int) < e → k = 0 → (z_b8 (f + ((c : Int) * s))) < 99 → 0 < (z_b8 (f + ((c : Int) * s))) → zB (zu m 21 c (z_b8 (f + ((c : Int) * s)))) → T (D + 3) 122 (47, [(0, zr 1), (1, zi k), (3, zi f), (4, zi s), (5, zi e), (6, zi (t + (z_b8 (f + ((c : Int) * s))))), (7, zi ((c : Int) + 1))], [], (zu m 21 c (z_b8 (f + ((c : Int) * s))))) κ)
    (k11 : (c : Int) < (m 17 1) → (c : Int) < e → k = 0 → (z_b8 (f + ((c : Int) * s))) < 99 → ¬ 0 < (z_b8 (f + ((c : Int) * s))) → zB (zu m 21 c 0) → T (D + 3) 122 (47, [(0, zr 1), (1, zi k), (3, zi f), (4, zi s), (5, zi e), (6, zi (t + 0)), (7, zi ((c : Int) + 1))], [], (zu m 21 c 0)) κ)
    (k12 : (c : Int) < (m 17 1) → (c : Int) < e → k = 0 → ¬ (z_b8 (f + ((c : Int) * s))) < 99 → zB (zu m 21 c 99) → T (D + 3) 122 (47, [(0, zr 1), (1, zi k), (3, zi f), (4, zi s), (5, zi e), (6, zi (t + 99)), (7, zi ((c : Int) + 1))], [], (zu m 21 c 99)) κ) :
    T (D + 3) 122 (47, lo, [], m) κ := by
  have hb6 : 0 ≤ (m 17 1) ∧ (m 17 1) ≤ 8 := hB 17 1
  have hb7 : (-128) ≤ (z_b8 (f + ((c : Int) * s))) ∧ (z_b8 (f + ((c : Int) * s))) ≤ 127 := z_b8B (f + ((c : Int) * s))
  have hb8 : (-32768) ≤ (z_s16 (f + ((c : Int) * s))) ∧ (z_s16 (f + ((c : Int) * s))) ≤ 32767 := z_s16B (f + ((c : Int) * s))
  have hb9 : (-2147483648) ≤ wr (f + ((c : Int) * s)) ∧ wr (f + ((c : Int) * s)) ≤ 2147483647 := wrB (f + ((c : Int) * s))
  have he0 : wr (c : Int) = (c : Int) := wr_id (by omega) (by omega)
  have he1 : wr (m 17 1) = (m 17 1) := wr_id (by omega) (by omega)
  have he2 : wr e = e := wr_id (by omega) (by omega)
  have he3 : wr k = k := wr_id (by omega) (by omega)
  have he4 : wr (z_b8 (f + ((c : Int) * s))) = (z_b8 (f + ((c : Int) * s))) := wr_id (by omega) (by omega)
  have he5 : (c : Int).toNat = c := by omega
  have he6 : ((zu m 21 c (z_b8 (f + ((c : Int) * s)))) 21 c) = (z_b8 (f + ((c : Int) * s))) := (zu_sm (by omega))
  have he7 : ((zu m 21 c 0) 21 c) = 0 := (zu_sm (by omega))
  have he8 : ((zu m 21 c 99) 21 c) = 99 := (zu_sm (by omega))
  have he9 : wr (z_s16 (f + ((c : Int) * s))) = (z_s16 (f + ((c : Int) * s))) := wr_id (by omega) (by omega)
  have he10 : ((zu m 21 c (z_s16 (f + ((c : Int) * s)))) 21 c) = (z_s16 (f + ((c : Int) * s))) := (zu_sm (by omega))
  have he11 : wr (wr (f + ((c : Int) * s))) = wr (f + ((c : Int) * s)) := wr_id (by omega) (by omega)
  have he12 : ((zu m 21 c (wr (f + ((c : Int) * s)))) 21 c) = wr (f + ((c : Int) * s)) := (zu_sm (by omega))
  have he13 : wr t = t := wr_id (by omega) (by omega)
  have key := @zb122_47r T hT D κ m k f s e t c lo hlo
  simp only [he0, he1, he2, he3, he4, he5, he6, he7, he8, he9, he10, he11, he12, he13, Int.toNat_natCast] at key
  exact key
    k1
    k2
    (fun x0 x1 => by refine ⟨?_, ?_⟩ <;> omega)
    (fun x0 x1 => by refine ⟨?_, ?_⟩ <;> omega)
    (fun x0 x1 => k3 x0 x1 (zB_u hB (show (-1) ≤ 0 ∧ 0 ≤ 99 from ⟨by omega, by omega⟩)))
    (fun x0 x1 x2 x3 x4 x5 => by refine ⟨?_, ?_⟩ <;> omega)
    (fun x0 x1 x2 x3 x4 x5 => by refine ⟨?_, ?_⟩ <;> omega)
    (fun x0 x1 x2 x3 x4 x5 => k4 x0 x1 x2 x3 x4 x5 (zB_u hB (show (-1) ≤ wr (f + ((c : Int) * s)) ∧ wr (f + ((c : Int) * s)) ≤ 99 from ⟨by omega, by omega⟩)))
    (fun x0 x1 x2 x3 x4 x5 => by refine ⟨?_, ?_⟩ <;> omega)
    (fun x0 x1 x2 x3 x4 x5 => by refine ⟨?_, ?_⟩ <;> omega)
    (fun x0 x1 x2 x3 x4 x5 => k5 x0 x1 x2 x3 x4 x5 (zB_u hB (show (-1) ≤ 0 ∧ 0 ≤ 99 from ⟨by omega, by omega⟩)))
    (fun x0 x1 x2 x3 x4 => by refine ⟨?_, ?_⟩ <;> omega)
    (fun x0 x1 x2 x3 x4 => by refine ⟨?_, ?_⟩ <;> omega)
    (fun x0 x1 x2 x3 x4 => k6 x0 x1 x2 x3 x4 (zB_u hB (show (-1) ≤ 99 ∧ 99 ≤ 99 from ⟨by omega, by omega⟩)))
    (fun x0 x1 x2 x3 x4 x5 => by refine ⟨?_, ?_⟩ <;> omega)
    (fun x0 x1 x2 x3 x4 x5 => by refine ⟨?_, ?_⟩ <;> omega)
    (fun x0 x1 x2 x3 x4 x5 => k7 x0 x1 x2 x3 x4 x5 (zB_u hB (show (-1) ≤ (z_s16 (f + ((c : Int) * s))) ∧ (z_s16 (f + ((c : Int) * s))) ≤ 99 from ⟨by omega, by omega⟩)))
    (fun x0 x1 x2 x3 x4 x5 => by refine ⟨?_, ?_⟩ <;> omega)
    (fun x0 x1 x2 x3 x4 x5 => by refine ⟨?_, ?_⟩ <;> omega)
    (fun x0 x1 x2 x3 x4 x5 => k8 x0 x1 x2 x3 x4 x5 (zB_u hB (show (-1) ≤ 0 ∧ 0 ≤ 99 from ⟨by omega, by omega⟩)))
    (fun x0 x1 x2 x3 x4 => by refine ⟨?_, ?_⟩ <;> omega)
    (fun x0 x1 x2 x3 x4 => by refine ⟨?_, ?_⟩ <;> omega)
    (fun x0 x1 x2 x3 x4 => k9 x0 x1 x2 x3 x4 (zB_u hB (show (-1) ≤ 99 ∧ 99 ≤ 99 from ⟨by omega, by omega⟩)))
    (fun x0 x1 x2 x3 x4 => by refine ⟨?_, ?_⟩ <;> omega)
    (fun x0 x1 x2 x3 x4 => by refine ⟨?_, ?_⟩ <;> omega)
    (fun x0 x1 x2 x3 x4 => k10 x0 x1 x2 x3 x4 (zB_u hB (show (-1) ≤ (z_b8 (f + ((c : Int) * s))) ∧ (z_b8 (f + ((c : Int) * s))) ≤ 99 from ⟨by omega, by omega⟩)))
    (fun x0 x1 x2 x3 x4 => by refine ⟨?_, ?_⟩ <;> omega)
    (fun x0 x1 x2 x3 x4 => by refine ⟨?_, ?_⟩ <;> omega)
    (fun x0 x1 x2 x3 x4 => k11 x0 x1 x2 x3 x4 (zB_u hB (show (-1) ≤ 0 ∧ 0 ≤ 99 from ⟨by omega, by omega⟩)))
    (fun x0 x1 x2 x3 => by refine ⟨?_, ?_⟩ <;> omega)
    (fun x0 x1 x2 x3 => by refine ⟨?_, ?_⟩ <;> omega)
    (fun x0 x1 x2 x3 => k12 x0 x1 x2 x3 (zB_u hB (show (-1) ≤ 99 ∧ 99 ≤ 99 from ⟨by omega, by omega⟩)))
theorem zb223_0r (hT : zRules T) {D : Nat} {κ : Option zA → zM → Prop} {m : zM} {k : Int} {n : Int} {f : Int} {s : Int} 
    (o1 : wr k < 0 → κ (some (zi (-1))) (zu m 74 12 0))
    (o2 : ¬ wr k < 0 → 3 < wr k → κ (some (zi (-1))) (zu m 74 12 0))
    (o3 : ¬ wr k < 0 → ¬ 3 < wr k → ¬ 8 < wr n → ¬ wr k < 3 → T (D + 2) 223 (43, [(0, zr 74), (1, zi k), (2, zi n), (4, zi s), (5, zi 0), (6, zi f), (7, zi 0)], [], (zu m 74 12 0)) κ)
    (o4 : ¬ wr k < 0 → ¬ 3 < wr k → ¬ 8 < wr n → wr k < 3 → ¬ wr n < 0 → T (D + 2) 223 (43, [(0, zr 74), (1, zi k), (2, zi n), (4, zi s), (5, zi 0), (6, zi f), (7, zi 0)], [], (zu m 74 12 0)) κ)
    (o5 : ¬ wr k < 0 → ¬ 3 < wr k → ¬ 8 < wr n → wr k < 3 → wr n < 0 → κ (some (zi (-2))) (zu m 74 12 0))
    (o6 : ¬ wr k < 0 → ¬ 3 < wr k → 8 < wr n → κ (some (zi (-1))) (zu m 74 12 0)) :
    T (D + 2) 223 (0, [(0, zr 74), (1, zi k), (2, zi n), (3, zi f), (4, zi s)], [], m) κ :=
  hT.1 [(43, [0, 1, 2, 4, 5, 6, 7])] 6 (D + 2) 223 _ κ (And.intro trivial (hT.1 [(43, [0, 1, 2, 4, 5, 6, 7])] 6 (D + 2) 223 (8, [(0, zr 74), (1, zi k), (2, zi n), (3, zi f), (4, zi s)], [zi 3, zi 0, zi k], (zu m 74 12 0)) _ (hT.1 [] 6 (D + 1) 186 _ _ (And.intro (fun a1 => (And.intro (z_b01L rfl) (hT.1 [(43, [0, 1, 2, 4, 5, 6, 7])] 6 (D + 2) 223 _ _ (And.intro (fun _ => (o1 a1)) (fun a3 => (a3 (z_litT rfl)).elim))))) (fun a2 => (And.intro (fun a4 => (hT.1 [] 6 (D + 1) 186 (14, [(0, zi k), (1, zi 0), (2, zi 3)], [], (zu m 74 12 0)) _ (And.intro (z_b01L rfl) (hT.1 [(43, [0, 1, 2, 4, 5, 6, 7])] 6 (D + 2) 223 _ _ (And.intro (fun _ => (o2 a2 a4)) (fun a6 => (a6 (z_litT rfl)).elim)))))) (fun a5 => (hT.1 [] 6 (D + 1) 186 (10, [(0, zi k), (1, zi 0), (2, zi 3)], [], (zu m 74 12 0)) _ (And.intro (z_b01L rfl) (hT.1 [(43, [0, 1, 2, 4, 5, 6, 7])] 6 (D + 2) 223 _ _ (And.intro (fun a7 => (z_litF a7 rfl).elim) (fun _ => (And.intro (fun a8 => (hT.1 [(43, [0, 1, 2, 4, 5, 6, 7])] 6 (D + 2) 223 (24, [(0, zr 74), (1, zi k), (2, zi n), (3, zi f), (4, zi s)], [zi 3, zi k], (zu m 74 12 0)) _ (And.intro (fun a10 => (hT.1 [(43, [0, 1, 2, 4, 5, 6, 7])] 6 (D + 2) 223 (41, [(0, zr 74), (1, zi k), (2, zi n), (3, zi f), (4, zi s), (5, zi 0), (6, zi f)], [zi 0], (zu m 74 12 0)) _ (o3 a2 a5 a8 a10))) (fun a11 => (And.intro (fun a12 => (hT.1 [(43, [0, 1, 2, 4, 5, 6, 7])] 6 (D + 2) 223 (38, [(0, zr 74), (1, zi k), (2, zi n), (3, zi f), (4, zi s), (5, zi 0)], [zi f], (zu m 74 12 0)) _ (o4 a2 a5 a8 (Classical.byContradiction a11) a12))) (fun a13 => (o5 a2 a5 a8 (Classical.byContradiction a11) (Classical.byContradiction a13)))))))) (fun a9 => (o6 a2 a5 (Classical.byContradiction a9))))))))))))))))
theorem zb223_0 (hT : zRules T) {D : Nat} {κ : Option zA → zM → Prop} {m : zM} {k : Int} {n : Int} {f : Int} {s : Int}  (hB : zB m) (h_k : (-2147483648) ≤ k ∧ k ≤ 2147483647) (h_n : (-2147483648) ≤ n ∧ n ≤ 2147483647) (h_f : (-2147483648) ≤ f ∧ f ≤ 2147483647) (h_s : (-2147483648) ≤ s ∧ s ≤ 2147483647) 
    (k1 : k < 0 → zB (zu m 74 12 0) → κ (some (zi (-1))) (zu m 74 12 0))
    (k2 : ¬ k < 0 → 3 < k → zB (zu m 74 12 0) → κ (some (zi (-1))) (zu m 74 12 0))
    (k3 : ¬ k < 0 → ¬ 3 < k → ¬ 8 < n → ¬ k < 3 → zB (zu m 74 12 0) → T (D + 2) 223 (43, [(0, zr 74), (1, zi k), (2, zi n), (4, zi s), (5, zi 0), (6, zi f), (7, zi 0)], [], (zu m 74 12 0)) κ)
    (k4 : ¬ k < 0 → ¬ 3 < k → ¬ 8 < n → k < 3 → ¬ n < 0 → zB (zu m 74 12 0) → T (D + 2) 223 (43, [(0, zr 74), (1, zi k), (2, zi n), (4, zi s), (5, zi 0), (6, zi f), (7, zi 0)], [], (zu m 74 12 0)) κ)
    (k5 : ¬ k < 0 → ¬ 3 < k → ¬ 8 < n → k < 3 → n < 0 → zB (zu m 74 12 0) → κ (some (zi (-2))) (zu m 74 12 0))
    (k6 : ¬ k < 0 → ¬ 3 < k → 8 < n → zB (zu m 74 12 0) → κ (some (zi (-1))) (zu m 74 12 0)) :
    T (D + 2) 223 (0, [(0, zr 74), (1, zi k), (2, zi n), (3, zi f), (4, zi s)], [], m) κ := by
  have he0 : wr k = k := wr_id (by omega) (by omega)
  have he1 : wr n = n := wr_id (by omega) (by omega)
  have key := @zb223_0r T hT D κ m k n f s
  simp only [he0, he1, Int.toNat_natCast] at key
  exact key
    (fun x0 => k1 x0 (zB_u hB trivial))
    (fun x0 x1 => k2 x0 x1 (zB_u hB trivial))
    (fun x0 x1 x2 x3 => k3 x0 x1 x2 x3 (zB_u hB trivial))
    (fun x0 x1 x2 x3 x4 => k4 x0 x1 x2 x3 x4 (zB_u hB trivial))
    (fun x0 x1 x2 x3 x4 => k5 x0 x1 x2 x3 x4 (zB_u hB trivial))
    (fun x0 x1 x2 => k6 x0 x1 x2 (zB_u hB trivial))
theorem zb223_43r (hT : zRules T) {D : Nat} {κ : Option zA → zM → Prop} {m : zM} {k : Int} {n : Int} {s : Int} {v : Int} {t : Int} {c : Nat} {lo : zL} (hlo : z_keep [0, 1, 2, 4, 5, 6, 7] lo = [(0, zr 74), (1, zi k), (2, zi n), (4, zi s), (5, zi t), (6, zi v), (7, zi (c : Int))]) 
    (o1 : ¬ wr (c : Int) < wr (m 74 6) → ¬ wr k = 3 → κ (some (zi (wr t))) m)
    (o2 : ¬ wr (c : Int) < wr (m 74 6) → wr k = 3 → κ (some (zi (-3))) m)
    (o3 : wr (c : Int) < wr (m 74 6) → ¬ wr k = 0 → ¬ wr k = 1 → wr k = 3 → (0 ≤ wr (12 + (c : Int)) ∧ wr (12 + (c : Int)) < 59))
    (o4 : wr (c : Int) < wr (m 74 6) → ¬ wr k = 0 → ¬ wr k = 1 → wr k = 3 → (0 ≤ wr (12 + (c : Int)) ∧ wr (12 + (c : Int)) < 59))
    (o5 : wr (c : Int) < wr (m 74 6) → ¬ wr k = 0 → ¬ wr k = 1 → wr k = 3 → T (D + 2) 223 (43, [(0, zr 74), (1, zi k), (2, zi n), (4, zi s), (5, zi (t + ((zu m 75 ((wr (12 + (c : Int))).toNat) 0) 75 ((wr (12 + (c : Int))).toNat)))), (6, zi (v + s)), (7, zi ((c : Int) + 1))], [], (zu m 75 ((wr (12 + (c : Int))).toNat) 0)) κ)
    (o6 : wr (c : Int) < wr (m 74 6) → ¬ wr k = 0 → ¬ wr k = 1 → ¬ wr k = 3 → wr (c : Int) < wr n → wr v < 99 → 0 < wr (wr v) → (0 ≤ wr (12 + (c : Int)) ∧ wr (12 + (c : Int)) < 59))
    (o7 : wr (c : Int) < wr (m 74 6) → ¬ wr k = 0 → ¬ wr k = 1 → ¬ wr k = 3 → wr (c : Int) < wr n → wr v < 99 → 0 < wr (wr v) → (0 ≤ wr (12 + (c : Int)) ∧ wr (12 + (c : Int)) < 59))
    (o8 : wr (c : Int) < wr (m 74 6) → ¬ wr k = 0 → ¬ wr k = 1 → ¬ wr k = 3 → wr (c : Int) < wr n → wr v < 99 → 0 < wr (wr v) → T (D + 2) 223 (43, [(0, zr 74), (1, zi k), (2, zi n), (4, zi s), (5, zi (t + ((zu m 75 ((wr (12 + (c : Int))).toNat) (wr (wr v))) 75 ((wr (12 + (c : Int))).toNat)))), (6, zi (v + s)), (7, zi ((c : Int) + 1))], [], (zu m 75 ((wr (12 + (c : Int))).toNat) (wr (wr v)))) κ)
    (o9 : wr (c : Int) < wr (m 74 6) → ¬ wr k = 0 → ¬ wr k = 1 → ¬ wr k = 3 → wr (c : Int) < wr n → wr v < 99 → ¬ 0 < wr (wr v) → (0 ≤ wr (12 + (c : Int)) ∧ wr (12 + (c : Int)) < 59))
    (o10 : wr (c : Int) < wr (m 74 6) → ¬ wr k = 0 → ¬ wr k = 1 → ¬ wr k = 3 → wr (c : Int) < wr n → wr v < 99 → ¬ 0 < wr (wr v) → (0 ≤ wr (12 + (c : Int)) ∧ wr (12 + (c : Int)) < 59))
    (o11 : wr (c : Int) < wr (m 74 6) → ¬ wr k = 0 → ¬ wr k = 1 → ¬ wr k = 3 → wr (c : Int) < wr n → wr v < 99 → ¬ 0 < wr (wr v) → T (D + 2) 223 (43, [(0, zr 74), (1, zi k), (2, zi n), (4, zi s), (5, zi (t + ((zu m 75 ((wr (12 + (c : Int))).toNat) 0) 75 ((wr (12 + (c : Int))).toNat)))), (6, zi (v + s)), (7, zi ((c : Int) + 1))], [], (zu m 75 ((wr (12 + (c : Int))).toNat) 0)) κ)
    (o12 : wr (c : Int) < wr (m 74 6) → ¬ wr k = 0 → ¬ wr k = 1 → ¬ wr k = 3 → wr (c : Int) < wr n → ¬ wr v < 99 → (0 ≤ wr (12 + (c : Int)) ∧ wr (12 + (c : Int)) < 59))
    (o13 : wr (c : Int) < wr (m 74 6) → ¬ wr k = 0 → ¬ wr k = 1 → ¬ wr k = 3 → wr (c : Int) < wr n → ¬ wr v < 99 → (0 ≤ wr (12 + (c : Int)) ∧ wr (12 + (c : Int)) < 59))
    (o14 : wr (c : Int) < wr (m 74 6) → ¬ wr k = 0 → ¬ wr k = 1 → ¬ wr k = 3 → wr (c : Int) < wr n → ¬ wr v < 99 → T (D + 2) 223 (43, [(0, zr 74), (1, zi k), (2, zi n), (4, zi s), (5, zi (t + ((zu m 75 ((wr (12 + (c : Int))).toNat) 99) 75 ((wr (12 + (c : Int))).toNat)))), (6, zi (v + s)), (7, zi ((c : Int) + 1))], [], (zu m 75 ((wr (12 + (c : Int))).toNat) 99)) κ)
    (o15 : wr (c : Int) < wr (m 74 6) → ¬ wr k = 0 → ¬ wr k = 1 → ¬ wr k = 3 → ¬ wr (c : Int) < wr n → (0 ≤ wr (12 + (c : Int)) ∧ wr (12 + (c : Int)) < 59))
    (o16 : wr (c : Int) < wr (m 74 6) → ¬ wr k = 0 → ¬ wr k = 1 → ¬ wr k = 3 → ¬ wr (c : Int) < wr n → (0 ≤ wr (12 + (c : Int)) ∧ wr (12 + (c : Int)) < 59))
    (o17 : wr (c : Int) < wr (m 74 6) → ¬ wr k = 0 → ¬ wr k = 1 → ¬ wr k = 3 → ¬ wr (c : Int) < wr n → T (D + 2) 223 (43, [(0, zr 74), (1, zi k), (2, zi n), (4, zi s), (5, zi (t + ((zu m 75 ((wr (12 + (c : Int))).toNat) 0) 75 ((wr (12 + (c : Int))).toNat)))), (6, zi (v + s)), (7, zi ((c : Int) + 1))], [], (zu m 75 ((wr (12 + (c : Int))).toNat) 0)) κ)
    (o18 : wr (c : Int) < wr (m 74 6) → ¬ wr k = 0 → wr k = 1 → wr k = 3 → False)
    (o19 : wr (c : Int) < wr (m 74 6) → ¬ wr k = 0 → wr k = 1 → ¬ wr k = 3 → wr (c : Int) < wr n → wr (z_s16 v) < 99 → 0 < wr (wr (z_s16 v)) → (0 ≤ wr (12 + (c : Int)) ∧ wr (12 + (c : Int)) < 59))
    (o20 : wr (c : Int) < wr (m 74 6) → ¬ wr k = 0 → wr k = 1 → ¬ wr k = 3 → wr (c : Int) < wr n → wr (z_s16 v) < 99 → 0 < wr (wr (z_s16 v)) → (0 ≤ wr (12 + (c : Int)) ∧ wr (12 + (c : Int)) < 59))
    (o21 : wr (c : Int) < wr (m 74 6) → ¬ wr k = 0 → wr k = 1 → ¬ wr k = 3 → wr (c : Int) < wr n → wr (z_s16 v) < 99 → 0 < wr (wr (z_s16 v)) → T (D + 2) 223 (43, [(0, zr 74), (1, zi k), (2, zi n), (4, zi s), (5, zi (t + ((zu m 75 ((wr (12 + (c : Int))).toNat) (wr (wr (z_s16 v)))) 75 ((wr (12 + (c : Int))).toNat)))), (6, zi (v + s)), (7, zi ((c : Int) + 1))], [], (zu m 75 ((wr (12 + (c : Int))).toNat) (wr (wr (z_s16 v))))) κ)
    (o22 : wr (c : Int) < wr (m 74 6) → ¬ wr k = 0 → wr k = 1 → ¬ wr k = 3 → wr (c : Int) < wr n → wr (z_s16 v) < 99 → ¬ 0 < wr (wr (z_s16 v)) → (0 ≤ wr (12 + (c : Int)) ∧ wr (12 + (c : Int)) < 59))
    (o23 : wr (c : Int) < wr (m 74 6) → ¬ wr k = 0 → wr k = 1 → ¬ wr k = 3 → wr (c : Int) < wr n → wr (z_s16 v) < 99 → ¬ 0 < wr (wr (z_s16 v)) → (0 ≤ wr (12 + (c : Int)) ∧ wr (12 + (c : Int)) < 59))
    (o24 : wr (c : Int) < wr (m 74 6) → ¬ wr k = 0 → wr k = 1 → ¬ wr k = 3 → wr (c : Int) < wr n → wr (z_s16 v) < 99 → ¬ 0 < wr (wr (z_s16 v)) → T (D + 2) 223 (43, [(0, zr 74), (1, zi k), (2, zi n), (4, zi s), (5, zi (t + ((zu m 75 ((wr (12 + (c : Int))).toNat) 0) 75 ((wr (12 + (c : Int))).toNat)))), (6, zi (v + s)), (7, zi ((c : Int) + 1))], [], (zu m 75 ((wr (12 + (c : Int))).toNat) 0)) κ)
    (o25 : wr (c : Int) < wr (m 74 6) → ¬ wr k = 0 → wr k = 1 → ¬ wr k = 3 → wr (c : Int) < wr n → ¬ wr (z_s16 v) < 99 → (0 ≤ wr (12 + (c : Int)) ∧ wr (12 + (c : Int)) < 59))
    (o26 : wr (c : Int) < wr (m 74 6) → ¬ wr k = 0 → wr k = 1 → ¬ wr k = 3 → wr (c : Int) < wr n → ¬ wr (z_s16 v) < 99 → (0 ≤ wr (12 + (c : Int)) ∧ wr (12 + (c : Int)) < 59))
    (o27 : wr (c : Int) < wr (m 74 6) → ¬ wr k = 0 → wr k = 1 → ¬ wr k = 3 → wr (c : Int) < wr n → ¬ wr (z_s16 v) < 99 → T (D + 2) 223 (43, [(0, zr 74), (1, zi k), (2, zi n), (4, zi s), (5, zi (t + ((zu m 75 ((wr (12 + (c : Int))).toNat) 99) 75 ((wr (12 + (c : Int))).toNat)))), (6, zi (v + s)), (7, zi ((c : Int) + 1))], [], (zu m 75 ((wr (12 + (c : Int))).toNat) 99)) κ)
    (o28 : wr (c : Int) < wr (m 74 6) → ¬ wr k = 0 → wr k = 1 → ¬ wr k = 3 → ¬ wr (c : Int) < wr n → (0 ≤ wr (12 + (c : Int)) ∧ wr (12 + (c : Int)) < 59))
    (o29 : wr (c : Int) < wr (m 74 6) → ¬ wr k = 0 → wr k = 1 → ¬ wr k = 3 → ¬ wr (c : Int) < wr n → (0 ≤ wr (12 + (c : Int)) ∧ wr (12 + (c : Int)) < 59))
    (o30 : wr (c : Int) < wr (m 74 6) → ¬ wr k = 0 → wr k = 1 → ¬ wr k = 3 → ¬ wr (c : Int) < wr n → T (D + 2) 223 (43, [(0, zr 74), (1, zi k), (2, zi n), (4, zi s), (5, zi (t + ((zu m 75 ((wr (12 + (c : Int))).toNat) 0) 75 ((wr (12 + (c : Int))).toNat)))), (6, zi (v + s)), (7, zi ((c : Int) + 1))], [], (zu m 75 ((wr (12 + (c : Int))).toNat) 0)) κ)
    (o31 : wr (c : Int) < wr (m 74 6) → wr k = 0 → wr k = 3 → False)
    (o32 : wr (c : Int) < wr (m 74 6) → wr k = 0 → ¬ wr k = 3 → wr (c : Int) < wr n → wr (z_b8 v) < 99 → 0 < wr (wr (z_b8 v)) → (0 ≤ wr (12 + (c : Int)) ∧ wr (12 + (c : Int)) < 59))
    (o33 : wr (c : Int) < wr (m 74 6) → wr k = 0 → ¬ wr k = 3 → wr (c : Int) < wr n → wr (z_b8 v) < 99 → 0 < wr (wr (z_b8 v)) → (0 ≤ wr (12 + (c : Int)) ∧ wr (12 + (c : Int)) < 59))
    (o34 : wr (c : Int) < wr (m 74 6) → wr k = 0 → ¬ wr k = 3 → wr (c : Int) < wr n → wr (z_b8 v) < 99 → 0 < wr (wr (z_b8 v)) → T (D + 2) 223 (43, [(0, zr 74), (1, zi k), (2, zi n), (4, zi s), (5, zi (t + ((zu m 75 ((wr (12 + (c : Int))).toNat) (wr (wr (z_b8 v)))) 75 ((wr (12 + (c : Int))).toNat)))), (6, zi (v + s)), (7, zi ((c : Int) + 1))], [], (zu m 75 ((wr (12 + (c : Int))).toNat) (wr (wr (z_b8 v))))) κ)
    (o35 : wr (c : Int) < wr (m 74 6) → wr k = 0 → ¬ wr k = 3 → wr (c : Int) < wr n → wr (z_b8 v) < 99 → ¬ 0 < wr (wr (z_b8 v)) → (0 ≤ wr (12 + (c : Int)) ∧ wr (12 + (c : Int)) < 59))
    (o36 : wr (c : Int) < wr (m 74 6) → wr k = 0 → ¬ wr k = 3 → wr (c : Int) < wr n → wr (z_b8 v) < 99 → ¬ 0 < wr (wr (z_b8 v)) → (0 ≤ wr (12 + (c : Int)) ∧ wr (12 + (c : Int)) < 59))
    (o37 : wr (c : Int) < wr (m 74 6) → wr k = 0 → ¬ wr k = 3 → wr (c : Int) < wr n → wr (z_b8 v) < 99 → ¬ 0 < wr (wr (z_b8 v)) → T (D + 2) 223 (43, [(0, zr 74), (1, zi k), (2, zi n), (4, zi s), (5, zi (t + ((zu m 75 ((wr (12 + (c : Int))).toNat) 0) 75 ((wr (12 + (c : Int))).toNat)))), (6, zi (v + s)), (7, zi ((c : Int) + 1))], [], (zu m 75 ((wr (12 + (c : Int))).toNat) 0)) κ)
    (o38 : wr (c : Int) < wr (m 74 6) → wr k = 0 → ¬ wr k = 3 → wr (c : Int) < wr n → ¬ wr (z_b8 v) < 99 → (0 ≤ wr (12 + (c : Int)) ∧ wr (12 + (c : Int)) < 59))
    (o39 : wr (c : Int) < wr (m 74 6) → wr k = 0 → ¬ wr k = 3 → wr (c : Int) < wr n → ¬ wr (z_b8 v) < 99 → (0 ≤ wr (12 + (c : Int)) ∧ wr (12 + (c : Int)) < 59))
    (o40 : wr (c : Int) < wr (m 74 6) → wr k = 0 → ¬ wr k = 3 → wr (c : Int) < wr n → ¬ wr (z_b8 v) < 99 → T (D + 2) 223 (43, [(0, zr 74), (1, zi k), (2, zi n), (4, zi s), (5, zi (t + ((zu m 75 ((wr (12 + (c : Int))).toNat) 99) 75 ((wr (12 + (c : Int))).toNat)))), (6, zi (v + s)), (7, zi ((c : Int) + 1))], [], (zu m 75 ((wr (12 + (c : Int))).toNat) 99)) κ)
    (o41 : wr (c : Int) < wr (m 74 6) → wr k = 0 → ¬ wr k = 3 → ¬ wr (c : Int) < wr n → (0 ≤ wr (12 + (c : Int)) ∧ wr (12 + (c : Int)) < 59))
    (o42 : wr (c : Int) < wr (m 74 6) → wr k = 0 → ¬ wr k = 3 → ¬ wr (c : Int) < wr n → (0 ≤ wr (12 + (c : Int)) ∧ wr (12 + (c : Int)) < 59))
    (o43 : wr (c : Int) < wr (m 74 6) → wr k = 0 → ¬ wr k = 3 → ¬ wr (c : Int) < wr n → T (D + 2) 223 (43, [(0, zr 74), (1, zi k), (2, zi n), (4, zi s), (5, zi (t + ((zu m 75 ((wr (12 + (c : Int))).toNat) 0) 75 ((wr (12 + (c : Int))).toNat)))), (6, zi (v + s)), (7, zi ((c : Int) + 1))], [], (zu m 75 ((wr (12 + (c : Int))).toNat) 0)) κ) :
    T (D + 2) 223 (43, lo, [], m) κ :=
  zkeep hT hlo (hT.1 [(43, [0, 1, 2, 4, 5, 6, 7])] 6 (D + 2) 223 _ κ (And.intro (fun a1 => (hT.1 [(43, [0, 1, 2, 4, 5, 6, 7])] 6 (D + 2) 223 (143, [(0, zr 74), (1, zi k), (2, zi n), (4, zi s), (5, zi t), (6, zi v), (7, zi (c : Int))], [zi 3, zi k], m) _ (And.intro (fun a3 => (o1 a1 a3)) (fun a4 => (o2 a1 (Classical.byContradiction a4)))))) (fun a2 => (And.intro (fun a5 => (hT.1 [(43, [0, 1, 2, 4, 5, 6, 7])] 6 (D + 2) 223 (62, [(0, zr 74), (1, zi k), (2, zi n), (4, zi s), (5, zi t), (6, zi v), (7, zi (c : Int))], [], m) _ (And.intro (fun a7 => (hT.1 [(43, [0, 1, 2, 4, 5, 6, 7])] 6 (D + 2) 223 (78, [(0, zr 74), (1, zi k), (2, zi n), (4, zi s), (5, zi t), (6, zi v), (7, zi (c : Int)), (8, zi v)], [zr 74], m) _ (hT.1 [(43, [0, 1, 2, 4, 5, 6, 7])] 6 (D + 2) 223 (88, [(0, zr 74), (1, zi k), (2, zi n), (4, zi s), (5, zi t), (6, zi v), (7, zi (c : Int)), (8, zi v)], [zi 3, zi k, zi (12 + (c : Int)), zr 75], m) _ (And.intro (fun a9 => (And.intro (And.intro (o3 (Classical.byContradiction a2) a5 a7 a9) trivial) (hT.1 [(43, [0, 1, 2, 4, 5, 6, 7])] 6 (D + 2) 223 (116, [(0, zr 74), (1, zi k), (2, zi n), (4, zi s), (5, zi t), (6, zi v), (7, zi (c : Int)), (8, zi v)], [zr 74, zi t], (zu m 75 ((wr (12 + (c : Int))).toNat) 0)) _ (And.intro (o4 (Classical.byContradiction a2) a5 a7 a9) (hT.1 [(43, [0, 1, 2, 4, 5, 6, 7])] 6 (D + 2) 223 (126, [(0, zr 74), (1, zi k), (2, zi n), (4, zi s), (5, zi t), (6, zi v), (7, zi (c : Int)), (8, zi v)], [zi (t + ((zu m 75 ((wr (12 + (c : Int))).toNat) 0) 75 ((wr (12 + (c : Int))).toNat)))], (zu m 75 ((wr (12 + (c : Int))).toNat) 0)) _ (hT.1 [(43, [0, 1, 2, 4, 5, 6, 7])] 6 (D + 2) 223 (138, [(0, zr 74), (1, zi k), (2, zi n), (4, zi s), (5, zi (t + ((zu m 75 ((wr (12 + (c : Int))).toNat) 0) 75 ((wr (12 + (c : Int))).toNat)))), (6, zi (v + s)), (7, zi ((c : Int) + 1)), (8, zi v)], [], (zu m 75 ((wr (12 + (c : Int))).toNat) 0)) _ (o5 (Classical.byContradiction a2) a5 a7 a9))))))) (fun a10 => (And.intro (fun a11 => (hT.1 [(43, [0, 1, 2, 4, 5, 6, 7])] 6 (D + 2) 223 (104, [(0, zr 74), (1, zi k), (2, zi n), (4, zi s), (5, zi t), (6, zi v), (7, zi (c : Int)), (8, zi v)], [zi 99, zi 0, zi (12 + (c : Int)), zr 75], m) _ (hT.1 [] 6 (D + 1) 294 _ _ (And.intro (fun a13 => (hT.1 [(43, [0, 1, 2, 4, 5, 6, 7])] 6 (D + 2) 223 _ _ (hT.1 [] 6 (D + 1) 295 _ _ (And.intro (fun a15 => (hT.1 [(43, [0, 1, 2, 4, 5, 6, 7])] 6 (D + 2) 223 _ _ (And.intro (And.intro (o6 (Classical.byContradiction a2) a5 a7 a10 a11 a13 a15) trivial) (hT.1 [(43, [0, 1, 2, 4, 5, 6, 7])] 6 (D + 2) 223 (123, [(0, zr 74), (1, zi k), (2, zi n), (4, zi s), (5, zi t), (6, zi v), (7, zi (c : Int)), (8, zi v)], [zi (c : Int), zi 12, zr 75, zi t], (zu m 75 ((wr (12 + (c : Int))).toNat) (wr (wr v)))) _ (And.intro (o7 (Classical.byContradiction a2) a5 a7 a10 a11 a13 a15) (hT.1 [(43, [0, 1, 2, 4, 5, 6, 7])] 6 (D + 2) 223 (132, [(0, zr 74), (1, zi k), (2, zi n), (4, zi s), (5, zi (t + ((zu m 75 ((wr (12 + (c : Int))).toNat) (wr (wr v))) 75 ((wr (12 + (c : Int))).toNat)))), (6, zi v), (7, zi (c : Int)), (8, zi v)], [zi s, zi v], (zu m 75 ((wr (12 + (c : Int))).toNat) (wr (wr v)))) _ (o8 (Classical.byContradiction a2) a5 a7 a10 a11 a13 a15))))))) (fun a16 => (hT.1 [(43, [0, 1, 2, 4, 5, 6, 7])] 6 (D + 2) 223 _ _ (And.intro (And.intro (o9 (Classical.byContradiction a2) a5 a7 a10 a11 a13 a16) trivial) (hT.1 [(43, [0, 1, 2, 4, 5, 6, 7])] 6 (D + 2) 223 (123, [(0, zr 74), (1, zi k), (2, zi n), (4, zi s), (5, zi t), (6, zi v), (7, zi (c : Int)), (8, zi v)], [zi (c : Int), zi 12, zr 75, zi t], (zu m 75 ((wr (12 + (c : Int))).toNat) 0)) _ (And.intro (o10 (Classical.byContradiction a2) a5 a7 a10 a11 a13 a16) (hT.1 [(43, [0, 1, 2, 4, 5, 6, 7])] 6 (D + 2) 223 (132, [(0, zr 74), (1, zi k), (2, zi n), (4, zi s), (5, zi (t + ((zu m 75 ((wr (12 + (c : Int))).toNat) 0) 75 ((wr (12 + (c : Int))).toNat)))), (6, zi v), (7, zi (c : Int)), (8, zi v)], [zi s, zi v], (zu m 75 ((wr (12 + (c : Int))).toNat) 0)) _ (o11 (Classical.byContradiction a2) a5 a7 a10 a11 a13 a16))))))))))) (fun a14 => (hT.1 [(43, [0, 1, 2, 4, 5, 6, 7])] 6 (D + 2) 223 _ _ (hT.1 [] 6 (D + 1) 295 _ _ (And.intro (fun _ => (hT.1 [(43, [0, 1, 2, 4, 5, 6, 7])] 6 (D + 2) 223 _ _ (And.intro (And.intro (o12 (Classical.byContradiction a2) a5 a7 a10 a11 a14) trivial) (hT.1 [(43, [0, 1, 2, 4, 5, 6, 7])] 6 (D + 2) 223 (123, [(0, zr 74), (1, zi k), (2, zi n), (4, zi s), (5, zi t), (6, zi v), (7, zi (c : Int)), (8, zi v)], [zi (c : Int), zi 12, zr 75, zi t], (zu m 75 ((wr (12 + (c : Int))).toNat) 99)) _ (And.intro (o13 (Classical.byContradiction a2) a5 a7 a10 a11 a14) (hT.1 [(43, [0, 1, 2, 4, 5, 6, 7])] 6 (D + 2) 223 (132, [(0, zr 74), (1, zi k), (2, zi n), (4, zi s), (5, zi (t + ((zu m 75 ((wr (12 + (c : Int))).toNat) 99) 75 ((wr (12 + (c : Int))).toNat)))), (6, zi v), (7, zi (c : Int)), (8, zi v)], [zi s, zi v], (zu m 75 ((wr (12 + (c : Int))).toNat) 99)) _ (o14 (Classical.byContradiction a2) a5 a7 a10 a11 a14))))))) (fun a17 => (a17 (z_litT rfl)).elim))))))))) (fun a12 => (hT.1 [(43, [0, 1, 2, 4, 5, 6, 7])] 6 (D + 2) 223 (112, [(0, zr 74), (1, zi k), (2, zi n), (4, zi s), (5, zi t), (6, zi v), (7, zi (c : Int)), (8, zi v)], [zi 0, zi (12 + (c : Int)), zr 75], m) _ (And.intro (And.intro (o15 (Classical.byContradiction a2) a5 a7 a10 a12) trivial) (hT.1 [(43, [0, 1, 2, 4, 5, 6, 7])] 6 (D + 2) 223 (123, [(0, zr 74), (1, zi k), (2, zi n), (4, zi s), (5, zi t), (6, zi v), (7, zi (c : Int)), (8, zi v)], [zi (c : Int), zi 12, zr 75, zi t], (zu m 75 ((wr (12 + (c : Int))).toNat) 0)) _ (And.intro (o16 (Classical.byContradiction a2) a5 a7 a10 a12) (hT.1 [(43, [0, 1, 2, 4, 5, 6, 7])] 6 (D + 2) 223 (132, [(0, zr 74), (1, zi k), (2, zi n), (4, zi s), (5, zi (t + ((zu m 75 ((wr (12 + (c : Int))).toNat) 0) 75 ((wr (12 + (c : Int))).toNat)))), (6, zi v), (7, zi (c : Int)), (8, zi v)], [zi s, zi v], (zu m 75 ((wr (12 + (c : Int))).toNat) 0)) _ (o17 (Classical.byContradiction a2) a5 a7 a10 a12))))))))))))) (fun a8 => (hT.1 [(43, [0, 1, 2, 4, 5, 6, 7])] 6 (D + 2) 223 (75, [(0, zr 74), (1, zi k), (2, zi n), (4, zi s), (5, zi t), (6, zi v), (7, zi (c : Int))], [zi (z_s16 v)], m) _ (hT.1 [(43, [0, 1, 2, 4, 5, 6, 7])] 6 (D + 2) 223 (86, [(0, zr 74), (1, zi k), (2, zi n), (4, zi s), (5, zi t), (6, zi v), (7, zi (c : Int)), (8, zi (z_s16 v))], [zi (12 + (c : Int)), zr 75], m) _ (And.intro (fun a18 => (o18 (Classical.byContradiction a2) a5 (Classical.byContradiction a8) a18).elim) (fun a19 => (And.intro (fun a20 => (hT.1 [(43, [0, 1, 2, 4, 5, 6, 7])] 6 (D + 2) 223 (101, [(0, zr 74), (1, zi k), (2, zi n), (4, zi s), (5, zi t), (6, zi v), (7, zi (c : Int)), (8, zi (z_s16 v))], [zi (12 + (c : Int)), zr 75], m) _ (hT.1 [] 6 (D + 1) 294 _ _ (And.intro (fun a22 => (hT.1 [(43, [0, 1, 2, 4, 5, 6, 7])] 6 (D + 2) 223 _ _ (hT.1 [] 6 (D + 1) 295 _ _ (And.intro (fun a24 => (hT.1 [(43, [0, 1, 2, 4, 5, 6, 7])] 6 (D + 2) 223 _ _ (And.intro (And.intro (o19 (Classical.byContradiction a2) a5 (Classical.byContradiction a8) a19 a20 a22 a24) trivial) (hT.1 [(43, [0, 1, 2, 4, 5, 6, 7])] 6 (D + 2) 223 (123, [(0, zr 74), (1, zi k), (2, zi n), (4, zi s), (5, zi t), (6, zi v), (7, zi (c : Int)), (8, zi (z_s16 v))], [zi (c : Int), zi 12, zr 75, zi t], (zu m 75 ((wr (12 + (c : Int))).toNat) (wr (wr (z_s16 v))))) _ (And.intro (o20 (Classical.byContradiction a2) a5 (Classical.byContradiction a8) a19 a20 a22 a24) (hT.1 [(43, [0, 1, 2, 4, 5, 6, 7])] 6 (D + 2) 223 (132, [(0, zr 74), (1, zi k), (2, zi n), (4, zi s), (5, zi (t + ((zu m 75 ((wr (12 + (c : Int))).toNat) (wr (wr (z_s16 v)))) 75 ((wr (12 + (c : Int))).toNat)))), (6, zi v), (7, zi (c : Int)), (8, zi (z_s16 v))], [zi s, zi v], (zu m 75 ((wr (12 + (c : Int))).toNat) (wr (wr (z_s16 v))))) _ (o21 (Classical.byContradiction a2) a5 (Classical.byContradiction a8) a19 a20 a22 a24))))))) (fun a25 => (hT.1 [(43, [0, 1, 2, 4, 5, 6, 7])] 6 (D + 2) 223 _ _ (And.intro (And.intro (o22 (Classical.byContradiction a2) a5 (Classical.byContradiction a8) a19 a20 a22 a25) trivial) (hT.1 [(43, [0, 1, 2, 4, 5, 6, 7])] 6 (D + 2) 223 (123, [(0, zr 74), (1, zi k), (2, zi n), (4, zi s), (5, zi t), (6, zi v), (7, zi (c : Int)), (8, zi (z_s16 v))], [zi (c : Int), zi 12, zr 75, zi t], (zu m 75 ((wr (12 + (c : Int))).toNat) 0)) _ (And.intro (o23 (Classical.byContradiction a2) a5 (Classical.byContradiction a8) a19 a20 a22 a25) (hT.1 [(43, [0, 1, 2, 4, 5, 6, 7])] 6 (D + 2) 223 (132, [(0, zr 74), (1, zi k), (2, zi n), (4, zi s), (5, zi (t + ((zu m 75 ((wr (12 + (c : Int))).toNat) 0) 75 ((wr (12 + (c : Int))).toNat)))), (6, zi v), (7, zi (c : Int)), (8, zi (z_s16 v))], [zi s, zi v], (zu m 75 ((wr (12 + (c : Int))).toNat) 0)) _ (o24 (Classical.byContradiction a2) a5 (Classical.byContradiction a8) a19 a20 a22 a25))))))))))) (fun a23 => (hT.1 [(43, [0, 1, 2, 4, 5, 6, 7])] 6 (D + 2) 223 _ _ (hT.1 [] 6 (D + 1) 295 _ _ (And.intro (fun _ => (hT.1 [(43, [0, 1, 2, 4, 5, 6, 7])] 6 (D + 2) 223 _ _ (And.intro (And.intro (o25 (Classical.byContradiction a2) a5 (Classical.byContradiction a8) a19 a20 a23) trivial) (hT.1 [(43, [0, 1, 2, 4, 5, 6, 7])] 6 (D + 2) 223 (123, [(0, zr 74), (1, zi k), (2, zi n), (4, zi s), (5, zi t), (6, zi v), (7, zi (c : Int)), (8, zi (z_s16 v))], [zi (c : Int), zi 12, zr 75, zi t], (zu m 75 ((wr (12 + (c : Int))).toNat) 99)) _ (And.intro (o26 (Classical.byContradiction a2) a5 (Classical.byContradiction a8) a19 a20 a23) (hT.1 [(43, [0, 1, 2, 4, 5, 6, 7])] 6 (D + 2) 223 (132, [(0, zr 74), (1, zi k), (2, zi n), (4, zi s), (5, zi (t + ((zu m 75 ((wr (12 + (c : Int))).toNat) 99) 75 ((wr (12 + (c : Int))).toNat)))), (6, zi v), (7, zi (c : Int)), (8, zi (z_s16 v))], [zi s, zi v], (zu m 75 ((wr (12 + (c : Int))).toNat) 99)) _ (o27 (Classical.byContradiction a2) a5 (Classical.byContradiction a8) a19 a20 a23))))))) (fun a26 => (a26 (z_litT rfl)).elim))))))))) (fun a21 => (hT.1 [(43, [0, 1, 2, 4, 5, 6, 7])] 6 (D + 2) 223 (97, [(0, zr 74), (1, zi k), (2, zi n), (4, zi s), (5, zi t), (6, zi v), (7, zi (c : Int)), (8, zi (z_s16 v))], [zi (12 + (c : Int)), zr 75], m) _ (And.intro (And.intro (o28 (Classical.byContradiction a2) a5 (Classical.byContradiction a8) a19 a21) trivial) (hT.1 [(43, [0, 1, 2, 4, 5, 6, 7])] 6 (D + 2) 223 (119, [(0, zr 74), (1, zi k), (2, zi n), (4, zi s), (5, zi t), (6, zi v), (7, zi (c : Int)), (8, zi (z_s16 v))], [zr 75, zi t], (zu m 75 ((wr (12 + (c : Int))).toNat) 0)) _ (And.intro (o29 (Classical.byContradiction a2) a5 (Classical.byContradiction a8) a19 a21) (hT.1 [(43, [0, 1, 2, 4, 5, 6, 7])] 6 (D + 2) 223 (128, [(0, zr 74), (1, zi k), (2, zi n), (4, zi s), (5, zi (t + ((zu m 75 ((wr (12 + (c : Int))).toNat) 0) 75 ((wr (12 + (c : Int))).toNat)))), (6, zi v), (7, zi (c : Int)), (8, zi (z_s16 v))], [], (zu m 75 ((wr (12 + (c : Int))).toNat) 0)) _ (o30 (Classical.byContradiction a2) a5 (Classical.byContradiction a8) a19 a21)))))))))))))))) (fun a6 => (hT.1 [(43, [0, 1, 2, 4, 5, 6, 7])] 6 (D + 2) 223 (56, [(0, zr 74), (1, zi k), (2, zi n), (4, zi s), (5, zi t), (6, zi v), (7, zi (c : Int))], [], m) _ (hT.1 [(43, [0, 1, 2, 4, 5, 6, 7])] 6 (D + 2) 223 (81, [(0, zr 74), (1, zi k), (2, zi n), (4, zi s), (5, zi t), (6, zi v), (7, zi (c : Int)), (8, zi (z_b8 v))], [zr 75], m) _ (And.intro (fun a27 => (o31 (Classical.byContradiction a2) (Classical.byContradiction a6) a27).elim) (fun a28 => (hT.1 [(43, [0, 1, 2, 4, 5, 6, 7])] 6 (D + 2) 223 (91, [(0, zr 74), (1, zi k), (2, zi n), (4, zi s), (5, zi t), (6, zi v), (7, zi (c : Int)), (8, zi (z_b8 v))], [zi (12 + (c : Int)), zr 75], m) _ (And.intro (fun a29 => (hT.1 [(43, [0, 1, 2, 4, 5, 6, 7])] 6 (D + 2) 223 (106, [(0, zr 74), (1, zi k), (2, zi n), (4, zi s), (5, zi t), (6, zi v), (7, zi (c : Int)), (8, zi (z_b8 v))], [zi (z_b8 v), zi 99, zi 0, zi (12 + (c : Int)), zr 75], m) _ (hT.1 [] 6 (D + 1) 294 _ _ (And.intro (fun a31 => (hT.1 [(43, [0, 1, 2, 4, 5, 6, 7])] 6 (D + 2) 223 _ _ (hT.1 [] 6 (D + 1) 295 _ _ (And.intro (fun a33 => (hT.1 [(43, [0, 1, 2, 4, 5, 6, 7])] 6 (D + 2) 223 _ _ (And.intro (And.intro (o32 (Classical.byContradiction a2) (Classical.byContradiction a6) a28 a29 a31 a33) trivial) (hT.1 [(43, [0, 1, 2, 4, 5, 6, 7])] 6 (D + 2) 223 (123, [(0, zr 74), (1, zi k), (2, zi n), (4, zi s), (5, zi t), (6, zi v), (7, zi (c : Int)), (8, zi (z_b8 v))], [zi (c : Int), zi 12, zr 75, zi t], (zu m 75 ((wr (12 + (c : Int))).toNat) (wr (wr (z_b8 v))))) _ (And.intro (o33 (Classical.byContradiction a2) (Classical.byContradiction a6) a28 a29 a31 a33) (hT.1 [(43, [0, 1, 2, 4, 5, 6, 7])] 6 (D + 2) 223 (132, [(0, zr 74), (1, zi k), (2, zi n), (4, zi s), (5, zi (t + ((zu m 75 ((wr (12 + (c : Int))).toNat) (wr (wr (z_b8 v)))) 75 ((wr (12 + (c : Int))).toNat)))), (6, zi v), (7, zi (c : Int)), (8, zi (z_b8 v))], [zi s, zi v], (zu m 75 ((wr (12 + (c : Int))).toNat) (wr (wr (z_b8 v))))) _ (o34 (Classical.byContradiction a2) (Classical.byContradiction a6) a28 a29 a31 a33))))))) (fun a34 => (hT.1 [(43, [0, 1, 2, 4, 5, 6, 7])] 6 (D + 2) 223 _ _ (And.intro (And.intro (o35 (Classical.byContradiction a2) (Classical.byContradiction a6) a28 a29 a31 a34) trivial) (hT.1 [(43, [0, 1, 2, 4, 5, 6, 7])] 6 (D + 2) 223 (123, [(0, zr 74), (1, zi k), (2, zi n), (4, zi s), (5, zi t), (6, zi v), (7, zi (c : Int)), (8, zi (z_b8 v))], [zi (c : Int), zi 12, zr 75, zi t], (zu m 75 ((wr (12 + (c : Int))).toNat) 0)) _ (And.intro (o36 (Classical.byContradiction a2) (Classical.byContradiction a6) a28 a29 a31 a34) (hT.1 [(43, [0, 1, 2, 4, 5, 6, 7])] 6 (D + 2) 223 (132, [(0, zr 74), (1, zi k), (2, zi n), (4, zi s), (5, zi (t + ((zu m 75 ((wr (12 + (c : Int))).toNat) 0) 75 ((wr (12 + (c : Int))).toNat)))), (6, zi v), (7, zi (c : Int)), (8, zi (z_b8 v))], [zi s, zi v], (zu m 75 ((wr (12 + (c : Int))).toNat) 0)) _ (o37 (Classical.byContradiction a2) (Classical.byContradiction a6) a28 a29 a31 a34))))))))))) (fun a32 => (hT.1 [(43, [0, 1, 2, 4, 5, 6, 7])] 6 (D + 2) 223 _ _ (hT.1 [] 6 (D + 1) 295 _ _ (And.intro (fun _ => (hT.1 [(43, [0, 1, 2, 4, 5, 6, 7])] 6 (D + 2) 223 _ _ (And.intro (And.intro (o38 (Classical.byContradiction a2) (Classical.byContradiction a6) a28 a29 a32) trivial) (hT.1 [(43, [0, 1, 2, 4, 5, 6, 7])] 6 (D + 2) 223 (123, [(0, zr 74), (1, zi k), (2, zi n), (4, zi s), (5, zi t), (6, zi v), (7, zi (c : Int)), (8, zi (z_b8 v))], [zi (c : Int), zi 12, zr 75, zi t], (zu m 75 ((wr (12 + (c : Int))).toNat) 99)) _ (And.intro (o39 (Classical.byContradiction a2) (Classical.byContradiction a6) a28 a29 a32) (hT.1 [(43, [0, 1, 2, 4, 5, 6, 7])] 6 (D + 2) 223 (132, [(0, zr 74), (1, zi k), (2, zi n), (4, zi s), (5, zi (t + ((zu m 75 ((wr (12 + (c : Int))).toNat) 99) 75 ((wr (12 + (c : Int))).toNat)))), (6, zi v), (7, zi (c : Int)), (8, zi (z_b8 v))], [zi s, zi v], (zu m 75 ((wr (12 + (c : Int))).toNat) 99)) _ (o40 (Classical.byContradiction a2) (Classical.byContradiction a6) a28 a29 a32))))))) (fun a35 => (a35 (z_litT rfl)).elim))))))))) (fun a30 => (And.intro (And.intro (o41 (Classical.byContradiction a2) (Classical.byContradiction a6) a28 a30) trivial) (hT.1 [(43, [0, 1, 2, 4, 5, 6, 7])] 6 (D + 2) 223 (113, [(0, zr 74), (1, zi k), (2, zi n), (4, zi s), (5, zi t), (6, zi v), (7, zi (c : Int)), (8, zi (z_b8 v))], [], (zu m 75 ((wr (12 + (c : Int))).toNat) 0)) _ (hT.1 [(43, [0, 1, 2, 4, 5, 6, 7])] 6 (D + 2) 223 (124, [(0, zr 74), (1, zi k), (2, zi n), (4, zi s), (5, zi t), (6, zi v), (7, zi (c : Int)), (8, zi (z_b8 v))], [zi (12 + (c : Int)), zr 75, zi t], (zu m 75 ((wr (12 + (c : Int))).toNat) 0)) _ (And.intro (o42 (Classical.byContradiction a2) (Classical.byContradiction a6) a28 a30) (hT.1 [(43, [0, 1, 2, 4, 5, 6, 7])] 6 (D + 2) 223 (133, [(0, zr 74), (1, zi k), (2, zi n), (4, zi s), (5, zi (t + ((zu m 75 ((wr (12 + (c : Int))).toNat) 0) 75 ((wr (12 + (c : Int))).toNat)))), (6, zi v), (7, zi (c : Int)), (8, zi (z_b8 v))], [zi (v + s)], (zu m 75 ((wr (12 + (c : Int))).toNat) 0)) _ (o43 (Classical.byContradiction a2) (Classical.byContradiction a6) a28 a30))))))))))))))))))
theorem zb223_43 (hT : zRules T) {D : Nat} {κ : Option zA → zM → Prop} {m : zM} {k : Int} {n : Int} {s : Int} {v : Int} {t : Int} {c : Nat} {lo : zL} (hlo : z_keep [0, 1, 2, 4, 5, 6, 7] lo = [(0, zr 74), (1, zi k), (2, zi n), (4, zi s), (5, zi t), (6, zi v), (7, zi (c : Int))])  (hB : zB m) (h_k : 0 ≤ k ∧ k ≤ 3) (h_n : (-2147483648) ≤ n ∧ n ≤ 8) (h_s : (-2147483648) ≤ s ∧ s ≤ 2147483647) (h_t : 0 ≤ t ∧ t ≤ 800) (h_c : c ≤ 8) 
    (k1 : ¬ (c : Int) < (m 74 6) → ¬ k = 3 → κ (some (zi t)) m)
    (k2 : ¬ (c : Int) < (m 74 6) → k = 3 → κ (some (zi (-3))) m)
    (k3 : (c : Int) < (m 74 6) → ¬ k = 0 → ¬ k = 1 → k = 3 → zB (zu m 75 (c + 12) 0) → T (D + 2) 223 (43, [(0, zr 74), (1, zi k), (2, zi n), (4, zi s), (5, zi (t + 0)), (6, zi (v + s)), (7, zi ((c : Int) + 1))], [], (zu m 75 (c + 12) 0)) κ)
    (k4 : (c : Int) < (m 74 6) → ¬ k = 0 → ¬ k = 1 → ¬ k = 3 → (c : Int) < n → wr v < 99 → 0 < wr v → zB (zu m 75 (c + 12) (wr v)) → T (D + 2) 223 (43, [(0, zr 74), (1, zi k), (2, zi n), (4, zi s), (5, zi (t + wr v)), (6, zi (v + s)), (7, zi ((c : Int) + 1))], [], (zu m 75 (c + 12) (wr v))) κ)
    (k5 : (c : Int) < (m 74 6) → ¬ k = 0 → ¬ k = 1 → ¬ k = 3 → (c : Int) < n → wr v < 99 → ¬ 0 < wr v → zB (zu m 75 (c + 12) 0) → T (D + 2) 223 (43, [(0, zr 74), (1, zi k), (2, zi n), (4, zi s), (5, zi (t + 0)), (6, zi (v + s)), (7, zi ((c : Int) + 1))], [], (zu m 75 (c + 12) 0)) κ)
    (k6 : (c : Int) < (m 74 6) → ¬ k = 0 → ¬ k = 1 → ¬ k = 3 → (c : Int) < n → ¬ wr v < 99 → zB (zu m 75 (c + 12) 99) → T (D + 2) 223 (43, [(0, zr 74), (1, zi k), (2, zi n), (4, zi s), (5, zi (t + 99)), (6, zi (v + s)), (7, zi ((c : Int) + 1))], [], (zu m 75 (c + 12) 99)) κ)
    (k7 : (c : Int) < (m 74 6) → ¬ k = 0 → ¬ k = 1 → ¬ k = 3 → ¬ (c : Int) < n → zB (zu m 75 (c + 12) 0) → T (D + 2) 223 (43, [(0, zr 74), (1, zi k), (2, zi n), (4, zi s), (5, zi (t + 0)), (6, zi (v + s)), (7, zi ((c : Int) + 1))], [], (zu m 75 (c + 12) 0)) κ)
    (k8 : (c : Int) < (m 74 6) → ¬ k = 0 → k = 1 → (c : Int) < n → (z_s16 v) < 99 → 0 < (z_s16 v) → zB (zu m 75 (c + 12) (z_s16 v)) → T (D + 2) 223 (43, [(0, zr 74), (1, zi k), (2, zi n), (4, zi s), (5, zi (t + (z_s16 v))), (6, zi (v + s)), (7, zi ((c : Int) + 1))], [], (zu m 75 (c + 12) (z_s16 v))) κ)
    (k9 : (c : Int) < (m 74 6) → ¬ k = 0 → k = 1 → (c : Int) < n → (z_s16 v) < 99 → ¬ 0 < (z_s16 v) → zB (zu m 75 (c + 12) 0) → T (D + 2) 223 (43, [(0, zr 74), (1, zi k), (2, zi n), (4, zi s), (5, zi (t + 0)), (6, zi (v + s)), (7, zi ((c : Int) + 1))], [], (zu m 75 (c + 12) 0)) κ)
    (k10 : (c : Int) < (m 74 6) → ¬ k = 0 → k = 1 → (c : Int) < n → ¬ (z_s16 v) < 99 → zB (zu m 75 (c + 12) 99) → T (D + 2) 223 (43, [(0, zr 74), (1, zi k), (2, zi n), (4, zi s), (5, zi (t + 99)), (6, zi (v + s)), (7, zi ((c : Int) + 1))], [], (zu m 75 (c + 12) 99)) κ)
    (k11 : (c : Int) < (m 74 6) → ¬ k = 0 → k = 1 → ¬ (c : Int) < n → zB (zu m 75 (c + 12) 0) → T (D + 2) 223 (43, [(0, zr 74), (1, zi k), (2, zi n), (4, zi s), (5, zi (t + 0)), (6, zi (v + s)), (7, zi ((c : Int) + 1))], [], (zu m 75 (c + 12) 0)) κ)
    (k12 : (c : Int) < (m 74 6) → k = 0 → (c : Int) < n → (z_b8 v) < 99 → 0 < (z_b8 v) → zB (zu m 75 (c + 12) (z_b8 v)) → T (D + 2) 223 (43, [(0, zr 74), (1, zi k), (2, zi n), (4, zi s), (5, zi (t + (z_b8 v))), (6, zi (v + s)), (7, zi ((c : Int) + 1))], [], (zu m 75 (c + 12) (z_b8 v))) κ)
    (k13 : (c : Int) < (m 74 6) → k = 0 → (c : Int) < n → (z_b8 v) < 99 → ¬ 0 < (z_b8 v) → zB (zu m 75 (c + 12) 0) → T (D + 2) 223 (43, [(0, zr 74), (1, zi k), (2, zi n), (4, zi s), (5, zi (t + 0)), (6, zi (v + s)), (7, zi ((c : Int) + 1))], [], (zu m 75 (c + 12) 0)) κ)
    (k14 : (c : Int) < (m 74 6) → k = 0 → (c : Int) < n → ¬ (z_b8 v) < 99 → zB (zu m 75 (c + 12) 99) → T (D + 2) 223 (43, [(0, zr 74), (1, zi k), (2, zi n), (4, zi s), (5, zi (t + 99)), (6, zi (v + s)), (7, zi ((c : Int) + 1))], [], (zu m 75 (c + 12) 99)) κ)
    (k15 : (c : Int) < (m 74 6) → k = 0 → ¬ (c : Int) < n → zB (zu m 75 (c + 12) 0) → T (D + 2) 223 (43, [(0, zr 74), (1, zi k), (2, zi n), (4, zi s), (5, zi (t + 0)), (6, zi (v + s)), (7, zi ((c : Int) + 1))], [], (zu m 75 (c + 12) 0)) κ) :
    T (D + 2) 223 (43, lo, [], m) κ := by
  have hb5 : 0 ≤ (m 74 6) ∧ (m 74 6) ≤ 8 := hB 74 6
  have hb6 : (-128) ≤ (z_b8 v) ∧ (z_b8 v) ≤ 127 := z_b8B v
  have hb7 : (-32768) ≤ (z_s16 v) ∧ (z_s16 v) ≤ 32767 := z_s16B v
  have hb8 : (-2147483648) ≤ wr v ∧ wr v ≤ 2147483647 := wrB v
  have he0 : wr (c : Int) = (c : Int) := wr_id (by omega) (by omega)
  have he1 : wr (m 74 6) = (m 74 6) := wr_id (by omega) (by omega)
  have he2 : wr k = k := wr_id (by omega) (by omega)
  have he3 : wr n = n := wr_id (by omega) (by omega)
  have he4 : wr (z_b8 v) = (z_b8 v) := wr_id (by omega) (by omega)
  have he5 : wr (12 + (c : Int)) = (12 + (c : Int)) := wr_id (by omega) (by omega)
  have he6 : (12 + (c : Int)).toNat = c + 12 := by omega
  have he7 : ((zu m 75 (c + 12) (z_b8 v)) 75 (c + 12)) = (z_b8 v) := (zu_sm (by omega))
  have he8 : ((zu m 75 (c + 12) 0) 75 (c + 12)) = 0 := (zu_sm (by omega))
  have he9 : ((zu m 75 (c + 12) 99) 75 (c + 12)) = 99 := (zu_sm (by omega))
  have he10 : wr (z_s16 v) = (z_s16 v) := wr_id (by omega) (by omega)
  have he11 : ((zu m 75 (c + 12) (z_s16 v)) 75 (c + 12)) = (z_s16 v) := (zu_sm (by omega))
  have he12 : wr (wr v) = wr v := wr_id (by omega) (by omega)
  have he13 : ((zu m 75 (c + 12) (wr v)) 75 (c + 12)) = wr v := (zu_sm (by omega))
  have he14 : wr t = t := wr_id (by omega) (by omega)
  have key := @zb223_43r T hT D κ m k n s v t c lo hlo
  simp only [he0, he1, he2, he3, he4, he5, he6, he7, he8, he9, he10, he11, he12, he13, he14, Int.toNat_natCast] at key
  exact key
    k1
    k2
    (fun x0 x1 x2 x3 => by refine ⟨?_, ?_⟩ <;> omega)
    (fun x0 x1 x2 x3 => by refine ⟨?_, ?_⟩ <;> omega)
    (fun x0 x1 x2 x3 => k3 x0 x1 x2 x3 (zB_u hB (zbSg 75 12 20 (-1) 99 rfl (c + 12) 0 (by omega) (by omega) ⟨by omega, by omega⟩)))
    (fun x0 x1 x2 x3 x4 x5 x6 => by refine ⟨?_, ?_⟩ <;> omega)
    (fun x0 x1 x2 x3 x4 x5 x6 => by refine ⟨?_, ?_⟩ <;> omega)
    (fun x0 x1 x2 x3 x4 x5 x6 => k4 x0 x1 x2 x3 x4 x5 x6 (zB_u hB (zbSg 75 12 20 (-1) 99 rfl (c + 12) (wr v) (by omega) (by omega) ⟨by omega, by omega⟩)))
    (fun x0 x1 x2 x3 x4 x5 x6 => by refine ⟨?_, ?_⟩ <;> omega)
    (fun x0 x1 x2 x3 x4 x5 x6 => by refine ⟨?_, ?_⟩ <;> omega)
    (fun x0 x1 x2 x3 x4 x5 x6 => k5 x0 x1 x2 x3 x4 x5 x6 (zB_u hB (zbSg 75 12 20 (-1) 99 rfl (c + 12) 0 (by omega) (by omega) ⟨by omega, by omega⟩)))
    (fun x0 x1 x2 x3 x4 x5 => by refine ⟨?_, ?_⟩ <;> omega)
    (fun x0 x1 x2 x3 x4 x5 => by refine ⟨?_, ?_⟩ <;> omega)
    (fun x0 x1 x2 x3 x4 x5 => k6 x0 x1 x2 x3 x4 x5 (zB_u hB (zbSg 75 12 20 (-1) 99 rfl (c + 12) 99 (by omega) (by omega) ⟨by omega, by omega⟩)))
    (fun x0 x1 x2 x3 x4 => by refine ⟨?_, ?_⟩ <;> omega)
    (fun x0 x1 x2 x3 x4 => by refine ⟨?_, ?_⟩ <;> omega)
    (fun x0 x1 x2 x3 x4 => k7 x0 x1 x2 x3 x4 (zB_u hB (zbSg 75 12 20 (-1) 99 rfl (c + 12) 0 (by omega) (by omega) ⟨by omega, by omega⟩)))
    (fun x0 x1 x2 x3 => by omega)
    (fun x0 x1 x2 x3 x4 x5 x6 => by refine ⟨?_, ?_⟩ <;> omega)
    (fun x0 x1 x2 x3 x4 x5 x6 => by refine ⟨?_, ?_⟩ <;> omega)
    (fun x0 x1 x2 x3 x4 x5 x6 => k8 x0 x1 x2 x4 x5 x6 (zB_u hB (zbSg 75 12 20 (-1) 99 rfl (c + 12) (z_s16 v) (by omega) (by omega) ⟨by omega, by omega⟩)))
    (fun x0 x1 x2 x3 x4 x5 x6 => by refine ⟨?_, ?_⟩ <;> omega)
    (fun x0 x1 x2 x3 x4 x5 x6 => by refine ⟨?_, ?_⟩ <;> omega)
    (fun x0 x1 x2 x3 x4 x5 x6 => k9 x0 x1 x2 x4 x5 x6 (zB_u hB (zbSg 75 12 20 (-1) 99 rfl (c + 12) 0 (by omega) (by omega) ⟨by omega, by omega⟩)))
    (fun x0 x1 x2 x3 x4 x5 => by refine ⟨?_, ?_⟩ <;> omega)
    (fun x0 x1 x2 x3 x4 x5 => by refine ⟨?_, ?_⟩ <;> omega)
    (fun x0 x1 x2 x3 x4 x5 => k10 x0 x1 x2 x4 x5 (zB_u hB (zbSg 75 12 20 (-1) 99 rfl (c + 12) 99 (by omega) (by omega) ⟨by omega, by omega⟩)))
    (fun x0 x1 x2 x3 x4 => by refine ⟨?_, ?_⟩ <;> omega)
    (fun x0 x1 x2 x3 x4 => by refine ⟨?_, ?_⟩ <;> omega)
    (fun x0 x1 x2 x3 x4 => k11 x0 x1 x2 x4 (zB_u hB (zbSg 75 12 20 (-1) 99 rfl (c + 12) 0 (by omega) (by omega) ⟨by omega, by omega⟩)))
    (fun x0 x1 x2 => by omega)
    (fun x0 x1 x2 x3 x4 x5 => by refine ⟨?_, ?_⟩ <;> omega)
    (fun x0 x1 x2 x3 x4 x5 => by refine ⟨?_, ?_⟩ <;> omega)
    (fun x0 x1 x2 x3 x4 x5 => k12 x0 x1 x3 x4 x5 (zB_u hB (zbSg 75 12 20 (-1) 99 rfl (c + 12) (z_b8 v) (by omega) (by omega) ⟨by omega, by omega⟩)))
    (fun x0 x1 x2 x3 x4 x5 => by refine ⟨?_, ?_⟩ <;> omega)
    (fun x0 x1 x2 x3 x4 x5 => by refine ⟨?_, ?_⟩ <;> omega)
    (fun x0 x1 x2 x3 x4 x5 => k13 x0 x1 x3 x4 x5 (zB_u hB (zbSg 75 12 20 (-1) 99 rfl (c + 12) 0 (by omega) (by omega) ⟨by omega, by omega⟩)))
    (fun x0 x1 x2 x3 x4 => by refine ⟨?_, ?_⟩ <;> omega)
    (fun x0 x1 x2 x3 x4 => by refine ⟨?_, ?_⟩ <;> omega)
    (fun x0 x1 x2 x3 x4 => k14 x0 x1 x3 x4 (zB_u hB (zbSg 75 12 20 (-1) 99 rfl (c + 12) 99 (by omega) (by omega) ⟨by omega, by omega⟩)))
    (fun x0 x1 x2 x3 => by refine ⟨?_, ?_⟩ <;> omega)
    (fun x0 x1 x2 x3 => by refine ⟨?_, ?_⟩ <;> omega)
    (fun x0 x1 x2 x3 => k15 x0 x1 x3 (zB_u hB (zbSg 75 12 20 (-1) 99 rfl (c + 12) 0 (by omega) (by omega) ⟨by omega, by omega⟩)))
end ZBlocks
