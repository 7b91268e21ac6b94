-- 50.b5.lean.txt
section
section ZBlocks
variable {T : Nat → Nat → zG → (Option zA → zM → Prop) → Prop}
theorem zb208_0_80r (hT : zRules T) {D : Nat} {κ : Option zA → zM → Prop} {m : zM} {d : Nat} 
    (o1 : T (D + 3) 209 (0, [(0, zr 74), (1, zi (d : Int))], [], m) (fun r m1 => T (D + 4) 208 (5, [(0, zr 74), (1, zi (d : Int))], r.toList ++ [], m1) κ)) :
    T (D + 4) 208 (0, [(0, zr 74), (1, zi (d : Int))], [], m) κ :=
  hT.1 [] 6 (D + 4) 208 _ κ (o1)
theorem zb208_0_80 (hT : zRules T) {D : Nat} {κ : Option zA → zM → Prop} {m : zM} {d : Nat}  (hB : zB m) (hrd : m 74 13 = 80) (h_d : d ≤ 4) (hf0 : (-1) ≤ m 74 17 ∧ m 74 17 ≤ (-1)) (hf1 : 0 ≤ m 74 16 ∧ m 74 16 ≤ 90) (hf2 : 0 ≤ m 74 15 ∧ m 74 15 ≤ 80) 
    (k1 : T (D + 3) 209 (0, [(0, zr 74), (1, zi (d : Int))], [], m) (fun r m1 => T (D + 4) 208 (5, [(0, zr 74), (1, zi (d : Int))], r.toList ++ [], m1) κ)) :
    T (D + 4) 208 (0, [(0, zr 74), (1, zi (d : Int))], [], m) κ := by
  exact zb208_0_80r hT
    k1
theorem zb208_5_80r (hT : zRules T) {D : Nat} {κ : Option zA → zM → Prop} {m : zM} {d : Nat} {v : Int} {lo : zL} (hlo : z_keep [0, 1] lo = [(0, zr 74), (1, zi (d : Int))]) 
    (o1 : ¬ wr (m 74 17) = (-1) → False)
    (o2 : wr (m 74 17) = (-1) → (m 74 13) = 80)
    (o3 : wr (m 74 17) = (-1) → (0 ≤ (m 74 16) ∧ (m 74 16) ≤ 1000))
    (o4 : wr (m 74 17) = (-1) → (0 ≤ (m 74 14) ∧ (m 74 14) ≤ 80))
    (o5 : wr (m 74 17) = (-1) → (0 ≤ (m 74 15) ∧ (m 74 15) ≤ 80))
    (o6 : wr (m 74 17) = (-1) → wr (hrR m 80) = 60 → T (D + 3) 209 (0, [(0, zr 74), (1, zi (d : Int))], [], (zu m 74 16 ((m 74 16) + 1))) (fun r m1 => T (D + 4) 208 (21, [(0, zr 74), (1, zi (d : Int)), (2, zi v)], r.toList ++ [zi v], m1) κ))
    (o7 : wr (m 74 17) = (-1) → ¬ wr (hrR m 80) = 60 → ¬ wr (m 74 17) = (-1) → False)
    (o8 : wr (m 74 17) = (-1) → ¬ wr (hrR m 80) = 60 → wr (m 74 17) = (-1) → (m 74 13) = 80)
    (o9 : wr (m 74 17) = (-1) → ¬ wr (hrR m 80) = 60 → wr (m 74 17) = (-1) → (0 ≤ (m 74 16) ∧ (m 74 16) ≤ 1000))
    (o10 : wr (m 74 17) = (-1) → ¬ wr (hrR m 80) = 60 → wr (m 74 17) = (-1) → (0 ≤ (m 74 14) ∧ (m 74 14) ≤ 80))
    (o11 : wr (m 74 17) = (-1) → ¬ wr (hrR m 80) = 60 → wr (m 74 17) = (-1) → (0 ≤ (m 74 15) ∧ (m 74 15) ≤ 80))
    (o12 : wr (m 74 17) = (-1) → ¬ wr (hrR m 80) = 60 → wr (m 74 17) = (-1) → wr (hrR m 80) = 62 → T (D + 3) 209 (0, [(0, zr 74), (1, zi (d : Int))], [], (zu m 74 16 ((m 74 16) + 1))) (fun r m1 => T (D + 4) 208 (45, [(0, zr 74), (1, zi (d : Int)), (2, zi v)], r.toList ++ [zi v], m1) κ))
    (o13 : wr (m 74 17) = (-1) → ¬ wr (hrR m 80) = 60 → wr (m 74 17) = (-1) → ¬ wr (hrR m 80) = 62 → ¬ wr (m 74 17) = (-1) → False)
    (o14 : wr (m 74 17) = (-1) → ¬ wr (hrR m 80) = 60 → wr (m 74 17) = (-1) → ¬ wr (hrR m 80) = 62 → wr (m 74 17) = (-1) → (m 74 13) = 80)
    (o15 : wr (m 74 17) = (-1) → ¬ wr (hrR m 80) = 60 → wr (m 74 17) = (-1) → ¬ wr (hrR m 80) = 62 → wr (m 74 17) = (-1) → (0 ≤ (m 74 16) ∧ (m 74 16) ≤ 1000))
    (o16 : wr (m 74 17) = (-1) → ¬ wr (hrR m 80) = 60 → wr (m 74 17) = (-1) → ¬ wr (hrR m 80) = 62 → wr (m 74 17) = (-1) → (0 ≤ (m 74 14) ∧ (m 74 14) ≤ 80))
    (o17 : wr (m 74 17) = (-1) → ¬ wr (hrR m 80) = 60 → wr (m 74 17) = (-1) → ¬ wr (hrR m 80) = 62 → wr (m 74 17) = (-1) → (0 ≤ (m 74 15) ∧ (m 74 15) ≤ 80))
    (o18 : wr (m 74 17) = (-1) → ¬ wr (hrR m 80) = 60 → wr (m 74 17) = (-1) → ¬ wr (hrR m 80) = 62 → wr (m 74 17) = (-1) → wr (hrR m 80) = 61 → T (D + 3) 209 (0, [(0, zr 74), (1, zi (d : Int))], [], (zu m 74 16 ((m 74 16) + 1))) (fun r m1 => T (D + 4) 208 (69, [(0, zr 74), (1, zi (d : Int)), (2, zi v)], r.toList ++ [zi v], m1) κ))
    (o19 : wr (m 74 17) = (-1) → ¬ wr (hrR m 80) = 60 → wr (m 74 17) = (-1) → ¬ wr (hrR m 80) = 62 → wr (m 74 17) = (-1) → ¬ wr (hrR m 80) = 61 → κ (some (zi (wr v))) m) :
    T (D + 4) 208 (5, lo, [zi v], m) κ :=
  zkeep hT hlo (hT.1 [] 6 (D + 4) 208 _ κ (hT.1 [] 6 (D + 3) 201 _ _ (hT.1 [] 6 (D + 2) 199 _ _ (And.intro (fun a1 => (o1 a1).elim) (fun a2 => (hT.1 [] 6 (D + 2) 199 (13, [(0, zr 74)], [zi 1], m) _ (And.intro (z_b01L rfl) (hT.1 [] 6 (D + 3) 201 _ _ (And.intro (fun a3 => (z_litF a3 rfl).elim) (fun _ => (z_here80 hT (o2 (Classical.byContradiction a2)) (o3 (Classical.byContradiction a2)) (o4 (Classical.byContradiction a2)) (o5 (Classical.byContradiction a2)) (hT.1 [] 6 (D + 3) 201 _ _ (And.intro (fun a4 => (hT.1 [] 6 (D + 3) 201 (23, [(0, zr 74), (1, zi 60)], [zi 1, zi (m 74 16), zr 74], m) _ (And.intro trivial (And.intro (z_b01L rfl) (hT.1 [] 6 (D + 4) 208 _ _ (And.intro (fun a6 => (z_litF a6 rfl).elim) (fun _ => (o6 (Classical.byContradiction a2) a4)))))))) (fun a5 => (And.intro (z_b01L rfl) (hT.1 [] 6 (D + 4) 208 _ _ (And.intro (fun _ => (hT.1 [] 6 (D + 3) 201 _ _ (hT.1 [] 6 (D + 2) 199 _ _ (And.intro (fun a8 => (o7 (Classical.byContradiction a2) a5 a8).elim) (fun a9 => (hT.1 [] 6 (D + 2) 199 (13, [(0, zr 74)], [zi 1], m) _ (And.intro (z_b01L rfl) (hT.1 [] 6 (D + 3) 201 _ _ (And.intro (fun a10 => (z_litF a10 rfl).elim) (fun _ => (z_here80 hT (o8 (Classical.byContradiction a2) a5 (Classical.byContradiction a9)) (o9 (Classical.byContradiction a2) a5 (Classical.byContradiction a9)) (o10 (Classical.byContradiction a2) a5 (Classical.byContradiction a9)) (o11 (Classical.byContradiction a2) a5 (Classical.byContradiction a9)) (hT.1 [] 6 (D + 3) 201 _ _ (And.intro (fun a11 => (hT.1 [] 6 (D + 3) 201 (23, [(0, zr 74), (1, zi 62)], [zi 1, zi (m 74 16), zr 74], m) _ (And.intro trivial (And.intro (z_b01L rfl) (hT.1 [] 6 (D + 4) 208 _ _ (And.intro (fun a13 => (z_litF a13 rfl).elim) (fun _ => (o12 (Classical.byContradiction a2) a5 (Classical.byContradiction a9) a11)))))))) (fun a12 => (And.intro (z_b01L rfl) (hT.1 [] 6 (D + 4) 208 _ _ (And.intro (fun _ => (hT.1 [] 6 (D + 3) 201 _ _ (hT.1 [] 6 (D + 2) 199 _ _ (And.intro (fun a15 => (o13 (Classical.byContradiction a2) a5 (Classical.byContradiction a9) a12 a15).elim) (fun a16 => (hT.1 [] 6 (D + 2) 199 (13, [(0, zr 74)], [zi 1], m) _ (And.intro (z_b01L rfl) (hT.1 [] 6 (D + 3) 201 _ _ (And.intro (fun a17 => (z_litF a17 rfl).elim) (fun _ => (z_here80 hT (o14 (Classical.byContradiction a2) a5 (Classical.byContradiction a9) a12 (Classical.byContradiction a16)) (o15 (Classical.byContradiction a2) a5 (Classical.byContradiction a9) a12 (Classical.byContradiction a16)) (o16 (Classical.byContradiction a2) a5 (Classical.byContradiction a9) a12 (Classical.byContradiction a16)) (o17 (Classical.byContradiction a2) a5 (Classical.byContradiction a9) a12 (Classical.byContradiction a16)) (hT.1 [] 6 (D + 3) 201 _ _ (And.intro (fun a18 => (hT.1 [] 6 (D + 3) 201 (23, [(0, zr 74), (1, zi 61)], [zi 1, zi (m 74 16), zr 74], m) _ (And.intro trivial (And.intro (z_b01L rfl) (hT.1 [] 6 (D + 4) 208 _ _ (And.intro (fun a20 => (z_litF a20 rfl).elim) (fun _ => (o18 (Classical.byContradiction a2) a5 (Classical.byContradiction a9) a12 (Classical.byContradiction a16) a18)))))))) (fun a19 => (And.intro (z_b01L rfl) (hT.1 [] 6 (D + 4) 208 _ _ (And.intro (fun _ => (o19 (Classical.byContradiction a2) a5 (Classical.byContradiction a9) a12 (Classical.byContradiction a16) a19)) (fun a21 => (a21 (z_litT rfl)).elim)))))))))))))))))) (fun a14 => (a14 (z_litT rfl)).elim)))))))))))))))))) (fun a7 => (a7 (z_litT rfl)).elim))))))))))))))))))
theorem zb208_5_80 (hT : zRules T) {D : Nat} {κ : Option zA → zM → Prop} {m : zM} {d : Nat} {v : Int} {lo : zL} (hlo : z_keep [0, 1] lo = [(0, zr 74), (1, zi (d : Int))])  (hB : zB m) (hrd : m 74 13 = 80) (h_d : d ≤ 4) (h_v : (-2147483648) ≤ v ∧ v ≤ 2147483647) (hf0 : (-1) ≤ m 74 17 ∧ m 74 17 ≤ (-1)) (hf1 : 0 ≤ m 74 16 ∧ m 74 16 ≤ 90) (hf2 : 0 ≤ m 74 15 ∧ m 74 15 ≤ 80) 
    (k1 : (hrR m 80) = 60 → zB (zu m 74 16 ((m 74 16) + 1)) → T (D + 3) 209 (0, [(0, zr 74), (1, zi (d : Int))], [], (zu m 74 16 ((m 74 16) + 1))) (fun r m1 => T (D + 4) 208 (21, [(0, zr 74), (1, zi (d : Int)), (2, zi v)], r.toList ++ [zi v], m1) κ))
    (k2 : ¬ (hrR m 80) = 60 → (hrR m 80) = 62 → zB (zu m 74 16 ((m 74 16) + 1)) → T (D + 3) 209 (0, [(0, zr 74), (1, zi (d : Int))], [], (zu m 74 16 ((m 74 16) + 1))) (fun r m1 => T (D + 4) 208 (45, [(0, zr 74), (1, zi (d : Int)), (2, zi v)], r.toList ++ [zi v], m1) κ))
    (k3 : ¬ (hrR m 80) = 60 → ¬ (hrR m 80) = 62 → (hrR m 80) = 61 → zB (zu m 74 16 ((m 74 16) + 1)) → T (D + 3) 209 (0, [(0, zr 74), (1, zi (d : Int))], [], (zu m 74 16 ((m 74 16) + 1))) (fun r m1 => T (D + 4) 208 (69, [(0, zr 74), (1, zi (d : Int)), (2, zi v)], r.toList ++ [zi v], m1) κ))
    (k4 : ¬ (hrR m 80) = 60 → ¬ (hrR m 80) = 62 → ¬ (hrR m 80) = 61 → κ (some (zi v)) m) :
    T (D + 4) 208 (5, lo, [zi v], m) κ := by
  have hb5 : 0 ≤ (m 74 14) ∧ (m 74 14) ≤ 80 := hB 74 14
  have hb6 : (-1) ≤ (hrR m 80) ∧ (hrR m 80) ≤ 255 := hrRB m 80
  have he0 : wr (m 74 17) = (m 74 17) := wr_id (by omega) (by omega)
  have he1 : wr (hrR m 80) = (hrR m 80) := wr_id (by omega) (by omega)
  have he2 : wr v = v := wr_id (by omega) (by omega)
  have key := @zb208_5_80r T hT D κ m d v lo hlo
  simp only [he0, he1, he2, Int.toNat_natCast] at key
  exact key
    (fun x0 => by omega)
    (fun x0 => hrd)
    (fun x0 => by refine ⟨?_, ?_⟩ <;> omega)
    (fun x0 => by refine ⟨?_, ?_⟩ <;> omega)
    (fun x0 => by refine ⟨?_, ?_⟩ <;> omega)
    (fun x0 x1 => k1 x1 (zB_u hB (show 0 ≤ ((m 74 16) + 1) ∧ ((m 74 16) + 1) ≤ 100 from ⟨by omega, by omega⟩)))
    (fun x0 x1 x2 => by omega)
    (fun x0 x1 x2 => hrd)
    (fun x0 x1 x2 => by refine ⟨?_, ?_⟩ <;> omega)
    (fun x0 x1 x2 => by refine ⟨?_, ?_⟩ <;> omega)
    (fun x0 x1 x2 => by refine ⟨?_, ?_⟩ <;> omega)
    (fun x0 x1 x2 x3 => k2 x1 x3 (zB_u hB (show 0 ≤ ((m 74 16) + 1) ∧ ((m 74 16) + 1) ≤ 100 from ⟨by omega, by omega⟩)))
    (fun x0 x1 x2 x3 x4 => by omega)
    (fun x0 x1 x2 x3 x4 => hrd)
    (fun x0 x1 x2 x3 x4 => by refine ⟨?_, ?_⟩ <;> omega)
    (fun x0 x1 x2 x3 x4 => by refine ⟨?_, ?_⟩ <;> omega)
    (fun x0 x1 x2 x3 x4 => by refine ⟨?_, ?_⟩ <;> omega)
    (fun x0 x1 x2 x3 x4 x5 => k3 x1 x3 x5 (zB_u hB (show 0 ≤ ((m 74 16) + 1) ∧ ((m 74 16) + 1) ≤ 100 from ⟨by omega, by omega⟩)))
    (fun x0 x1 x2 x3 x4 x5 => k4 x1 x3 x5)
theorem zb208_5_80fr (hT : zRules T) {D : Nat} {κ : Option zA → zM → Prop} {m : zM} {d : Nat} {v : Int} {lo : zL} (hlo : z_keep [0, 1] lo = [(0, zr 74), (1, zi (d : Int))]) 
    (o1 : ¬ wr (m 74 17) = (-1) → ¬ wr (m 74 17) = (-1) → ¬ wr (m 74 17) = (-1) → κ (some (zi (wr v))) m)
    (o2 : ¬ wr (m 74 17) = (-1) → ¬ wr (m 74 17) = (-1) → wr (m 74 17) = (-1) → False)
    (o3 : ¬ wr (m 74 17) = (-1) → wr (m 74 17) = (-1) → False)
    (o4 : wr (m 74 17) = (-1) → False) :
    T (D + 4) 208 (5, lo, [zi v], m) κ :=
  zkeep hT hlo (hT.1 [] 6 (D + 4) 208 _ κ (hT.1 [] 6 (D + 3) 201 _ _ (hT.1 [] 6 (D + 2) 199 _ _ (And.intro (fun a1 => (And.intro (z_b01L rfl) (hT.1 [] 6 (D + 3) 201 _ _ (And.intro (fun _ => (And.intro (z_b01L rfl) (hT.1 [] 6 (D + 4) 208 _ _ (And.intro (fun _ => (hT.1 [] 6 (D + 3) 201 _ _ (hT.1 [] 6 (D + 2) 199 _ _ (And.intro (fun a5 => (And.intro (z_b01L rfl) (hT.1 [] 6 (D + 3) 201 _ _ (And.intro (fun _ => (And.intro (z_b01L rfl) (hT.1 [] 6 (D + 4) 208 _ _ (And.intro (fun _ => (hT.1 [] 6 (D + 3) 201 _ _ (hT.1 [] 6 (D + 2) 199 _ _ (And.intro (fun a9 => (And.intro (z_b01L rfl) (hT.1 [] 6 (D + 3) 201 _ _ (And.intro (fun _ => (And.intro (z_b01L rfl) (hT.1 [] 6 (D + 4) 208 _ _ (And.intro (fun _ => (o1 a1 a5 a9)) (fun a12 => (a12 (z_litT rfl)).elim))))) (fun a11 => (a11 (z_litT rfl)).elim))))) (fun a10 => (o2 a1 a5 (Classical.byContradiction a10)).elim))))) (fun a8 => (a8 (z_litT rfl)).elim))))) (fun a7 => (a7 (z_litT rfl)).elim))))) (fun a6 => (o3 a1 (Classical.byContradiction a6)).elim))))) (fun a4 => (a4 (z_litT rfl)).elim))))) (fun a3 => (a3 (z_litT rfl)).elim))))) (fun a2 => (o4 (Classical.byContradiction a2)).elim)))))
theorem zb208_5_80f (hT : zRules T) {D : Nat} {κ : Option zA → zM → Prop} {m : zM} {d : Nat} {v : Int} {lo : zL} (hlo : z_keep [0, 1] lo = [(0, zr 74), (1, zi (d : Int))])  (hB : zB m) (hrd : m 74 13 = 80) (h_d : d ≤ 4) (h_v : (-2147483648) ≤ v ∧ v ≤ 2147483647) (hf0 : 0 ≤ m 74 17 ∧ m 74 17 ≤ 100) 
    (k1 : κ (some (zi v)) m) :
    T (D + 4) 208 (5, lo, [zi v], m) κ := by
  have he0 : wr (m 74 17) = (m 74 17) := wr_id (by omega) (by omega)
  have he1 : wr v = v := wr_id (by omega) (by omega)
  have key := @zb208_5_80fr T hT D κ m d v lo hlo
  simp only [he0, he1, Int.toNat_natCast] at key
  exact key
    (fun x0 x1 x2 => k1 )
    (fun x0 x1 x2 => by omega)
    (fun x0 x1 => by omega)
    (fun x0 => by omega)
theorem zb208_21_80r (hT : zRules T) {D : Nat} {κ : Option zA → zM → Prop} {m : zM} {v : Int} {w : Int} {lo : zL} (hlo : z_keep [] lo = []) 
    (o1 : ¬ wr v < wr w → κ (some (zi 0)) m)
    (o2 : wr v < wr w → κ (some (zi 1)) m) :
    T (D + 4) 208 (21, lo, [zi w, zi v], m) κ :=
  zkeep hT hlo (hT.1 [] 6 (D + 4) 208 _ κ (And.intro (fun a1 => (o1 a1)) (fun a2 => (o2 (Classical.byContradiction a2)))))
theorem zb208_21_80 (hT : zRules T) {D : Nat} {κ : Option zA → zM → Prop} {m : zM} {v : Int} {w : Int} {lo : zL} (hlo : z_keep [] lo = [])  (h_v : (-2147483648) ≤ v ∧ v ≤ 2147483647) (h_w : (-2147483648) ≤ w ∧ w ≤ 2147483647) 
    (k1 : ¬ v < w → κ (some (zi 0)) m)
    (k2 : v < w → κ (some (zi 1)) m) :
    T (D + 4) 208 (21, lo, [zi w, zi v], m) κ := by
  have he0 : wr v = v := wr_id (by omega) (by omega)
  have he1 : wr w = w := wr_id (by omega) (by omega)
  have key := @zb208_21_80r T hT D κ m v w lo hlo
  simp only [he0, he1, Int.toNat_natCast] at key
  exact key
    k1
    k2
theorem zb208_45_80r (hT : zRules T) {D : Nat} {κ : Option zA → zM → Prop} {m : zM} {v : Int} {w : Int} {lo : zL} (hlo : z_keep [] lo = []) 
    (o1 : ¬ wr w < wr v → κ (some (zi 0)) m)
    (o2 : wr w < wr v → κ (some (zi 1)) m) :
    T (D + 4) 208 (45, lo, [zi w, zi v], m) κ :=
  zkeep hT hlo (hT.1 [] 6 (D + 4) 208 _ κ (And.intro (fun a1 => (o1 a1)) (fun a2 => (o2 (Classical.byContradiction a2)))))
theorem zb208_45_80 (hT : zRules T) {D : Nat} {κ : Option zA → zM → Prop} {m : zM} {v : Int} {w : Int} {lo : zL} (hlo : z_keep [] lo = [])  (h_v : (-2147483648) ≤ v ∧ v ≤ 2147483647) (h_w : (-2147483648) ≤ w ∧ w ≤ 2147483647) 
    (k1 : ¬ w < v → κ (some (zi 0)) m)
    (k2 : w < v → κ (some (zi 1)) m) :
    T (D + 4) 208 (45, lo, [zi w, zi v], m) κ := by
  have he0 : wr w = w := wr_id (by omega) (by omega)
  have he1 : wr v = v := wr_id (by omega) (by omega)
  have key := @zb208_45_80r T hT D κ m v w lo hlo
  simp only [he0, he1, Int.toNat_natCast] at key
  exact key
    k1
    k2
theorem zb208_69_80r (hT : zRules T) {D : Nat} {κ : Option zA → zM → Prop} {m : zM} {v : Int} {w : Int} {lo : zL} (hlo : z_keep [] lo = []) 
    (o1 : ¬ wr v = wr w → κ (some (zi 0)) m)
    (o2 : wr v = wr w → κ (some (zi 1)) m) :
    T (D + 4) 208 (69, lo, [zi w, zi v], m) κ :=
  zkeep hT hlo (hT.1 [] 6 (D + 4) 208 _ κ (And.intro (fun a1 => (o1 a1)) (fun a2 => (o2 (Classical.byContradiction a2)))))
theorem zb208_69_80 (hT : zRules T) {D : Nat} {κ : Option zA → zM → Prop} {m : zM} {v : Int} {w : Int} {lo : zL} (hlo : z_keep [] lo = [])  (h_v : (-2147483648) ≤ v ∧ v ≤ 2147483647) (h_w : (-2147483648) ≤ w ∧ w ≤ 2147483647) 
    (k1 : ¬ v = w → κ (some (zi 0)) m)
    (k2 : v = w → κ (some (zi 1)) m) :
    T (D + 4) 208 (69, lo, [zi w, zi v], m) κ := by
  have he0 : wr v = v := wr_id (by omega) (by omega)
  have he1 : wr w = w := wr_id (by omega) (by omega)
  have key := @zb208_69_80r T hT D κ m v w lo hlo
  simp only [he0, he1, Int.toNat_natCast] at key
  exact key
    k1
    k2
theorem zb209_0_80r (hT : zRules T) {D : Nat} {κ : Option zA → zM → Prop} {m : zM} {d : Nat} 
    (o1 : T (D + 3) 210 (0, [(0, zr 74), (1, zi (d : Int))], [], m) (fun r m1 => T (D + 4) 209 (5, [(0, zr 74), (1, zi (d : Int))], r.toList ++ [], m1) κ)) :
    T (D + 4) 209 (0, [(0, zr 74), (1, zi (d : Int))], [], m) κ :=
  hT.1 [(6, [0, 1, 2])] 6 (D + 4) 209 _ κ (o1)
theorem zb209_0_80 (hT : zRules T) {D : Nat} {κ : Option zA → zM → Prop} {m : zM} {d : Nat}  (hB : zB m) (hrd : m 74 13 = 80) (h_d : d ≤ 4) (hf0 : (-1) ≤ m 74 17 ∧ m 74 17 ≤ (-1)) (hf1 : 0 ≤ m 74 16 ∧ m 74 16 ≤ 90) (hf2 : 0 ≤ m 74 15 ∧ m 74 15 ≤ 80) 
    (k1 : T (D + 3) 210 (0, [(0, zr 74), (1, zi (d : Int))], [], m) (fun r m1 => T (D + 4) 209 (5, [(0, zr 74), (1, zi (d : Int))], r.toList ++ [], m1) κ)) :
    T (D + 4) 209 (0, [(0, zr 74), (1, zi (d : Int))], [], m) κ := by
  exact zb209_0_80r hT
    k1
theorem zb209_5_80r (hT : zRules T) {D : Nat} {κ : Option zA → zM → Prop} {m : zM} {d : Nat} {v : Int} {lo : zL} (hlo : z_keep [0, 1] lo = [(0, zr 74), (1, zi (d : Int))]) 
    (o1 : T (D + 4) 209 (6, [(0, zr 74), (1, zi (d : Int)), (2, zi v)], [], m) κ) :
    T (D + 4) 209 (5, lo, [zi v], m) κ :=
  zkeep hT hlo (hT.1 [(6, [0, 1, 2])] 6 (D + 4) 209 _ κ (o1))
theorem zb209_5_80 (hT : zRules T) {D : Nat} {κ : Option zA → zM → Prop} {m : zM} {d : Nat} {v : Int} {lo : zL} (hlo : z_keep [0, 1] lo = [(0, zr 74), (1, zi (d : Int))])  (h_d : d ≤ 4) 
    (k1 : T (D + 4) 209 (6, [(0, zr 74), (1, zi (d : Int)), (2, zi v)], [], m) κ) :
    T (D + 4) 209 (5, lo, [zi v], m) κ := by
  exact zb209_5_80r hT hlo
    k1
theorem zb209_61_80r (hT : zRules T) {D : Nat} {κ : Option zA → zM → Prop} {m : zM} {d : Nat} {v : Int} {w : Int} {pl : Int} {lo : zL} (hlo : z_keep [0, 1, 2, 3] lo = [(0, zr 74), (1, zi (d : Int)), (2, zi v), (3, zi pl)]) 
    (o1 : wr pl = 0 → T (D + 4) 209 (6, [(0, zr 74), (1, zi (d : Int)), (2, zi (v - w))], [], m) κ)
    (o2 : ¬ wr pl = 0 → T (D + 4) 209 (6, [(0, zr 74), (1, zi (d : Int)), (2, zi (v + w))], [], m) κ) :
    T (D + 4) 209 (61, lo, [zi w], m) κ :=
  zkeep hT hlo (hT.1 [(6, [0, 1, 2])] 6 (D + 4) 209 _ κ (And.intro (fun a1 => (hT.1 [(6, [0, 1, 2])] 6 (D + 4) 209 (78, [(0, zr 74), (1, zi (d : Int)), (2, zi v), (3, zi pl), (4, zi w)], [zi (v - w)], m) _ (o1 a1))) (fun a2 => (hT.1 [(6, [0, 1, 2])] 6 (D + 4) 209 (71, [(0, zr 74), (1, zi (d : Int)), (2, zi v), (3, zi pl), (4, zi w)], [zi (v + w)], m) _ (o2 a2)))))
theorem zb209_61_80 (hT : zRules T) {D : Nat} {κ : Option zA → zM → Prop} {m : zM} {d : Nat} {v : Int} {w : Int} {pl : Int} {lo : zL} (hlo : z_keep [0, 1, 2, 3] lo = [(0, zr 74), (1, zi (d : Int)), (2, zi v), (3, zi pl)])  (h_d : d ≤ 4) (h_pl : 0 ≤ pl ∧ pl ≤ 1) 
    (k1 : pl = 0 → T (D + 4) 209 (6, [(0, zr 74), (1, zi (d : Int)), (2, zi (v - w))], [], m) κ)
    (k2 : ¬ pl = 0 → T (D + 4) 209 (6, [(0, zr 74), (1, zi (d : Int)), (2, zi (v + w))], [], m) κ) :
    T (D + 4) 209 (61, lo, [zi w], m) κ := by
  have he0 : wr pl = pl := wr_id (by omega) (by omega)
  have key := @zb209_61_80r T hT D κ m d v w pl lo hlo
  simp only [he0, Int.toNat_natCast] at key
  exact key
    k1
    k2
theorem zb209_6_80r (hT : zRules T) {D : Nat} {κ : Option zA → zM → Prop} {m : zM} {d : Nat} {v : Int} {lo : zL} (hlo : z_keep [0, 1, 2] lo = [(0, zr 74), (1, zi (d : Int)), (2, zi v)]) 
    (o1 : ¬ wr (m 74 17) = (-1) → False)
    (o2 : wr (m 74 17) = (-1) → (m 74 13) = 80)
    (o3 : wr (m 74 17) = (-1) → (0 ≤ (m 74 16) ∧ (m 74 16) ≤ 1000))
    (o4 : wr (m 74 17) = (-1) → (0 ≤ (m 74 14) ∧ (m 74 14) ≤ 80))
    (o5 : wr (m 74 17) = (-1) → (0 ≤ (m 74 15) ∧ (m 74 15) ≤ 80))
    (o6 : wr (m 74 17) = (-1) → wr (hrR m 80) = 43 → (m 74 13) = 80)
    (o7 : wr (m 74 17) = (-1) → wr (hrR m 80) = 43 → (0 ≤ (m 74 16) ∧ (m 74 16) ≤ 1000))
    (o8 : wr (m 74 17) = (-1) → wr (hrR m 80) = 43 → (0 ≤ (m 74 14) ∧ (m 74 14) ≤ 80))
    (o9 : wr (m 74 17) = (-1) → wr (hrR m 80) = 43 → (0 ≤ (m 74 15) ∧ (m 74 15) ≤ 80))
    (o10 : wr (m 74 17) = (-1) → wr (hrR m 80) = 43 → ¬ wr (hrR m 80) = 43 → False)
    (o11 : wr (m 74 17) = (-1) → wr (hrR m 80) = 43 → wr (hrR m 80) = 43 → T (D + 3) 210 (0, [(0, zr 74), (1, zi (d : Int))], [], (zu m 74 16 ((m 74 16) + 1))) (fun r m1 => T (D + 4) 209 (61, [(0, zr 74), (1, zi (d : Int)), (2, zi v), (3, zi 1)], r.toList ++ [], m1) κ))
    (o12 : wr (m 74 17) = (-1) → ¬ wr (hrR m 80) = 43 → (m 74 13) = 80)
    (o13 : wr (m 74 17) = (-1) → ¬ wr (hrR m 80) = 43 → (0 ≤ (m 74 16) ∧ (m 74 16) ≤ 1000))
    (o14 : wr (m 74 17) = (-1) → ¬ wr (hrR m 80) = 43 → (0 ≤ (m 74 14) ∧ (m 74 14) ≤ 80))
    (o15 : wr (m 74 17) = (-1) → ¬ wr (hrR m 80) = 43 → (0 ≤ (m 74 15) ∧ (m 74 15) ≤ 80))
    (o16 : wr (m 74 17) = (-1) → ¬ wr (hrR m 80) = 43 → ¬ wr (hrR m 80) = 45 → κ (some (zi (wr v))) m)
    (o17 : wr (m 74 17) = (-1) → ¬ wr (hrR m 80) = 43 → wr (hrR m 80) = 45 → (m 74 13) = 80)
    (o18 : wr (m 74 17) = (-1) → ¬ wr (hrR m 80) = 43 → wr (hrR m 80) = 45 → (0 ≤ (m 74 16) ∧ (m 74 16) ≤ 1000))
    (o19 : wr (m 74 17) = (-1) → ¬ wr (hrR m 80) = 43 → wr (hrR m 80) = 45 → (0 ≤ (m 74 14) ∧ (m 74 14) ≤ 80))
    (o20 : wr (m 74 17) = (-1) → ¬ wr (hrR m 80) = 43 → wr (hrR m 80) = 45 → (0 ≤ (m 74 15) ∧ (m 74 15) ≤ 80))
    (o21 : wr (m 74 17) = (-1) → ¬ wr (hrR m 80) = 43 → wr (hrR m 80) = 45 → ¬ wr (hrR m 80) = 43 → T (D + 3) 210 (0, [(0, zr 74), (1, zi (d : Int))], [], (zu m 74 16 ((m 74 16) + 1))) (fun r m1 => T (D + 4) 209 (61, [(0, zr 74), (1, zi (d : Int)), (2, zi v), (3, zi 0)], r.toList ++ [], m1) κ))
    (o22 : wr (m 74 17) = (-1) → ¬ wr (hrR m 80) = 43 → wr (hrR m 80) = 45 → wr (hrR m 80) = 43 → False) :
    T (D + 4) 209 (6, lo, [], m) κ :=
  zkeep hT hlo (hT.1 [(6, [0, 1, 2])] 6 (D + 4) 209 _ κ (hT.1 [] 6 (D + 3) 199 _ _ (And.intro (fun a1 => (o1 a1).elim) (fun a2 => (hT.1 [] 6 (D + 3) 199 (13, [(0, zr 74)], [zi 1], m) _ (And.intro (z_b01L rfl) (hT.1 [(6, [0, 1, 2])] 6 (D + 4) 209 _ _ (And.intro (fun a3 => (z_litF a3 rfl).elim) (fun _ => (z_here80 hT (o2 (Classical.byContradiction a2)) (o3 (Classical.byContradiction a2)) (o4 (Classical.byContradiction a2)) (o5 (Classical.byContradiction a2)) (hT.1 [(6, [0, 1, 2])] 6 (D + 4) 209 _ _ (And.intro (fun a4 => (z_here80 hT (o6 (Classical.byContradiction a2) a4) (o7 (Classical.byContradiction a2) a4) (o8 (Classical.byContradiction a2) a4) (o9 (Classical.byContradiction a2) a4) (hT.1 [(6, [0, 1, 2])] 6 (D + 4) 209 _ _ (And.intro (fun a6 => (o10 (Classical.byContradiction a2) a4 a6).elim) (fun a7 => (hT.1 [(6, [0, 1, 2])] 6 (D + 4) 209 (47, [(0, zr 74), (1, zi (d : Int)), (2, zi v), (3, zi 1)], [zr 74], m) _ (And.intro trivial (hT.1 [(6, [0, 1, 2])] 6 (D + 4) 209 (57, [(0, zr 74), (1, zi (d : Int)), (2, zi v), (3, zi 1)], [zr 74], (zu m 74 16 ((m 74 16) + 1))) _ (o11 (Classical.byContradiction a2) a4 (Classical.byContradiction a7)))))))))) (fun a5 => (z_here80 hT (o12 (Classical.byContradiction a2) a5) (o13 (Classical.byContradiction a2) a5) (o14 (Classical.byContradiction a2) a5) (o15 (Classical.byContradiction a2) a5) (hT.1 [(6, [0, 1, 2])] 6 (D + 4) 209 _ _ (And.intro (fun a8 => (o16 (Classical.byContradiction a2) a5 a8)) (fun a9 => (z_here80 hT (o17 (Classical.byContradiction a2) a5 (Classical.byContradiction a9)) (o18 (Classical.byContradiction a2) a5 (Classical.byContradiction a9)) (o19 (Classical.byContradiction a2) a5 (Classical.byContradiction a9)) (o20 (Classical.byContradiction a2) a5 (Classical.byContradiction a9)) (hT.1 [(6, [0, 1, 2])] 6 (D + 4) 209 _ _ (And.intro (fun a10 => (hT.1 [(6, [0, 1, 2])] 6 (D + 4) 209 (48, [(0, zr 74), (1, zi (d : Int)), (2, zi v), (3, zi 0)], [zr 74, zr 74], m) _ (And.intro trivial (hT.1 [(6, [0, 1, 2])] 6 (D + 4) 209 (58, [(0, zr 74), (1, zi (d : Int)), (2, zi v), (3, zi 0)], [zi (d : Int), zr 74], (zu m 74 16 ((m 74 16) + 1))) _ (o21 (Classical.byContradiction a2) a5 (Classical.byContradiction a9) a10))))) (fun a11 => (o22 (Classical.byContradiction a2) a5 (Classical.byContradiction a9) (Classical.byContradiction a11)).elim)))))))))))))))))))))
theorem zb209_6_80 (hT : zRules T) {D : Nat} {κ : Option zA → zM → Prop} {m : zM} {d : Nat} {v : Int} {lo : zL} (hlo : z_keep [0, 1, 2] lo = [(0, zr 74), (1, zi (d : Int)), (2, zi v)])  (hB : zB m) (hrd : m 74 13 = 80) (h_d : d ≤ 4) (hf0 : (-1) ≤ m 74 17 ∧ m 74 17 ≤ (-1)) (hf1 : 0 ≤ m 74 16 ∧ m 74 16 ≤ 90) (hf2 : 0 ≤ m 74 15 ∧ m 74 15 ≤ 80) 
    (k1 : (hrR m 80) = 43 → zB (zu m 74 16 ((m 74 16) + 1)) → T (D + 3) 210 (0, [(0, zr 74), (1, zi (d : Int))], [], (zu m 74 16 ((m 74 16) + 1))) (fun r m1 => T (D + 4) 209 (61, [(0, zr 74), (1, zi (d : Int)), (2, zi v), (3, zi 1)], r.toList ++ [], m1) κ))
    (k2 : ¬ (hrR m 80) = 43 → ¬ (hrR m 80) = 45 → κ (some (zi (wr v))) m)
    (k3 : ¬ (hrR m 80) = 43 → (hrR m 80) = 45 → zB (zu m 74 16 ((m 74 16) + 1)) → T (D + 3) 210 (0, [(0, zr 74), (1, zi (d : Int))], [], (zu m 74 16 ((m 74 16) + 1))) (fun r m1 => T (D + 4) 209 (61, [(0, zr 74), (1, zi (d : Int)), (2, zi v), (3, zi 0)], r.toList ++ [], m1) κ)) :
    T (D + 4) 209 (6, lo, [], m) κ := by
  have hb4 : 0 ≤ (m 74 14) ∧ (m 74 14) ≤ 80 := hB 74 14
  have hb5 : (-1) ≤ (hrR m 80) ∧ (hrR m 80) ≤ 255 := hrRB m 80
  have hb6 : (-2147483648) ≤ wr v ∧ wr v ≤ 2147483647 := wrB v
  have he0 : wr (m 74 17) = (m 74 17) := wr_id (by omega) (by omega)
  have he1 : wr (hrR m 80) = (hrR m 80) := wr_id (by omega) (by omega)
  have key := @zb209_6_80r T hT D κ m d v lo hlo
  simp only [he0, he1, Int.toNat_natCast] at key
  exact key
    (fun x0 => by omega)
    (fun x0 => hrd)
    (fun x0 => by refine ⟨?_, ?_⟩ <;> omega)
    (fun x0 => by refine ⟨?_, ?_⟩ <;> omega)
    (fun x0 => by refine ⟨?_, ?_⟩ <;> omega)
    (fun x0 x1 => hrd)
    (fun x0 x1 => by refine ⟨?_, ?_⟩ <;> omega)
    (fun x0 x1 => by refine ⟨?_, ?_⟩ <;> omega)
    (fun x0 x1 => by refine ⟨?_, ?_⟩ <;> omega)
    (fun x0 x1 x2 => by omega)
    (fun x0 x1 x2 => k1 x1 (zB_u hB (show 0 ≤ ((m 74 16) + 1) ∧ ((m 74 16) + 1) ≤ 100 from ⟨by omega, by omega⟩)))
    (fun x0 x1 => hrd)
    (fun x0 x1 => by refine ⟨?_, ?_⟩ <;> omega)
    (fun x0 x1 => by refine ⟨?_, ?_⟩ <;> omega)
    (fun x0 x1 => by refine ⟨?_, ?_⟩ <;> omega)
    (fun x0 x1 x2 => k2 x1 x2)
    (fun x0 x1 x2 => hrd)
    (fun x0 x1 x2 => by refine ⟨?_, ?_⟩ <;> omega)
    (fun x0 x1 x2 => by refine ⟨?_, ?_⟩ <;> omega)
    (fun x0 x1 x2 => by refine ⟨?_, ?_⟩ <;> omega)
    (fun x0 x1 x2 x3 => k3 x1 x2 (zB_u hB (show 0 ≤ ((m 74 16) + 1) ∧ ((m 74 16) + 1) ≤ 100 from ⟨by omega, by omega⟩)))
    (fun x0 x1 x2 x3 => by omega)
theorem zb209_6_80fr (hT : zRules T) {D : Nat} {κ : Option zA → zM → Prop} {m : zM} {d : Nat} {v : Int} {lo : zL} (hlo : z_keep [0, 1, 2] lo = [(0, zr 74), (1, zi (d : Int)), (2, zi v)]) 
    (o1 : ¬ wr (m 74 17) = (-1) → κ (some (zi (wr v))) m)
    (o2 : wr (m 74 17) = (-1) → False) :
    T (D + 4) 209 (6, lo, [], m) κ :=
  zkeep hT hlo (hT.1 [(6, [0, 1, 2])] 6 (D + 4) 209 _ κ (hT.1 [] 6 (D + 3) 199 _ _ (And.intro (fun a1 => (And.intro (z_b01L rfl) (hT.1 [(6, [0, 1, 2])] 6 (D + 4) 209 _ _ (And.intro (fun _ => (o1 a1)) (fun a3 => (a3 (z_litT rfl)).elim))))) (fun a2 => (o2 (Classical.byContradiction a2)).elim))))
theorem zb209_6_80f (hT : zRules T) {D : Nat} {κ : Option zA → zM → Prop} {m : zM} {d : Nat} {v : Int} {lo : zL} (hlo : z_keep [0, 1, 2] lo = [(0, zr 74), (1, zi (d : Int)), (2, zi v)])  (hB : zB m) (hrd : m 74 13 = 80) (h_d : d ≤ 4) (hf0 : 0 ≤ m 74 17 ∧ m 74 17 ≤ 100) 
    (k1 : κ (some (zi (wr v))) m) :
    T (D + 4) 209 (6, lo, [], m) κ := by
  have hb2 : (-2147483648) ≤ wr v ∧ wr v ≤ 2147483647 := wrB v
  have he0 : wr (m 74 17) = (m 74 17) := wr_id (by omega) (by omega)
  have key := @zb209_6_80fr T hT D κ m d v lo hlo
  simp only [he0, Int.toNat_natCast] at key
  exact key
    (fun x0 => k1 )
    (fun x0 => by omega)
theorem zb210_0_80r (hT : zRules T) {D : Nat} {κ : Option zA → zM → Prop} {m : zM} {d : Nat} 
    (o1 : T (D + 3) 211 (0, [(0, zr 74), (1, zi (d : Int))], [], m) (fun r m1 => T (D + 4) 210 (5, [(0, zr 74), (1, zi (d : Int))], r.toList ++ [], m1) κ)) :
    T (D + 4) 210 (0, [(0, zr 74), (1, zi (d : Int))], [], m) κ :=
  hT.1 [(6, [0, 1, 2])] 6 (D + 4) 210 _ κ (o1)
theorem zb210_0_80 (hT : zRules T) {D : Nat} {κ : Option zA → zM → Prop} {m : zM} {d : Nat}  (hB : zB m) (hrd : m 74 13 = 80) (h_d : d ≤ 4) (hf0 : (-1) ≤ m 74 17 ∧ m 74 17 ≤ (-1)) (hf1 : 0 ≤ m 74 16 ∧ m 74 16 ≤ 90) (hf2 : 0 ≤ m 74 15 ∧ m 74 15 ≤ 80) 
    (k1 : T (D + 3) 211 (0, [(0, zr 74), (1, zi (d : Int))], [], m) (fun r m1 => T (D + 4) 210 (5, [(0, zr 74), (1, zi (d : Int))], r.toList ++ [], m1) κ)) :
    T (D + 4) 210 (0, [(0, zr 74), (1, zi (d : Int))], [], m) κ := by
  exact zb210_0_80r hT
    k1
theorem zb210_5_80r (hT : zRules T) {D : Nat} {κ : Option zA → zM → Prop} {m : zM} {d : Nat} {v : Int} {lo : zL} (hlo : z_keep [0, 1] lo = [(0, zr 74), (1, zi (d : Int))]) 
    (o1 : T (D + 4) 210 (6, [(0, zr 74), (1, zi (d : Int)), (2, zi v)], [], m) κ) :
    T (D + 4) 210 (5, lo, [zi v], m) κ :=
  zkeep hT hlo (hT.1 [(6, [0, 1, 2])] 6 (D + 4) 210 _ κ (o1))
theorem zb210_5_80 (hT : zRules T) {D : Nat} {κ : Option zA → zM → Prop} {m : zM} {d : Nat} {v : Int} {lo : zL} (hlo : z_keep [0, 1] lo = [(0, zr 74), (1, zi (d : Int))])  (h_d : d ≤ 4) 
    (k1 : T (D + 4) 210 (6, [(0, zr 74), (1, zi (d : Int)), (2, zi v)], [], m) κ) :
    T (D + 4) 210 (5, lo, [zi v], m) κ := by
  exact zb210_5_80r hT hlo
    k1
theorem zb210_61_80r (hT : zRules T) {D : Nat} {κ : Option zA → zM → Prop} {m : zM} {d : Nat} {v : Int} {w : Int} {bq : Int} {lo : zL} (hlo : z_keep [0, 1, 2, 3] lo = [(0, zr 74), (1, zi (d : Int)), (2, zi v), (3, zi bq)]) 
    (o1 : wr bq = 0 → ¬ wr w = 0 → ¬ wr w = 0)
    (o2 : wr bq = 0 → ¬ wr w = 0 → T (D + 4) 210 (6, [(0, zr 74), (1, zi (d : Int)), (2, zi (Int.tdiv (wr v) (wr w)))], [], m) κ)
    (o3 : wr bq = 0 → wr w = 0 → T (D + 4) 210 (6, [(0, zr 74), (1, zi (d : Int)), (2, zi 0)], [], m) κ)
    (o4 : ¬ wr bq = 0 → T (D + 4) 210 (6, [(0, zr 74), (1, zi (d : Int)), (2, zi (v * w))], [], m) κ) :
    T (D + 4) 210 (61, lo, [zi w], m) κ :=
  zkeep hT hlo (hT.1 [(6, [0, 1, 2])] 6 (D + 4) 210 _ κ (And.intro (fun a1 => (And.intro (fun a3 => (hT.1 [(6, [0, 1, 2])] 6 (D + 4) 210 (84, [(0, zr 74), (1, zi (d : Int)), (2, zi v), (3, zi bq), (4, zi w)], [zi v], m) _ (And.intro (o1 a1 a3) (o2 a1 a3)))) (fun a4 => (hT.1 [(6, [0, 1, 2])] 6 (D + 4) 210 (80, [(0, zr 74), (1, zi (d : Int)), (2, zi v), (3, zi bq), (4, zi w)], [zi 0], m) _ (o3 a1 (Classical.byContradiction a4)))))) (fun a2 => (hT.1 [(6, [0, 1, 2])] 6 (D + 4) 210 (71, [(0, zr 74), (1, zi (d : Int)), (2, zi v), (3, zi bq), (4, zi w)], [zi (v * w)], m) _ (o4 a2)))))
theorem zb210_61_80 (hT : zRules T) {D : Nat} {κ : Option zA → zM → Prop} {m : zM} {d : Nat} {v : Int} {w : Int} {bq : Int} {lo : zL} (hlo : z_keep [0, 1, 2, 3] lo = [(0, zr 74), (1, zi (d : Int)), (2, zi v), (3, zi bq)])  (h_d : d ≤ 4) (h_bq : 0 ≤ bq ∧ bq ≤ 1) 
    (k1 : bq = 0 → ¬ wr w = 0 → T (D + 4) 210 (6, [(0, zr 74), (1, zi (d : Int)), (2, zi (Int.tdiv (wr v) (wr w)))], [], m) κ)
    (k2 : bq = 0 → wr w = 0 → T (D + 4) 210 (6, [(0, zr 74), (1, zi (d : Int)), (2, zi 0)], [], m) κ)
    (k3 : ¬ bq = 0 → T (D + 4) 210 (6, [(0, zr 74), (1, zi (d : Int)), (2, zi (v * w))], [], m) κ) :
    T (D + 4) 210 (61, lo, [zi w], m) κ := by
  have hb2 : (-2147483648) ≤ wr w ∧ wr w ≤ 2147483647 := wrB w
  have hb3 : (-2147483648) ≤ wr v ∧ wr v ≤ 2147483647 := wrB v
  have he0 : wr bq = bq := wr_id (by omega) (by omega)
  have key := @zb210_61_80r T hT D κ m d v w bq lo hlo
  simp only [he0, Int.toNat_natCast] at key
  exact key
    (fun x0 x1 => by omega)
    k1
    k2
    k3
theorem zb210_6_80r (hT : zRules T) {D : Nat} {κ : Option zA → zM → Prop} {m : zM} {d : Nat} {v : Int} {lo : zL} (hlo : z_keep [0, 1, 2] lo = [(0, zr 74), (1, zi (d : Int)), (2, zi v)]) 
    (o1 : ¬ wr (m 74 17) = (-1) → False)
    (o2 : wr (m 74 17) = (-1) → (m 74 13) = 80)
    (o3 : wr (m 74 17) = (-1) → (0 ≤ (m 74 16) ∧ (m 74 16) ≤ 1000))
    (o4 : wr (m 74 17) = (-1) → (0 ≤ (m 74 14) ∧ (m 74 14) ≤ 80))
    (o5 : wr (m 74 17) = (-1) → (0 ≤ (m 74 15) ∧ (m 74 15) ≤ 80))
    (o6 : wr (m 74 17) = (-1) → wr (hrR m 80) = 42 → (m 74 13) = 80)
    (o7 : wr (m 74 17) = (-1) → wr (hrR m 80) = 42 → (0 ≤ (m 74 16) ∧ (m 74 16) ≤ 1000))
    (o8 : wr (m 74 17) = (-1) → wr (hrR m 80) = 42 → (0 ≤ (m 74 14) ∧ (m 74 14) ≤ 80))
    (o9 : wr (m 74 17) = (-1) → wr (hrR m 80) = 42 → (0 ≤ (m 74 15) ∧ (m 74 15) ≤ 80))
    (o10 : wr (m 74 17) = (-1) → wr (hrR m 80) = 42 → ¬ wr (hrR m 80) = 42 → False)
    (o11 : wr (m 74 17) = (-1) → wr (hrR m 80) = 42 → wr (hrR m 80) = 42 → T (D + 3) 211 (0, [(0, zr 74), (1, zi (d : Int))], [], (zu m 74 16 ((m 74 16) + 1))) (fun r m1 => T (D + 4) 210 (61, [(0, zr 74), (1, zi (d : Int)), (2, zi v), (3, zi 1)], r.toList ++ [], m1) κ))
    (o12 : wr (m 74 17) = (-1) → ¬ wr (hrR m 80) = 42 → (m 74 13) = 80)
    (o13 : wr (m 74 17) = (-1) → ¬ wr (hrR m 80) = 42 → (0 ≤ (m 74 16) ∧ (m 74 16) ≤ 1000))
    (o14 : wr (m 74 17) = (-1) → ¬ wr (hrR m 80) = 42 → (0 ≤ (m 74 14) ∧ (m 74 14) ≤ 80))
    (o15 : wr (m 74 17) = (-1) → ¬ wr (hrR m 80) = 42 → (0 ≤ (m 74 15) ∧ (m 74 15) ≤ 80))
    (o16 : wr (m 74 17) = (-1) → ¬ wr (hrR m 80) = 42 → ¬ wr (hrR m 80) = 47 → κ (some (zi (wr v))) m)
    (o17 : wr (m 74 17) = (-1) → ¬ wr (hrR m 80) = 42 → wr (hrR m 80) = 47 → (m 74 13) = 80)
    (o18 : wr (m 74 17) = (-1) → ¬ wr (hrR m 80) = 42 → wr (hrR m 80) = 47 → (0 ≤ (m 74 16) ∧ (m 74 16) ≤ 1000))
    (o19 : wr (m 74 17) = (-1) → ¬ wr (hrR m 80) = 42 → wr (hrR m 80) = 47 → (0 ≤ (m 74 14) ∧ (m 74 14) ≤ 80))
    (o20 : wr (m 74 17) = (-1) → ¬ wr (hrR m 80) = 42 → wr (hrR m 80) = 47 → (0 ≤ (m 74 15) ∧ (m 74 15) ≤ 80))
    (o21 : wr (m 74 17) = (-1) → ¬ wr (hrR m 80) = 42 → wr (hrR m 80) = 47 → ¬ wr (hrR m 80) = 42 → T (D + 3) 211 (0, [(0, zr 74), (1, zi (d : Int))], [], (zu m 74 16 ((m 74 16) + 1))) (fun r m1 => T (D + 4) 210 (61, [(0, zr 74), (1, zi (d : Int)), (2, zi v), (3, zi 0)], r.toList ++ [], m1) κ))
    (o22 : wr (m 74 17) = (-1) → ¬ wr (hrR m 80) = 42 → wr (hrR m 80) = 47 → wr (hrR m 80) = 42 → False) :
    T (D + 4) 210 (6, lo, [], m) κ :=
  zkeep hT hlo (hT.1 [(6, [0, 1, 2])] 6 (D + 4) 210 _ κ (hT.1 [] 6 (D + 3) 199 _ _ (And.intro (fun a1 => (o1 a1).elim) (fun a2 => (hT.1 [] 6 (D + 3) 199 (13, [(0, zr 74)], [zi 1], m) _ (And.intro (z_b01L rfl) (hT.1 [(6, [0, 1, 2])] 6 (D + 4) 210 _ _ (And.intro (fun a3 => (z_litF a3 rfl).elim) (fun _ => (z_here80 hT (o2 (Classical.byContradiction a2)) (o3 (Classical.byContradiction a2)) (o4 (Classical.byContradiction a2)) (o5 (Classical.byContradiction a2)) (hT.1 [(6, [0, 1, 2])] 6 (D + 4) 210 _ _ (And.intro (fun a4 => (z_here80 hT (o6 (Classical.byContradiction a2) a4) (o7 (Classical.byContradiction a2) a4) (o8 (Classical.byContradiction a2) a4) (o9 (Classical.byContradiction a2) a4) (hT.1 [(6, [0, 1, 2])] 6 (D + 4) 210 _ _ (And.intro (fun a6 => (o10 (Classical.byContradiction a2) a4 a6).elim) (fun a7 => (hT.1 [(6, [0, 1, 2])] 6 (D + 4) 210 (47, [(0, zr 74), (1, zi (d : Int)), (2, zi v), (3, zi 1)], [zr 74], m) _ (And.intro trivial (hT.1 [(6, [0, 1, 2])] 6 (D + 4) 210 (57, [(0, zr 74), (1, zi (d : Int)), (2, zi v), (3, zi 1)], [zr 74], (zu m 74 16 ((m 74 16) + 1))) _ (o11 (Classical.byContradiction a2) a4 (Classical.byContradiction a7)))))))))) (fun a5 => (z_here80 hT (o12 (Classical.byContradiction a2) a5) (o13 (Classical.byContradiction a2) a5) (o14 (Classical.byContradiction a2) a5) (o15 (Classical.byContradiction a2) a5) (hT.1 [(6, [0, 1, 2])] 6 (D + 4) 210 _ _ (And.intro (fun a8 => (o16 (Classical.byContradiction a2) a5 a8)) (fun a9 => (z_here80 hT (o17 (Classical.byContradiction a2) a5 (Classical.byContradiction a9)) (o18 (Classical.byContradiction a2) a5 (Classical.byContradiction a9)) (o19 (Classical.byContradiction a2) a5 (Classical.byContradiction a9)) (o20 (Classical.byContradiction a2) a5 (Classical.byContradiction a9)) (hT.1 [(6, [0, 1, 2])] 6 (D + 4) 210 _ _ (And.intro (fun a10 => (hT.1 [(6, [0, 1, 2])] 6 (D + 4) 210 (48, [(0, zr 74), (1, zi (d : Int)), (2, zi v), (3, zi 0)], [zr 74, zr 74], m) _ (And.intro trivial (hT.1 [(6, [0, 1, 2])] 6 (D + 4) 210 (58, [(0, zr 74), (1, zi (d : Int)), (2, zi v), (3, zi 0)], [zi (d : Int), zr 74], (zu m 74 16 ((m 74 16) + 1))) _ (o21 (Classical.byContradiction a2) a5 (Classical.byContradiction a9) a10))))) (fun a11 => (o22 (Classical.byContradiction a2) a5 (Classical.byContradiction a9) (Classical.byContradiction a11)).elim)))))))))))))))))))))
theorem zb210_6_80 (hT : zRules T) {D : Nat} {κ : Option zA → zM → Prop} {m : zM} {d : Nat} {v : Int} {lo : zL} (hlo : z_keep [0, 1, 2] lo = [(0, zr 74), (1, zi (d : Int)), (2, zi v)])  (hB : zB m) (hrd : m 74 13 = 80) (h_d : d ≤ 4) (hf0 : (-1) ≤ m 74 17 ∧ m 74 17 ≤ (-1)) (hf1 : 0 ≤ m 74 16 ∧ m 74 16 ≤ 90) (hf2 : 0 ≤ m 74 15 ∧ m 74 15 ≤ 80) 
    (k1 : (hrR m 80) = 42 → zB (zu m 74 16 ((m 74 16) + 1)) → T (D + 3) 211 (0, [(0, zr 74), (1, zi (d : Int))], [], (zu m 74 16 ((m 74 16) + 1))) (fun r m1 => T (D + 4) 210 (61, [(0, zr 74), (1, zi (d : Int)), (2, zi v), (3, zi 1)], r.toList ++ [], m1) κ))
    (k2 : ¬ (hrR m 80) = 42 → ¬ (hrR m 80) = 47 → κ (some (zi (wr v))) m)
    (k3 : ¬ (hrR m 80) = 42 → (hrR m 80) = 47 → zB (zu m 74 16 ((m 74 16) + 1)) → T (D + 3) 211 (0, [(0, zr 74), (1, zi (d : Int))], [], (zu m 74 16 ((m 74 16) + 1))) (fun r m1 => T (D + 4) 210 (61, [(0, zr 74), (1, zi (d : Int)), (2, zi v), (3, zi 0)], r.toList ++ [], m1) κ)) :
    T (D + 4) 210 (6, lo, [], m) κ := by
  have hb4 : 0 ≤ (m 74 14) ∧ (m 74 14) ≤ 80 := hB 74 14
  have hb5 : (-1) ≤ (hrR m 80) ∧ (hrR m 80) ≤ 255 := hrRB m 80
  have hb6 : (-2147483648) ≤ wr v ∧ wr v ≤ 2147483647 := wrB v
  have he0 : wr (m 74 17) = (m 74 17) := wr_id (by omega) (by omega)
  have he1 : wr (hrR m 80) = (hrR m 80) := wr_id (by omega) (by omega)
  have key := @zb210_6_80r T hT D κ m d v lo hlo
  simp only [he0, he1, Int.toNat_natCast] at key
  exact key
    (fun x0 => by omega)
    (fun x0 => hrd)
    (fun x0 => by refine ⟨?_, ?_⟩ <;> omega)
    (fun x0 => by refine ⟨?_, ?_⟩ <;> omega)
    (fun x0 => by refine ⟨?_, ?_⟩ <;> omega)
    (fun x0 x1 => hrd)
    (fun x0 x1 => by refine ⟨?_, ?_⟩ <;> omega)
    (fun x0 x1 => by refine ⟨?_, ?_⟩ <;> omega)
    (fun x0 x1 => by refine ⟨?_, ?_⟩ <;> omega)
    (fun x0 x1 x2 => by omega)
    (fun x0 x1 x2 => k1 x1 (zB_u hB (show 0 ≤ ((m 74 16) + 1) ∧ ((m 74 16) + 1) ≤ 100 from ⟨by omega, by omega⟩)))
    (fun x0 x1 => hrd)
    (fun x0 x1 => by refine ⟨?_, ?_⟩ <;> omega)
    (fun x0 x1 => by refine ⟨?_, ?_⟩ <;> omega)
    (fun x0 x1 => by refine ⟨?_, ?_⟩ <;> omega)
    (fun x0 x1 x2 => k2 x1 x2)
    (fun x0 x1 x2 => hrd)
    (fun x0 x1 x2 => by refine ⟨?_, ?_⟩ <;> omega)
    (fun x0 x1 x2 => by refine ⟨?_, ?_⟩ <;> omega)
    (fun x0 x1 x2 => by refine ⟨?_, ?_⟩ <;> omega)
    (fun x0 x1 x2 x3 => k3 x1 x2 (zB_u hB (show 0 ≤ ((m 74 16) + 1) ∧ ((m 74 16) + 1) ≤ 100 from ⟨by omega, by omega⟩)))
    (fun x0 x1 x2 x3 => by omega)
theorem zb210_6_80fr (hT : zRules T) {D : Nat} {κ : Option zA → zM → Prop} {m : zM} {d : Nat} {v : Int} {lo : zL} (hlo : z_keep [0, 1, 2] lo = [(0, zr 74), (1, zi (d : Int)), (2, zi v)]) 
    (o1 : ¬ wr (m 74 17) = (-1) → κ (some (zi (wr v))) m)
    (o2 : wr (m 74 17) = (-1) → False) :
    T (D + 4) 210 (6, lo, [], m) κ :=
  zkeep hT hlo (hT.1 [(6, [0, 1, 2])] 6 (D + 4) 210 _ κ (hT.1 [] 6 (D + 3) 199 _ _ (And.intro (fun a1 => (And.intro (z_b01L rfl) (hT.1 [(6, [0, 1, 2])] 6 (D + 4) 210 _ _ (And.intro (fun _ => (o1 a1)) (fun a3 => (a3 (z_litT rfl)).elim))))) (fun a2 => (o2 (Classical.byContradiction a2)).elim))))
theorem zb210_6_80f (hT : zRules T) {D : Nat} {κ : Option zA → zM → Prop} {m : zM} {d : Nat} {v : Int} {lo : zL} (hlo : z_keep [0, 1, 2] lo = [(0, zr 74), (1, zi (d : Int)), (2, zi v)])  (hB : zB m) (hrd : m 74 13 = 80) (h_d : d ≤ 4) (hf0 : 0 ≤ m 74 17 ∧ m 74 17 ≤ 100) 
    (k1 : κ (some (zi (wr v))) m) :
    T (D + 4) 210 (6, lo, [], m) κ := by
  have hb2 : (-2147483648) ≤ wr v ∧ wr v ≤ 2147483647 := wrB v
  have he0 : wr (m 74 17) = (m 74 17) := wr_id (by omega) (by omega)
  have key := @zb210_6_80fr T hT D κ m d v lo hlo
  simp only [he0, Int.toNat_natCast] at key
  exact key
    (fun x0 => k1 )
    (fun x0 => by omega)
theorem zb211_0_80r (hT : zRules T) {D : Nat} {κ : Option zA → zM → Prop} {m : zM} {d : Nat} 
    (o1 : ¬ wr (m 74 17) = (-1) → False)
    (o2 : wr (m 74 17) = (-1) → (m 74 13) = 80)
    (o3 : wr (m 74 17) = (-1) → (0 ≤ (m 74 16) ∧ (m 74 16) ≤ 1000))
    (o4 : wr (m 74 17) = (-1) → (0 ≤ (m 74 14) ∧ (m 74 14) ≤ 80))
    (o5 : wr (m 74 17) = (-1) → (0 ≤ (m 74 15) ∧ (m 74 15) ≤ 80))
    (o6 : wr (m 74 17) = (-1) → wr (hrR m 80) = 45 → T (D + 3) 211 (0, [(0, zr 74), (1, zi (d : Int))], [], (zu m 74 16 ((m 74 16) + 1))) (fun r m1 => T (D + 4) 211 (14, [(0, zr 74), (1, zi (d : Int))], r.toList ++ [], m1) κ))
    (o7 : wr (m 74 17) = (-1) → ¬ wr (hrR m 80) = 45 → ¬ wr (m 74 17) = (-1) → False)
    (o8 : wr (m 74 17) = (-1) → ¬ wr (hrR m 80) = 45 → wr (m 74 17) = (-1) → (m 74 13) = 80)
    (o9 : wr (m 74 17) = (-1) → ¬ wr (hrR m 80) = 45 → wr (m 74 17) = (-1) → (0 ≤ (m 74 16) ∧ (m 74 16) ≤ 1000))
    (o10 : wr (m 74 17) = (-1) → ¬ wr (hrR m 80) = 45 → wr (m 74 17) = (-1) → (0 ≤ (m 74 14) ∧ (m 74 14) ≤ 80))
    (o11 : wr (m 74 17) = (-1) → ¬ wr (hrR m 80) = 45 → wr (m 74 17) = (-1) → (0 ≤ (m 74 15) ∧ (m 74 15) ≤ 80))
    (o12 : wr (m 74 17) = (-1) → ¬ wr (hrR m 80) = 45 → wr (m 74 17) = (-1) → ¬ wr (hrR m 80) = 40 → wr (hrR m 80) < 48 → wr (hrR m 80) = 104 → False)
    (o13 : wr (m 74 17) = (-1) → ¬ wr (hrR m 80) = 45 → wr (m 74 17) = (-1) → ¬ wr (hrR m 80) = 40 → wr (hrR m 80) < 48 → ¬ wr (hrR m 80) = 104 → wr (hrR m 80) = 108 → False)
    (o14 : wr (m 74 17) = (-1) → ¬ wr (hrR m 80) = 45 → wr (m 74 17) = (-1) → ¬ wr (hrR m 80) = 40 → wr (hrR m 80) < 48 → ¬ wr (hrR m 80) = 104 → ¬ wr (hrR m 80) = 108 → wr (hrR m 80) = 119 → False)
    (o15 : wr (m 74 17) = (-1) → ¬ wr (hrR m 80) = 45 → wr (m 74 17) = (-1) → ¬ wr (hrR m 80) = 40 → wr (hrR m 80) < 48 → ¬ wr (hrR m 80) = 104 → ¬ wr (hrR m 80) = 108 → ¬ wr (hrR m 80) = 119 → wr (hrR m 80) = 112 → False)
    (o16 : wr (m 74 17) = (-1) → ¬ wr (hrR m 80) = 45 → wr (m 74 17) = (-1) → ¬ wr (hrR m 80) = 40 → wr (hrR m 80) < 48 → ¬ wr (hrR m 80) = 104 → ¬ wr (hrR m 80) = 108 → ¬ wr (hrR m 80) = 119 → ¬ wr (hrR m 80) = 112 → wr (hrR m 80) = 105 → False)
    (o17 : wr (m 74 17) = (-1) → ¬ wr (hrR m 80) = 45 → wr (m 74 17) = (-1) → ¬ wr (hrR m 80) = 40 → wr (hrR m 80) < 48 → ¬ wr (hrR m 80) = 104 → ¬ wr (hrR m 80) = 108 → ¬ wr (hrR m 80) = 119 → ¬ wr (hrR m 80) = 112 → ¬ wr (hrR m 80) = 105 → ¬ wr (m 74 17) = (-1) → False)
    (o18 : wr (m 74 17) = (-1) → ¬ wr (hrR m 80) = 45 → wr (m 74 17) = (-1) → ¬ wr (hrR m 80) = 40 → wr (hrR m 80) < 48 → ¬ wr (hrR m 80) = 104 → ¬ wr (hrR m 80) = 108 → ¬ wr (hrR m 80) = 119 → ¬ wr (hrR m 80) = 112 → ¬ wr (hrR m 80) = 105 → wr (m 74 17) = (-1) → κ (some (zi 0)) (zu m 74 17 (m 74 16)))
    (o19 : wr (m 74 17) = (-1) → ¬ wr (hrR m 80) = 45 → wr (m 74 17) = (-1) → ¬ wr (hrR m 80) = 40 → ¬ wr (hrR m 80) < 48 → 57 < wr (hrR m 80) → wr (hrR m 80) = 104 → ¬ wr (m 74 26) = 0 → ¬ wr (hrR m 80) = 104 → False)
    (o20 : wr (m 74 17) = (-1) → ¬ wr (hrR m 80) = 45 → wr (m 74 17) = (-1) → ¬ wr (hrR m 80) = 40 → ¬ wr (hrR m 80) < 48 → 57 < wr (hrR m 80) → wr (hrR m 80) = 104 → ¬ wr (m 74 26) = 0 → wr (hrR m 80) = 104 → κ (some (zi (wr (m 74 28)))) (zu m 74 16 ((m 74 16) + 1)))
    (o21 : wr (m 74 17) = (-1) → ¬ wr (hrR m 80) = 45 → wr (m 74 17) = (-1) → ¬ wr (hrR m 80) = 40 → ¬ wr (hrR m 80) < 48 → 57 < wr (hrR m 80) → wr (hrR m 80) = 104 → wr (m 74 26) = 0 → κ (some (zi 0)) (zu m 74 16 ((m 74 16) + 1)))
    (o22 : wr (m 74 17) = (-1) → ¬ wr (hrR m 80) = 45 → wr (m 74 17) = (-1) → ¬ wr (hrR m 80) = 40 → ¬ wr (hrR m 80) < 48 → 57 < wr (hrR m 80) → ¬ wr (hrR m 80) = 104 → wr (hrR m 80) = 108 → ¬ wr (m 74 26) = 0 → ¬ wr (hrR m 80) = 104 → ¬ wr (hrR m 80) = 108 → False)
    (o23 : wr (m 74 17) = (-1) → ¬ wr (hrR m 80) = 45 → wr (m 74 17) = (-1) → ¬ wr (hrR m 80) = 40 → ¬ wr (hrR m 80) < 48 → 57 < wr (hrR m 80) → ¬ wr (hrR m 80) = 104 → wr (hrR m 80) = 108 → ¬ wr (m 74 26) = 0 → ¬ wr (hrR m 80) = 104 → wr (hrR m 80) = 108 → (0 ≤ wr (m 74 29) ∧ wr (m 74 29) < 4))
    (o24 : wr (m 74 17) = (-1) → ¬ wr (hrR m 80) = 45 → wr (m 74 17) = (-1) → ¬ wr (hrR m 80) = 40 → ¬ wr (hrR m 80) < 48 → 57 < wr (hrR m 80) → ¬ wr (hrR m 80) = 104 → wr (hrR m 80) = 108 → ¬ wr (m 74 26) = 0 → ¬ wr (hrR m 80) = 104 → wr (hrR m 80) = 108 → ¬ wr (m 77 ((wr (m 74 29)).toNat)) = 0)
    (o25 : wr (m 74 17) = (-1) → ¬ wr (hrR m 80) = 45 → wr (m 74 17) = (-1) → ¬ wr (hrR m 80) = 40 → ¬ wr (hrR m 80) < 48 → 57 < wr (hrR m 80) → ¬ wr (hrR m 80) = 104 → wr (hrR m 80) = 108 → ¬ wr (m 74 26) = 0 → ¬ wr (hrR m 80) = 104 → wr (hrR m 80) = 108 → (0 ≤ wr ((26 * (m 74 29)) + (Int.tmod (wr (m 74 30)) (wr (m 77 ((wr (m 74 29)).toNat))))) ∧ wr ((26 * (m 74 29)) + (Int.tmod (wr (m 74 30)) (wr (m 77 ((wr (m 74 29)).toNat))))) < 104))
    (o26 : wr (m 74 17) = (-1) → ¬ wr (hrR m 80) = 45 → wr (m 74 17) = (-1) → ¬ wr (hrR m 80) = 40 → ¬ wr (hrR m 80) < 48 → 57 < wr (hrR m 80) → ¬ wr (hrR m 80) = 104 → wr (hrR m 80) = 108 → ¬ wr (m 74 26) = 0 → ¬ wr (hrR m 80) = 104 → wr (hrR m 80) = 108 → κ (some (zi (wr (wr (m 76 ((wr ((26 * (m 74 29)) + (Int.tmod (wr (m 74 30)) (wr (m 77 ((wr (m 74 29)).toNat)))))).toNat)))))) (zu m 74 16 ((m 74 16) + 1)))
    (o27 : wr (m 74 17) = (-1) → ¬ wr (hrR m 80) = 45 → wr (m 74 17) = (-1) → ¬ wr (hrR m 80) = 40 → ¬ wr (hrR m 80) < 48 → 57 < wr (hrR m 80) → ¬ wr (hrR m 80) = 104 → wr (hrR m 80) = 108 → ¬ wr (m 74 26) = 0 → wr (hrR m 80) = 104 → False)
    (o28 : wr (m 74 17) = (-1) → ¬ wr (hrR m 80) = 45 → wr (m 74 17) = (-1) → ¬ wr (hrR m 80) = 40 → ¬ wr (hrR m 80) < 48 → 57 < wr (hrR m 80) → ¬ wr (hrR m 80) = 104 → wr (hrR m 80) = 108 → wr (m 74 26) = 0 → κ (some (zi 0)) (zu m 74 16 ((m 74 16) + 1)))
    (o29 : wr (m 74 17) = (-1) → ¬ wr (hrR m 80) = 45 → wr (m 74 17) = (-1) → ¬ wr (hrR m 80) = 40 → ¬ wr (hrR m 80) < 48 → 57 < wr (hrR m 80) → ¬ wr (hrR m 80) = 104 → ¬ wr (hrR m 80) = 108 → wr (hrR m 80) = 119 → ¬ wr (m 74 26) = 0 → ¬ wr (hrR m 80) = 104 → ¬ wr (hrR m 80) = 108 → ¬ wr (hrR m 80) = 119 → False)
    (o30 : wr (m 74 17) = (-1) → ¬ wr (hrR m 80) = 45 → wr (m 74 17) = (-1) → ¬ wr (hrR m 80) = 40 → ¬ wr (hrR m 80) < 48 → 57 < wr (hrR m 80) → ¬ wr (hrR m 80) = 104 → ¬ wr (hrR m 80) = 108 → wr (hrR m 80) = 119 → ¬ wr (m 74 26) = 0 → ¬ wr (hrR m 80) = 104 → ¬ wr (hrR m 80) = 108 → wr (hrR m 80) = 119 → κ (some (zi (wr (m 74 30)))) (zu m 74 16 ((m 74 16) + 1)))
    (o31 : wr (m 74 17) = (-1) → ¬ wr (hrR m 80) = 45 → wr (m 74 17) = (-1) → ¬ wr (hrR m 80) = 40 → ¬ wr (hrR m 80) < 48 → 57 < wr (hrR m 80) → ¬ wr (hrR m 80) = 104 → ¬ wr (hrR m 80) = 108 → wr (hrR m 80) = 119 → ¬ wr (m 74 26) = 0 → ¬ wr (hrR m 80) = 104 → wr (hrR m 80) = 108 → False)
    (o32 : wr (m 74 17) = (-1) → ¬ wr (hrR m 80) = 45 → wr (m 74 17) = (-1) → ¬ wr (hrR m 80) = 40 → ¬ wr (hrR m 80) < 48 → 57 < wr (hrR m 80) → ¬ wr (hrR m 80) = 104 → ¬ wr (hrR m 80) = 108 → wr (hrR m 80) = 119 → ¬ wr (m 74 26) = 0 → wr (hrR m 80) = 104 → False)
    (o33 : wr (m 74 17) = (-1) → ¬ wr (hrR m 80) = 45 → wr (m 74 17) = (-1) → ¬ wr (hrR m 80) = 40 → ¬ wr (hrR m 80) < 48 → 57 < wr (hrR m 80) → ¬ wr (hrR m 80) = 104 → ¬ wr (hrR m 80) = 108 → wr (hrR m 80) = 119 → wr (m 74 26) = 0 → κ (some (zi 0)) (zu m 74 16 ((m 74 16) + 1)))
    (o34 : wr (m 74 17) = (-1) → ¬ wr (hrR m 80) = 45 → wr (m 74 17) = (-1) → ¬ wr (hrR m 80) = 40 → ¬ wr (hrR m 80) < 48 → 57 < wr (hrR m 80) → ¬ wr (hrR m 80) = 104 → ¬ wr (hrR m 80) = 108 → ¬ wr (hrR m 80) = 119 → wr (hrR m 80) = 112 → ¬ wr (m 74 26) = 0 → ¬ wr (hrR m 80) = 104 → ¬ wr (hrR m 80) = 108 → ¬ wr (hrR m 80) = 119 → ¬ wr (hrR m 80) = 112 → False)
    (o35 : wr (m 74 17) = (-1) → ¬ wr (hrR m 80) = 45 → wr (m 74 17) = (-1) → ¬ wr (hrR m 80) = 40 → ¬ wr (hrR m 80) < 48 → 57 < wr (hrR m 80) → ¬ wr (hrR m 80) = 104 → ¬ wr (hrR m 80) = 108 → ¬ wr (hrR m 80) = 119 → wr (hrR m 80) = 112 → ¬ wr (m 74 26) = 0 → ¬ wr (hrR m 80) = 104 → ¬ wr (hrR m 80) = 108 → ¬ wr (hrR m 80) = 119 → wr (hrR m 80) = 112 → κ (some (zi (wr (m 74 29)))) (zu m 74 16 ((m 74 16) + 1)))
    (o36 : wr (m 74 17) = (-1) → ¬ wr (hrR m 80) = 45 → wr (m 74 17) = (-1) → ¬ wr (hrR m 80) = 40 → ¬ wr (hrR m 80) < 48 → 57 < wr (hrR m 80) → ¬ wr (hrR m 80) = 104 → ¬ wr (hrR m 80) = 108 → ¬ wr (hrR m 80) = 119 → wr (hrR m 80) = 112 → ¬ wr (m 74 26) = 0 → ¬ wr (hrR m 80) = 104 → ¬ wr (hrR m 80) = 108 → wr (hrR m 80) = 119 → False)
    (o37 : wr (m 74 17) = (-1) → ¬ wr (hrR m 80) = 45 → wr (m 74 17) = (-1) → ¬ wr (hrR m 80) = 40 → ¬ wr (hrR m 80) < 48 → 57 < wr (hrR m 80) → ¬ wr (hrR m 80) = 104 → ¬ wr (hrR m 80) = 108 → ¬ wr (hrR m 80) = 119 → wr (hrR m 80) = 112 → ¬ wr (m 74 26) = 0 → ¬ wr (hrR m 80) = 104 → wr (hrR m 80) = 108 → False)
    (o38 : wr (m 74 17) = (-1) → ¬ wr (hrR m 80) = 45 → wr (m 74 17) = (-1) → ¬ wr (hrR m 80) = 40 → ¬ wr (hrR m 80) < 48 → 57 < wr (hrR m 80) → ¬ wr (hrR m 80) = 104 → ¬ wr (hrR m 80) = 108 → ¬ wr (hrR m 80) = 119 → wr (hrR m 80) = 112 → ¬ wr (m 74 26) = 0 → wr (hrR m 80) = 104 → False)
    (o39 : wr (m 74 17) = (-1) → ¬ wr (hrR m 80) = 45 → wr (m 74 17) = (-1) → ¬ wr (hrR m 80) = 40 → ¬ wr (hrR m 80) < 48 → 57 < wr (hrR m 80) → ¬ wr (hrR m 80) = 104 → ¬ wr (hrR m 80) = 108 → ¬ wr (hrR m 80) = 119 → wr (hrR m 80) = 112 → wr (m 74 26) = 0 → κ (some (zi 0)) (zu m 74 16 ((m 74 16) + 1)))
    (o40 : wr (m 74 17) = (-1) → ¬ wr (hrR m 80) = 45 → wr (m 74 17) = (-1) → ¬ wr (hrR m 80) = 40 → ¬ wr (hrR m 80) < 48 → 57 < wr (hrR m 80) → ¬ wr (hrR m 80) = 104 → ¬ wr (hrR m 80) = 108 → ¬ wr (hrR m 80) = 119 → ¬ wr (hrR m 80) = 112 → wr (hrR m 80) = 105 → ¬ wr (m 74 26) = 0 → ¬ wr (hrR m 80) = 104 → ¬ wr (hrR m 80) = 108 → ¬ wr (hrR m 80) = 119 → ¬ wr (hrR m 80) = 112 → κ (some (zi (wr (m 74 27)))) (zu m 74 16 ((m 74 16) + 1)))
    (o41 : wr (m 74 17) = (-1) → ¬ wr (hrR m 80) = 45 → wr (m 74 17) = (-1) → ¬ wr (hrR m 80) = 40 → ¬ wr (hrR m 80) < 48 → 57 < wr (hrR m 80) → ¬ wr (hrR m 80) = 104 → ¬ wr (hrR m 80) = 108 → ¬ wr (hrR m 80) = 119 → ¬ wr (hrR m 80) = 112 → wr (hrR m 80) = 105 → ¬ wr (m 74 26) = 0 → ¬ wr (hrR m 80) = 104 → ¬ wr (hrR m 80) = 108 → ¬ wr (hrR m 80) = 119 → wr (hrR m 80) = 112 → False)
    (o42 : wr (m 74 17) = (-1) → ¬ wr (hrR m 80) = 45 → wr (m 74 17) = (-1) → ¬ wr (hrR m 80) = 40 → ¬ wr (hrR m 80) < 48 → 57 < wr (hrR m 80) → ¬ wr (hrR m 80) = 104 → ¬ wr (hrR m 80) = 108 → ¬ wr (hrR m 80) = 119 → ¬ wr (hrR m 80) = 112 → wr (hrR m 80) = 105 → ¬ wr (m 74 26) = 0 → ¬ wr (hrR m 80) = 104 → ¬ wr (hrR m 80) = 108 → wr (hrR m 80) = 119 → False)
    (o43 : wr (m 74 17) = (-1) → ¬ wr (hrR m 80) = 45 → wr (m 74 17) = (-1) → ¬ wr (hrR m 80) = 40 → ¬ wr (hrR m 80) < 48 → 57 < wr (hrR m 80) → ¬ wr (hrR m 80) = 104 → ¬ wr (hrR m 80) = 108 → ¬ wr (hrR m 80) = 119 → ¬ wr (hrR m 80) = 112 → wr (hrR m 80) = 105 → ¬ wr (m 74 26) = 0 → ¬ wr (hrR m 80) = 104 → wr (hrR m 80) = 108 → False)
    (o44 : wr (m 74 17) = (-1) → ¬ wr (hrR m 80) = 45 → wr (m 74 17) = (-1) → ¬ wr (hrR m 80) = 40 → ¬ wr (hrR m 80) < 48 → 57 < wr (hrR m 80) → ¬ wr (hrR m 80) = 104 → ¬ wr (hrR m 80) = 108 → ¬ wr (hrR m 80) = 119 → ¬ wr (hrR m 80) = 112 → wr (hrR m 80) = 105 → ¬ wr (m 74 26) = 0 → wr (hrR m 80) = 104 → False)
    (o45 : wr (m 74 17) = (-1) → ¬ wr (hrR m 80) = 45 → wr (m 74 17) = (-1) → ¬ wr (hrR m 80) = 40 → ¬ wr (hrR m 80) < 48 → 57 < wr (hrR m 80) → ¬ wr (hrR m 80) = 104 → ¬ wr (hrR m 80) = 108 → ¬ wr (hrR m 80) = 119 → ¬ wr (hrR m 80) = 112 → wr (hrR m 80) = 105 → wr (m 74 26) = 0 → κ (some (zi 0)) (zu m 74 16 ((m 74 16) + 1)))
    (o46 : wr (m 74 17) = (-1) → ¬ wr (hrR m 80) = 45 → wr (m 74 17) = (-1) → ¬ wr (hrR m 80) = 40 → ¬ wr (hrR m 80) < 48 → 57 < wr (hrR m 80) → ¬ wr (hrR m 80) = 104 → ¬ wr (hrR m 80) = 108 → ¬ wr (hrR m 80) = 119 → ¬ wr (hrR m 80) = 112 → ¬ wr (hrR m 80) = 105 → ¬ wr (m 74 17) = (-1) → False)
    (o47 : wr (m 74 17) = (-1) → ¬ wr (hrR m 80) = 45 → wr (m 74 17) = (-1) → ¬ wr (hrR m 80) = 40 → ¬ wr (hrR m 80) < 48 → 57 < wr (hrR m 80) → ¬ wr (hrR m 80) = 104 → ¬ wr (hrR m 80) = 108 → ¬ wr (hrR m 80) = 119 → ¬ wr (hrR m 80) = 112 → ¬ wr (hrR m 80) = 105 → wr (m 74 17) = (-1) → κ (some (zi 0)) (zu m 74 17 (m 74 16)))
    (o48 : wr (m 74 17) = (-1) → ¬ wr (hrR m 80) = 45 → wr (m 74 17) = (-1) → ¬ wr (hrR m 80) = 40 → ¬ wr (hrR m 80) < 48 → ¬ 57 < wr (hrR m 80) → T (D + 4) 211 (83, [(0, zr 74), (3, zi 0), (4, zi 0)], [], m) κ)
    (o49 : wr (m 74 17) = (-1) → ¬ wr (hrR m 80) = 45 → wr (m 74 17) = (-1) → wr (hrR m 80) = 40 → ¬ wr (d : Int) < 4 → wr (hrR m 80) < 48 → wr (hrR m 80) = 104 → False)
    (o50 : wr (m 74 17) = (-1) → ¬ wr (hrR m 80) = 45 → wr (m 74 17) = (-1) → wr (hrR m 80) = 40 → ¬ wr (d : Int) < 4 → wr (hrR m 80) < 48 → ¬ wr (hrR m 80) = 104 → wr (hrR m 80) = 108 → False)
    (o51 : wr (m 74 17) = (-1) → ¬ wr (hrR m 80) = 45 → wr (m 74 17) = (-1) → wr (hrR m 80) = 40 → ¬ wr (d : Int) < 4 → wr (hrR m 80) < 48 → ¬ wr (hrR m 80) = 104 → ¬ wr (hrR m 80) = 108 → wr (hrR m 80) = 119 → False)
    (o52 : wr (m 74 17) = (-1) → ¬ wr (hrR m 80) = 45 → wr (m 74 17) = (-1) → wr (hrR m 80) = 40 → ¬ wr (d : Int) < 4 → wr (hrR m 80) < 48 → ¬ wr (hrR m 80) = 104 → ¬ wr (hrR m 80) = 108 → ¬ wr (hrR m 80) = 119 → wr (hrR m 80) = 112 → False)
    (o53 : wr (m 74 17) = (-1) → ¬ wr (hrR m 80) = 45 → wr (m 74 17) = (-1) → wr (hrR m 80) = 40 → ¬ wr (d : Int) < 4 → wr (hrR m 80) < 48 → ¬ wr (hrR m 80) = 104 → ¬ wr (hrR m 80) = 108 → ¬ wr (hrR m 80) = 119 → ¬ wr (hrR m 80) = 112 → wr (hrR m 80) = 105 → False)
    (o54 : wr (m 74 17) = (-1) → ¬ wr (hrR m 80) = 45 → wr (m 74 17) = (-1) → wr (hrR m 80) = 40 → ¬ wr (d : Int) < 4 → wr (hrR m 80) < 48 → ¬ wr (hrR m 80) = 104 → ¬ wr (hrR m 80) = 108 → ¬ wr (hrR m 80) = 119 → ¬ wr (hrR m 80) = 112 → ¬ wr (hrR m 80) = 105 → ¬ wr (m 74 17) = (-1) → False)
    (o55 : wr (m 74 17) = (-1) → ¬ wr (hrR m 80) = 45 → wr (m 74 17) = (-1) → wr (hrR m 80) = 40 → ¬ wr (d : Int) < 4 → wr (hrR m 80) < 48 → ¬ wr (hrR m 80) = 104 → ¬ wr (hrR m 80) = 108 → ¬ wr (hrR m 80) = 119 → ¬ wr (hrR m 80) = 112 → ¬ wr (hrR m 80) = 105 → wr (m 74 17) = (-1) → κ (some (zi 0)) (zu m 74 17 (m 74 16)))
    (o56 : wr (m 74 17) = (-1) → ¬ wr (hrR m 80) = 45 → wr (m 74 17) = (-1) → wr (hrR m 80) = 40 → ¬ wr (d : Int) < 4 → ¬ wr (hrR m 80) < 48 → False)
    (o57 : wr (m 74 17) = (-1) → ¬ wr (hrR m 80) = 45 → wr (m 74 17) = (-1) → wr (hrR m 80) = 40 → wr (d : Int) < 4 → T (D + 3) 208 (0, [(0, zr 74), (1, zi ((d : Int) + 1))], [], (zu m 74 16 ((m 74 16) + 1))) (fun r m1 => T (D + 4) 211 (58, [(0, zr 74), (1, zi (d : Int)), (2, zi (hrR m 80))], r.toList ++ [], m1) κ)) :
    T (D + 4) 211 (0, [(0, zr 74), (1, zi (d : Int))], [], m) κ :=
  hT.1 [(83, [0, 3, 4])] 6 (D + 4) 211 _ κ (hT.1 [] 6 (D + 3) 201 _ _ (hT.1 [] 6 (D + 2) 199 _ _ (And.intro (fun a1 => (o1 a1).elim) (fun a2 => (hT.1 [] 6 (D + 2) 199 (13, [(0, zr 74)], [zi 1], m) _ (And.intro (z_b01L rfl) (hT.1 [] 6 (D + 3) 201 _ _ (And.intro (fun a3 => (z_litF a3 rfl).elim) (fun _ => (z_here80 hT (o2 (Classical.byContradiction a2)) (o3 (Classical.byContradiction a2)) (o4 (Classical.byContradiction a2)) (o5 (Classical.byContradiction a2)) (hT.1 [] 6 (D + 3) 201 _ _ (And.intro (fun a4 => (hT.1 [] 6 (D + 3) 201 (23, [(0, zr 74), (1, zi 45)], [zi 1, zi (m 74 16), zr 74], m) _ (And.intro trivial (And.intro (z_b01L rfl) (hT.1 [(83, [0, 3, 4])] 6 (D + 4) 211 _ _ (And.intro (fun a6 => (z_litF a6 rfl).elim) (fun _ => (o6 (Classical.byContradiction a2) a4)))))))) (fun a5 => (And.intro (z_b01L rfl) (hT.1 [(83, [0, 3, 4])] 6 (D + 4) 211 _ _ (And.intro (fun _ => (hT.1 [] 6 (D + 3) 199 _ _ (And.intro (fun a8 => (o7 (Classical.byContradiction a2) a5 a8).elim) (fun a9 => (hT.1 [] 6 (D + 3) 199 (13, [(0, zr 74)], [zi 1], m) _ (And.intro (z_b01L rfl) (hT.1 [(83, [0, 3, 4])] 6 (D + 4) 211 _ _ (And.intro (fun _ => (z_here80 hT (o8 (Classical.byContradiction a2) a5 (Classical.byContradiction a9)) (o9 (Classical.byContradiction a2) a5 (Classical.byContradiction a9)) (o10 (Classical.byContradiction a2) a5 (Classical.byContradiction a9)) (o11 (Classical.byContradiction a2) a5 (Classical.byContradiction a9)) (hT.1 [(83, [0, 3, 4])] 6 (D + 4) 211 _ _ (And.intro (fun a11 => (hT.1 [(83, [0, 3, 4])] 6 (D + 4) 211 (70, [(0, zr 74), (1, zi (d : Int)), (2, zi (hrR m 80))], [zi 48, zi (hrR m 80)], m) _ (hT.1 [] 6 (D + 3) 186 _ _ (And.intro (fun a13 => (And.intro (z_b01L rfl) (hT.1 [(83, [0, 3, 4])] 6 (D + 4) 211 _ _ (And.intro (fun _ => (And.intro (fun a16 => (o12 (Classical.byContradiction a2) a5 (Classical.byContradiction a9) a11 a13 a16).elim) (fun a17 => (hT.1 [(83, [0, 3, 4])] 6 (D + 4) 211 (133, [(0, zr 74), (1, zi (d : Int)), (2, zi (hrR m 80))], [zi 108, zi (hrR m 80)], m) _ (And.intro (fun a18 => (o13 (Classical.byContradiction a2) a5 (Classical.byContradiction a9) a11 a13 a17 a18).elim) (fun a19 => (And.intro (fun a20 => (o14 (Classical.byContradiction a2) a5 (Classical.byContradiction a9) a11 a13 a17 a19 a20).elim) (fun a21 => (hT.1 [(83, [0, 3, 4])] 6 (D + 4) 211 (145, [(0, zr 74), (1, zi (d : Int)), (2, zi (hrR m 80))], [zi 112, zi (hrR m 80)], m) _ (And.intro (fun a22 => (o15 (Classical.byContradiction a2) a5 (Classical.byContradiction a9) a11 a13 a17 a19 a21 a22).elim) (fun a23 => (And.intro (fun a24 => (o16 (Classical.byContradiction a2) a5 (Classical.byContradiction a9) a11 a13 a17 a19 a21 a23 a24).elim) (fun a25 => (hT.1 [(83, [0, 3, 4])] 6 (D + 4) 211 (156, [(0, zr 74), (1, zi (d : Int)), (2, zi (hrR m 80))], [zr 74, zr 74], m) _ (hT.1 [] 6 (D + 3) 200 _ _ (hT.1 [] 6 (D + 2) 199 _ _ (And.intro (fun a26 => (o17 (Classical.byContradiction a2) a5 (Classical.byContradiction a9) a11 a13 a17 a19 a21 a23 a25 a26).elim) (fun a27 => (hT.1 [] 6 (D + 2) 199 (13, [(0, zr 74)], [zi 1], m) _ (And.intro (z_b01L rfl) (hT.1 [] 6 (D + 3) 200 _ _ (And.intro (fun a28 => (z_litF a28 rfl).elim) (fun _ => (And.intro trivial (hT.1 [(83, [0, 3, 4])] 6 (D + 4) 211 _ _ (o18 (Classical.byContradiction a2) a5 (Classical.byContradiction a9) a11 a13 a17 a19 a21 a23 a25 (Classical.byContradiction a27))))))))))))))))))))))))))) (fun a15 => (a15 (z_litT rfl)).elim))))) (fun a14 => (And.intro (fun a29 => (hT.1 [] 6 (D + 3) 186 (14, [(0, zi (hrR m 80)), (1, zi 48), (2, zi 57)], [], m) _ (And.intro (z_b01L rfl) (hT.1 [(83, [0, 3, 4])] 6 (D + 4) 211 _ _ (And.intro (fun _ => (And.intro (fun a32 => (hT.1 [(83, [0, 3, 4])] 6 (D + 4) 211 (166, [(0, zr 74), (1, zi (d : Int)), (2, zi (hrR m 80))], [zr 74, zr 74], m) _ (And.intro trivial (hT.1 [(83, [0, 3, 4])] 6 (D + 4) 211 (178, [(0, zr 74), (1, zi (d : Int)), (2, zi (hrR m 80))], [zi (m 74 26)], (zu m 74 16 ((m 74 16) + 1))) _ (And.intro (fun a34 => (And.intro (fun a36 => (o19 (Classical.byContradiction a2) a5 (Classical.byContradiction a9) a11 a14 a29 a32 a34 a36).elim) (fun a37 => (hT.1 [(83, [0, 3, 4])] 6 (D + 4) 211 (193, [(0, zr 74), (1, zi (d : Int)), (2, zi (hrR m 80))], [zi (m 74 28)], (zu m 74 16 ((m 74 16) + 1))) _ (o20 (Classical.byContradiction a2) a5 (Classical.byContradiction a9) a11 a14 a29 a32 a34 (Classical.byContradiction a37)))))) (fun a35 => (o21 (Classical.byContradiction a2) a5 (Classical.byContradiction a9) a11 a14 a29 a32 (Classical.byContradiction a35)))))))) (fun a33 => (hT.1 [(83, [0, 3, 4])] 6 (D + 4) 211 (133, [(0, zr 74), (1, zi (d : Int)), (2, zi (hrR m 80))], [zi 108, zi (hrR m 80)], m) _ (And.intro (fun a38 => (hT.1 [(83, [0, 3, 4])] 6 (D + 4) 211 (171, [(0, zr 74), (1, zi (d : Int)), (2, zi (hrR m 80))], [zi ((m 74 16) + 1), zr 74], m) _ (And.intro trivial (And.intro (fun a40 => (hT.1 [(83, [0, 3, 4])] 6 (D + 4) 211 (186, [(0, zr 74), (1, zi (d : Int)), (2, zi (hrR m 80))], [zi 104, zi (hrR m 80)], (zu m 74 16 ((m 74 16) + 1))) _ (And.intro (fun a42 => (And.intro (fun a44 => (o22 (Classical.byContradiction a2) a5 (Classical.byContradiction a9) a11 a14 a29 a33 a38 a40 a42 a44).elim) (fun a45 => (hT.1 [(83, [0, 3, 4])] 6 (D + 4) 211 (204, [(0, zr 74), (1, zi (d : Int)), (2, zi (hrR m 80))], [zr 74, zr 74], (zu m 74 16 ((m 74 16) + 1))) _ (hT.1 [] 6 (D + 3) 213 _ _ (hT.1 [] 6 (D + 3) 213 (9, [(0, zr 74), (1, zi (m 74 29)), (2, zi (m 74 30))], [zi (m 74 30), zi (26 * (m 74 29)), zr 76], (zu m 74 16 ((m 74 16) + 1))) _ (And.intro (o23 (Classical.byContradiction a2) a5 (Classical.byContradiction a9) a11 a14 a29 a33 a38 a40 a42 (Classical.byContradiction a45)) (And.intro (o24 (Classical.byContradiction a2) a5 (Classical.byContradiction a9) a11 a14 a29 a33 a38 a40 a42 (Classical.byContradiction a45)) (hT.1 [] 6 (D + 3) 213 (17, [(0, zr 74), (1, zi (m 74 29)), (2, zi (m 74 30))], [zi ((26 * (m 74 29)) + (Int.tmod (wr (m 74 30)) (wr (m 77 ((wr (m 74 29)).toNat))))), zr 76], (zu m 74 16 ((m 74 16) + 1))) _ (And.intro (o25 (Classical.byContradiction a2) a5 (Classical.byContradiction a9) a11 a14 a29 a33 a38 a40 a42 (Classical.byContradiction a45)) (hT.1 [(83, [0, 3, 4])] 6 (D + 4) 211 _ _ (o26 (Classical.byContradiction a2) a5 (Classical.byContradiction a9) a11 a14 a29 a33 a38 a40 a42 (Classical.byContradiction a45))))))))))))) (fun a43 => (o27 (Classical.byContradiction a2) a5 (Classical.byContradiction a9) a11 a14 a29 a33 a38 a40 (Classical.byContradiction a43)).elim)))) (fun a41 => (o28 (Classical.byContradiction a2) a5 (Classical.byContradiction a9) a11 a14 a29 a33 a38 (Classical.byContradiction a41))))))) (fun a39 => (And.intro (fun a46 => (hT.1 [(83, [0, 3, 4])] 6 (D + 4) 211 (166, [(0, zr 74), (1, zi (d : Int)), (2, zi (hrR m 80))], [zr 74, zr 74], m) _ (And.intro trivial (hT.1 [(83, [0, 3, 4])] 6 (D + 4) 211 (178, [(0, zr 74), (1, zi (d : Int)), (2, zi (hrR m 80))], [zi (m 74 26)], (zu m 74 16 ((m 74 16) + 1))) _ (And.intro (fun a48 => (And.intro (fun a50 => (hT.1 [(83, [0, 3, 4])] 6 (D + 4) 211 (199, [(0, zr 74), (1, zi (d : Int)), (2, zi (hrR m 80))], [zi 108, zi (hrR m 80)], (zu m 74 16 ((m 74 16) + 1))) _ (And.intro (fun a52 => (And.intro (fun a54 => (o29 (Classical.byContradiction a2) a5 (Classical.byContradiction a9) a11 a14 a29 a33 a39 a46 a48 a50 a52 a54).elim) (fun a55 => (hT.1 [(83, [0, 3, 4])] 6 (D + 4) 211 (227, [(0, zr 74), (1, zi (d : Int)), (2, zi (hrR m 80))], [zi (m 74 30)], (zu m 74 16 ((m 74 16) + 1))) _ (o30 (Classical.byContradiction a2) a5 (Classical.byContradiction a9) a11 a14 a29 a33 a39 a46 a48 a50 a52 (Classical.byContradiction a55)))))) (fun a53 => (o31 (Classical.byContradiction a2) a5 (Classical.byContradiction a9) a11 a14 a29 a33 a39 a46 a48 a50 (Classical.byContradiction a53)).elim)))) (fun a51 => (o32 (Classical.byContradiction a2) a5 (Classical.byContradiction a9) a11 a14 a29 a33 a39 a46 a48 (Classical.byContradiction a51)).elim))) (fun a49 => (o33 (Classical.byContradiction a2) a5 (Classical.byContradiction a9) a11 a14 a29 a33 a39 a46 (Classical.byContradiction a49)))))))) (fun a47 => (hT.1 [(83, [0, 3, 4])] 6 (D + 4) 211 (145, [(0, zr 74), (1, zi (d : Int)), (2, zi (hrR m 80))], [zi 112, zi (hrR m 80)], m) _ (And.intro (fun a56 => (hT.1 [(83, [0, 3, 4])] 6 (D + 4) 211 (171, [(0, zr 74), (1, zi (d : Int)), (2, zi (hrR m 80))], [zi ((m 74 16) + 1), zr 74], m) _ (And.intro trivial (And.intro (fun a58 => (hT.1 [(83, [0, 3, 4])] 6 (D + 4) 211 (186, [(0, zr 74), (1, zi (d : Int)), (2, zi (hrR m 80))], [zi 104, zi (hrR m 80)], (zu m 74 16 ((m 74 16) + 1))) _ (And.intro (fun a60 => (And.intro (fun a62 => (hT.1 [(83, [0, 3, 4])] 6 (D + 4) 211 (220, [(0, zr 74), (1, zi (d : Int)), (2, zi (hrR m 80))], [zi 119, zi (hrR m 80)], (zu m 74 16 ((m 74 16) + 1))) _ (And.intro (fun a64 => (And.intro (fun a66 => (o34 (Classical.byContradiction a2) a5 (Classical.byContradiction a9) a11 a14 a29 a33 a39 a47 a56 a58 a60 a62 a64 a66).elim) (fun a67 => (hT.1 [(83, [0, 3, 4])] 6 (D + 4) 211 (240, [(0, zr 74), (1, zi (d : Int)), (2, zi (hrR m 80))], [zi (m 74 29)], (zu m 74 16 ((m 74 16) + 1))) _ (o35 (Classical.byContradiction a2) a5 (Classical.byContradiction a9) a11 a14 a29 a33 a39 a47 a56 a58 a60 a62 a64 (Classical.byContradiction a67)))))) (fun a65 => (o36 (Classical.byContradiction a2) a5 (Classical.byContradiction a9) a11 a14 a29 a33 a39 a47 a56 a58 a60 a62 (Classical.byContradiction a65)).elim)))) (fun a63 => (o37 (Classical.byContradiction a2) a5 (Classical.byContradiction a9) a11 a14 a29 a33 a39 a47 a56 a58 a60 (Classical.byContradiction a63)).elim))) (fun a61 => (o38 (Classical.byContradiction a2) a5 (Classical.byContradiction a9) a11 a14 a29 a33 a39 a47 a56 a58 (Classical.byContradiction a61)).elim)))) (fun a59 => (o39 (Classical.byContradiction a2) a5 (Classical.byContradiction a9) a11 a14 a29 a33 a39 a47 a56 (Classical.byContradiction a59))))))) (fun a57 => (And.intro (fun a68 => (hT.1 [(83, [0, 3, 4])] 6 (D + 4) 211 (166, [(0, zr 74), (1, zi (d : Int)), (2, zi (hrR m 80))], [zr 74, zr 74], m) _ (And.intro trivial (hT.1 [(83, [0, 3, 4])] 6 (D + 4) 211 (178, [(0, zr 74), (1, zi (d : Int)), (2, zi (hrR m 80))], [zi (m 74 26)], (zu m 74 16 ((m 74 16) + 1))) _ (And.intro (fun a70 => (And.intro (fun a72 => (hT.1 [(83, [0, 3, 4])] 6 (D + 4) 211 (199, [(0, zr 74), (1, zi (d : Int)), (2, zi (hrR m 80))], [zi 108, zi (hrR m 80)], (zu m 74 16 ((m 74 16) + 1))) _ (And.intro (fun a74 => (And.intro (fun a76 => (hT.1 [(83, [0, 3, 4])] 6 (D + 4) 211 (233, [(0, zr 74), (1, zi (d : Int)), (2, zi (hrR m 80))], [zi 112, zi (hrR m 80)], (zu m 74 16 ((m 74 16) + 1))) _ (And.intro (fun a78 => (o40 (Classical.byContradiction a2) a5 (Classical.byContradiction a9) a11 a14 a29 a33 a39 a47 a57 a68 a70 a72 a74 a76 a78)) (fun a79 => (o41 (Classical.byContradiction a2) a5 (Classical.byContradiction a9) a11 a14 a29 a33 a39 a47 a57 a68 a70 a72 a74 a76 (Classical.byContradiction a79)).elim)))) (fun a77 => (o42 (Classical.byContradiction a2) a5 (Classical.byContradiction a9) a11 a14 a29 a33 a39 a47 a57 a68 a70 a72 a74 (Classical.byContradiction a77)).elim))) (fun a75 => (o43 (Classical.byContradiction a2) a5 (Classical.byContradiction a9) a11 a14 a29 a33 a39 a47 a57 a68 a70 a72 (Classical.byContradiction a75)).elim)))) (fun a73 => (o44 (Classical.byContradiction a2) a5 (Classical.byContradiction a9) a11 a14 a29 a33 a39 a47 a57 a68 a70 (Classical.byContradiction a73)).elim))) (fun a71 => (o45 (Classical.byContradiction a2) a5 (Classical.byContradiction a9) a11 a14 a29 a33 a39 a47 a57 a68 (Classical.byContradiction a71)))))))) (fun a69 => (hT.1 [(83, [0, 3, 4])] 6 (D + 4) 211 (156, [(0, zr 74), (1, zi (d : Int)), (2, zi (hrR m 80))], [zr 74, zr 74], m) _ (hT.1 [] 6 (D + 3) 200 _ _ (hT.1 [] 6 (D + 2) 199 _ _ (And.intro (fun a80 => (o46 (Classical.byContradiction a2) a5 (Classical.byContradiction a9) a11 a14 a29 a33 a39 a47 a57 a69 a80).elim) (fun a81 => (hT.1 [] 6 (D + 2) 199 (13, [(0, zr 74)], [zi 1], m) _ (And.intro (z_b01L rfl) (hT.1 [] 6 (D + 3) 200 _ _ (And.intro (fun a82 => (z_litF a82 rfl).elim) (fun _ => (And.intro trivial (hT.1 [(83, [0, 3, 4])] 6 (D + 4) 211 _ _ (o47 (Classical.byContradiction a2) a5 (Classical.byContradiction a9) a11 a14 a29 a33 a39 a47 a57 a69 (Classical.byContradiction a81))))))))))))))))))))))))))) (fun a31 => (a31 (z_litT rfl)).elim)))))) (fun a30 => (hT.1 [] 6 (D + 3) 186 (10, [(0, zi (hrR m 80)), (1, zi 48), (2, zi 57)], [], m) _ (And.intro (z_b01L rfl) (hT.1 [(83, [0, 3, 4])] 6 (D + 4) 211 _ _ (And.intro (fun a83 => (z_litF a83 rfl).elim) (fun _ => (o48 (Classical.byContradiction a2) a5 (Classical.byContradiction a9) a11 a14 a30))))))))))))) (fun a12 => (hT.1 [(83, [0, 3, 4])] 6 (D + 4) 211 (38, [(0, zr 74), (1, zi (d : Int)), (2, zi (hrR m 80))], [zi 4, zi (d : Int)], m) _ (And.intro (fun a84 => (hT.1 [] 6 (D + 3) 186 _ _ (And.intro (fun a86 => (And.intro (z_b01L rfl) (hT.1 [(83, [0, 3, 4])] 6 (D + 4) 211 _ _ (And.intro (fun _ => (And.intro (fun a89 => (o49 (Classical.byContradiction a2) a5 (Classical.byContradiction a9) (Classical.byContradiction a12) a84 a86 a89).elim) (fun a90 => (hT.1 [(83, [0, 3, 4])] 6 (D + 4) 211 (133, [(0, zr 74), (1, zi (d : Int)), (2, zi (hrR m 80))], [zi 108, zi (hrR m 80)], m) _ (And.intro (fun a91 => (o50 (Classical.byContradiction a2) a5 (Classical.byContradiction a9) (Classical.byContradiction a12) a84 a86 a90 a91).elim) (fun a92 => (And.intro (fun a93 => (o51 (Classical.byContradiction a2) a5 (Classical.byContradiction a9) (Classical.byContradiction a12) a84 a86 a90 a92 a93).elim) (fun a94 => (hT.1 [(83, [0, 3, 4])] 6 (D + 4) 211 (145, [(0, zr 74), (1, zi (d : Int)), (2, zi (hrR m 80))], [zi 112, zi (hrR m 80)], m) _ (And.intro (fun a95 => (o52 (Classical.byContradiction a2) a5 (Classical.byContradiction a9) (Classical.byContradiction a12) a84 a86 a90 a92 a94 a95).elim) (fun a96 => (And.intro (fun a97 => (o53 (Classical.byContradiction a2) a5 (Classical.byContradiction a9) (Classical.byContradiction a12) a84 a86 a90 a92 a94 a96 a97).elim) (fun a98 => (hT.1 [(83, [0, 3, 4])] 6 (D + 4) 211 (156, [(0, zr 74), (1, zi (d : Int)), (2, zi (hrR m 80))], [zr 74, zr 74], m) _ (hT.1 [] 6 (D + 3) 200 _ _ (hT.1 [] 6 (D + 2) 199 _ _ (And.intro (fun a99 => (o54 (Classical.byContradiction a2) a5 (Classical.byContradiction a9) (Classical.byContradiction a12) a84 a86 a90 a92 a94 a96 a98 a99).elim) (fun a100 => (hT.1 [] 6 (D + 2) 199 (13, [(0, zr 74)], [zi 1], m) _ (And.intro (z_b01L rfl) (hT.1 [] 6 (D + 3) 200 _ _ (And.intro (fun a101 => (z_litF a101 rfl).elim) (fun _ => (And.intro trivial (hT.1 [(83, [0, 3, 4])] 6 (D + 4) 211 _ _ (o55 (Classical.byContradiction a2) a5 (Classical.byContradiction a9) (Classical.byContradiction a12) a84 a86 a90 a92 a94 a96 a98 (Classical.byContradiction a100))))))))))))))))))))))))))) (fun a88 => (a88 (z_litT rfl)).elim))))) (fun a87 => (o56 (Classical.byContradiction a2) a5 (Classical.byContradiction a9) (Classical.byContradiction a12) a84 a87).elim)))) (fun a85 => (hT.1 [(83, [0, 3, 4])] 6 (D + 4) 211 (48, [(0, zr 74), (1, zi (d : Int)), (2, zi (hrR m 80))], [zi ((m 74 16) + 1), zr 74], m) _ (And.intro trivial (o57 (Classical.byContradiction a2) a5 (Classical.byContradiction a9) (Classical.byContradiction a12) (Classical.byContradiction a85)))))))))))) (fun a10 => (a10 (z_litT rfl)).elim))))))))) (fun a7 => (a7 (z_litT rfl)).elim)))))))))))))))))
theorem zb211_0_80 (hT : zRules T) {D : Nat} {κ : Option zA → zM → Prop} {m : zM} {d : Nat}  (hB : zB m) (hrd : m 74 13 = 80) (h_d : d ≤ 4) (hf0 : (-1) ≤ m 74 17 ∧ m 74 17 ≤ (-1)) (hf1 : 0 ≤ m 74 16 ∧ m 74 16 ≤ 90) (hf2 : 0 ≤ m 74 15 ∧ m 74 15 ≤ 80) 
    (k1 : (hrR m 80) = 45 → zB (zu m 74 16 ((m 74 16) + 1)) → T (D + 3) 211 (0, [(0, zr 74), (1, zi (d : Int))], [], (zu m 74 16 ((m 74 16) + 1))) (fun r m1 => T (D + 4) 211 (14, [(0, zr 74), (1, zi (d : Int))], r.toList ++ [], m1) κ))
    (k2 : ¬ (hrR m 80) = 45 → ¬ (hrR m 80) = 40 → (hrR m 80) < 48 → zB (zu m 74 17 (m 74 16)) → κ (some (zi 0)) (zu m 74 17 (m 74 16)))
    (k3 : ¬ (hrR m 80) = 45 → ¬ (hrR m 80) = 40 → ¬ (hrR m 80) < 48 → 57 < (hrR m 80) → (hrR m 80) = 104 → ¬ (m 74 26) = 0 → zB (zu m 74 16 ((m 74 16) + 1)) → κ (some (zi (wr (m 74 28)))) (zu m 74 16 ((m 74 16) + 1)))
    (k4 : ¬ (hrR m 80) = 45 → ¬ (hrR m 80) = 40 → ¬ (hrR m 80) < 48 → 57 < (hrR m 80) → (hrR m 80) = 104 → (m 74 26) = 0 → zB (zu m 74 16 ((m 74 16) + 1)) → κ (some (zi 0)) (zu m 74 16 ((m 74 16) + 1)))
    (k5 : ¬ (hrR m 80) = 45 → ¬ (hrR m 80) = 40 → ¬ (hrR m 80) < 48 → 57 < (hrR m 80) → ¬ (hrR m 80) = 104 → (hrR m 80) = 108 → ¬ (m 74 26) = 0 → (0 ≤ wr (m 74 29) ∧ wr (m 74 29) < 4))
    (k6 : ¬ (hrR m 80) = 45 → ¬ (hrR m 80) = 40 → ¬ (hrR m 80) < 48 → 57 < (hrR m 80) → ¬ (hrR m 80) = 104 → (hrR m 80) = 108 → ¬ (m 74 26) = 0 → ¬ (m 77 ((wr (m 74 29)).toNat)) = 0)
    (k7 : ¬ (hrR m 80) = 45 → ¬ (hrR m 80) = 40 → ¬ (hrR m 80) < 48 → 57 < (hrR m 80) → ¬ (hrR m 80) = 104 → (hrR m 80) = 108 → ¬ (m 74 26) = 0 → (0 ≤ wr ((26 * (m 74 29)) + (Int.tmod (wr (m 74 30)) (m 77 ((wr (m 74 29)).toNat)))) ∧ wr ((26 * (m 74 29)) + (Int.tmod (wr (m 74 30)) (m 77 ((wr (m 74 29)).toNat)))) < 104))
    (k8 : ¬ (hrR m 80) = 45 → ¬ (hrR m 80) = 40 → ¬ (hrR m 80) < 48 → 57 < (hrR m 80) → ¬ (hrR m 80) = 104 → (hrR m 80) = 108 → ¬ (m 74 26) = 0 → zB (zu m 74 16 ((m 74 16) + 1)) → κ (some (zi (m 76 ((wr ((26 * (m 74 29)) + (Int.tmod (wr (m 74 30)) (m 77 ((wr (m 74 29)).toNat))))).toNat)))) (zu m 74 16 ((m 74 16) + 1)))
    (k9 : ¬ (hrR m 80) = 45 → ¬ (hrR m 80) = 40 → ¬ (hrR m 80) < 48 → 57 < (hrR m 80) → ¬ (hrR m 80) = 104 → (hrR m 80) = 108 → (m 74 26) = 0 → zB (zu m 74 16 ((m 74 16) + 1)) → κ (some (zi 0)) (zu m 74 16 ((m 74 16) + 1)))
    (k10 : ¬ (hrR m 80) = 45 → ¬ (hrR m 80) = 40 → ¬ (hrR m 80) < 48 → 57 < (hrR m 80) → ¬ (hrR m 80) = 104 → ¬ (hrR m 80) = 108 → (hrR m 80) = 119 → ¬ (m 74 26) = 0 → zB (zu m 74 16 ((m 74 16) + 1)) → κ (some (zi (wr (m 74 30)))) (zu m 74 16 ((m 74 16) + 1)))
    (k11 : ¬ (hrR m 80) = 45 → ¬ (hrR m 80) = 40 → ¬ (hrR m 80) < 48 → 57 < (hrR m 80) → ¬ (hrR m 80) = 104 → ¬ (hrR m 80) = 108 → (hrR m 80) = 119 → (m 74 26) = 0 → zB (zu m 74 16 ((m 74 16) + 1)) → κ (some (zi 0)) (zu m 74 16 ((m 74 16) + 1)))
    (k12 : ¬ (hrR m 80) = 45 → ¬ (hrR m 80) = 40 → ¬ (hrR m 80) < 48 → 57 < (hrR m 80) → ¬ (hrR m 80) = 104 → ¬ (hrR m 80) = 108 → ¬ (hrR m 80) = 119 → (hrR m 80) = 112 → ¬ (m 74 26) = 0 → zB (zu m 74 16 ((m 74 16) + 1)) → κ (some (zi (wr (m 74 29)))) (zu m 74 16 ((m 74 16) + 1)))
    (k13 : ¬ (hrR m 80) = 45 → ¬ (hrR m 80) = 40 → ¬ (hrR m 80) < 48 → 57 < (hrR m 80) → ¬ (hrR m 80) = 104 → ¬ (hrR m 80) = 108 → ¬ (hrR m 80) = 119 → (hrR m 80) = 112 → (m 74 26) = 0 → zB (zu m 74 16 ((m 74 16) + 1)) → κ (some (zi 0)) (zu m 74 16 ((m 74 16) + 1)))
    (k14 : ¬ (hrR m 80) = 45 → ¬ (hrR m 80) = 40 → ¬ (hrR m 80) < 48 → 57 < (hrR m 80) → ¬ (hrR m 80) = 104 → ¬ (hrR m 80) = 108 → ¬ (hrR m 80) = 119 → ¬ (hrR m 80) = 112 → (hrR m 80) = 105 → ¬ (m 74 26) = 0 → zB (zu m 74 16 ((m 74 16) + 1)) → κ (some (zi (wr (m 74 27)))) (zu m 74 16 ((m 74 16) + 1)))
    (k15 : ¬ (hrR m 80) = 45 → ¬ (hrR m 80) = 40 → ¬ (hrR m 80) < 48 → 57 < (hrR m 80) → ¬ (hrR m 80) = 104 → ¬ (hrR m 80) = 108 → ¬ (hrR m 80) = 119 → ¬ (hrR m 80) = 112 → (hrR m 80) = 105 → (m 74 26) = 0 → zB (zu m 74 16 ((m 74 16) + 1)) → κ (some (zi 0)) (zu m 74 16 ((m 74 16) + 1)))
    (k16 : ¬ (hrR m 80) = 45 → ¬ (hrR m 80) = 40 → ¬ (hrR m 80) < 48 → 57 < (hrR m 80) → ¬ (hrR m 80) = 104 → ¬ (hrR m 80) = 108 → ¬ (hrR m 80) = 119 → ¬ (hrR m 80) = 112 → ¬ (hrR m 80) = 105 → zB (zu m 74 17 (m 74 16)) → κ (some (zi 0)) (zu m 74 17 (m 74 16)))
    (k17 : ¬ (hrR m 80) = 45 → ¬ (hrR m 80) = 40 → ¬ (hrR m 80) < 48 → ¬ 57 < (hrR m 80) → T (D + 4) 211 (83, [(0, zr 74), (3, zi 0), (4, zi 0)], [], m) κ)
    (k18 : ¬ (hrR m 80) = 45 → (hrR m 80) = 40 → ¬ (d : Int) < 4 → zB (zu m 74 17 (m 74 16)) → κ (some (zi 0)) (zu m 74 17 (m 74 16)))
    (k19 : ¬ (hrR m 80) = 45 → (hrR m 80) = 40 → (d : Int) < 4 → zB (zu m 74 16 ((m 74 16) + 1)) → T (D + 3) 208 (0, [(0, zr 74), (1, zi ((d : Int) + 1))], [], (zu m 74 16 ((m 74 16) + 1))) (fun r m1 => T (D + 4) 211 (58, [(0, zr 74), (1, zi (d : Int)), (2, zi (hrR m 80))], r.toList ++ [], m1) κ)) :
    T (D + 4) 211 (0, [(0, zr 74), (1, zi (d : Int))], [], m) κ := by
  have hb4 : 0 ≤ (m 74 14) ∧ (m 74 14) ≤ 80 := hB 74 14
  have hb5 : (-1) ≤ (hrR m 80) ∧ (hrR m 80) ≤ 255 := hrRB m 80
  have hb6 : 0 ≤ (m 74 26) ∧ (m 74 26) ≤ 1 := hB 74 26
  have hb7 : (-2147483648) ≤ wr (m 74 28) ∧ wr (m 74 28) ≤ 2147483647 := wrB (m 74 28)
  have hb8 : (-2147483648) ≤ wr (m 74 29) ∧ wr (m 74 29) ≤ 2147483647 := wrB (m 74 29)
  have hb9 : 0 ≤ (m 77 ((wr (m 74 29)).toNat)) ∧ (m 77 ((wr (m 74 29)).toNat)) ≤ 26 := hB 77 ((wr (m 74 29)).toNat)
  have hb10 : (-2147483648) ≤ wr (m 74 30) ∧ wr (m 74 30) ≤ 2147483647 := wrB (m 74 30)
  have hb11 : (-2147483648) ≤ wr ((26 * (m 74 29)) + (Int.tmod (wr (m 74 30)) (m 77 ((wr (m 74 29)).toNat)))) ∧ wr ((26 * (m 74 29)) + (Int.tmod (wr (m 74 30)) (m 77 ((wr (m 74 29)).toNat)))) ≤ 2147483647 := wrB ((26 * (m 74 29)) + (Int.tmod (wr (m 74 30)) (m 77 ((wr (m 74 29)).toNat))))
  have hb12 : 0 ≤ (m 76 ((wr ((26 * (m 74 29)) + (Int.tmod (wr (m 74 30)) (m 77 ((wr (m 74 29)).toNat))))).toNat)) ∧ (m 76 ((wr ((26 * (m 74 29)) + (Int.tmod (wr (m 74 30)) (m 77 ((wr (m 74 29)).toNat))))).toNat)) ≤ 9 := hB 76 ((wr ((26 * (m 74 29)) + (Int.tmod (wr (m 74 30)) (m 77 ((wr (m 74 29)).toNat))))).toNat)
  have hb13 : (-2147483648) ≤ wr (m 74 27) ∧ wr (m 74 27) ≤ 2147483647 := wrB (m 74 27)
  have he0 : wr (m 74 17) = (m 74 17) := wr_id (by omega) (by omega)
  have he1 : wr (hrR m 80) = (hrR m 80) := wr_id (by omega) (by omega)
  have he2 : wr (d : Int) = (d : Int) := wr_id (by omega) (by omega)
  have he3 : wr (m 74 26) = (m 74 26) := wr_id (by omega) (by omega)
  have he4 : wr (m 77 ((wr (m 74 29)).toNat)) = (m 77 ((wr (m 74 29)).toNat)) := wr_id (by omega) (by omega)
  have he5 : wr (m 76 ((wr ((26 * (m 74 29)) + (Int.tmod (wr (m 74 30)) (m 77 ((wr (m 74 29)).toNat))))).toNat)) = (m 76 ((wr ((26 * (m 74 29)) + (Int.tmod (wr (m 74 30)) (m 77 ((wr (m 74 29)).toNat))))).toNat)) := wr_id (by omega) (by omega)
  have key := @zb211_0_80r T hT D κ m d
  simp only [he0, he1, he2, he3, he4, he5, Int.toNat_natCast] at key
  exact key
    (fun x0 => by omega)
    (fun x0 => hrd)
    (fun x0 => by refine ⟨?_, ?_⟩ <;> omega)
    (fun x0 => by refine ⟨?_, ?_⟩ <;> omega)
    (fun x0 => by refine ⟨?_, ?_⟩ <;> omega)
    (fun x0 x1 => k1 x1 (zB_u hB (show 0 ≤ ((m 74 16) + 1) ∧ ((m 74 16) + 1) ≤ 100 from ⟨by omega, by omega⟩)))
    (fun x0 x1 x2 => by omega)
    (fun x0 x1 x2 => hrd)
    (fun x0 x1 x2 => by refine ⟨?_, ?_⟩ <;> omega)
    (fun x0 x1 x2 => by refine ⟨?_, ?_⟩ <;> omega)
    (fun x0 x1 x2 => by refine ⟨?_, ?_⟩ <;> omega)
    (fun x0 x1 x2 x3 x4 x5 => by omega)
    (fun x0 x1 x2 x3 x4 x5 x6 => by omega)
    (fun x0 x1 x2 x3 x4 x5 x6 x7 => by omega)
    (fun x0 x1 x2 x3 x4 x5 x6 x7 x8 => by omega)
    (fun x0 x1 x2 x3 x4 x5 x6 x7 x8 x9 => by omega)
    (fun x0 x1 x2 x3 x4 x5 x6 x7 x8 x9 x10 => by omega)
    (fun x0 x1 x2 x3 x4 x5 x6 x7 x8 x9 x10 => k2 x1 x3 x4 (zB_u hB trivial))
    (fun x0 x1 x2 x3 x4 x5 x6 x7 x8 => by omega)
    (fun x0 x1 x2 x3 x4 x5 x6 x7 x8 => k3 x1 x3 x4 x5 x6 x7 (zB_u hB (show 0 ≤ ((m 74 16) + 1) ∧ ((m 74 16) + 1) ≤ 100 from ⟨by omega, by omega⟩)))
    (fun x0 x1 x2 x3 x4 x5 x6 x7 => k4 x1 x3 x4 x5 x6 x7 (zB_u hB (show 0 ≤ ((m 74 16) + 1) ∧ ((m 74 16) + 1) ≤ 100 from ⟨by omega, by omega⟩)))
    (fun x0 x1 x2 x3 x4 x5 x6 x7 x8 x9 x10 => by omega)
    (fun x0 x1 x2 x3 x4 x5 x6 x7 x8 x9 x10 => k5 x1 x3 x4 x5 x6 x7 x8)
    (fun x0 x1 x2 x3 x4 x5 x6 x7 x8 x9 x10 => k6 x1 x3 x4 x5 x6 x7 x8)
    (fun x0 x1 x2 x3 x4 x5 x6 x7 x8 x9 x10 => k7 x1 x3 x4 x5 x6 x7 x8)
    (fun x0 x1 x2 x3 x4 x5 x6 x7 x8 x9 x10 => k8 x1 x3 x4 x5 x6 x7 x8 (zB_u hB (show 0 ≤ ((m 74 16) + 1) ∧ ((m 74 16) + 1) ≤ 100 from ⟨by omega, by omega⟩)))
    (fun x0 x1 x2 x3 x4 x5 x6 x7 x8 x9 => by omega)
    (fun x0 x1 x2 x3 x4 x5 x6 x7 x8 => k9 x1 x3 x4 x5 x6 x7 x8 (zB_u hB (show 0 ≤ ((m 74 16) + 1) ∧ ((m 74 16) + 1) ≤ 100 from ⟨by omega, by omega⟩)))
    (fun x0 x1 x2 x3 x4 x5 x6 x7 x8 x9 x10 x11 x12 => by omega)
    (fun x0 x1 x2 x3 x4 x5 x6 x7 x8 x9 x10 x11 x12 => k10 x1 x3 x4 x5 x6 x7 x8 x9 (zB_u hB (show 0 ≤ ((m 74 16) + 1) ∧ ((m 74 16) + 1) ≤ 100 from ⟨by omega, by omega⟩)))
    (fun x0 x1 x2 x3 x4 x5 x6 x7 x8 x9 x10 x11 => by omega)
    (fun x0 x1 x2 x3 x4 x5 x6 x7 x8 x9 x10 => by omega)
    (fun x0 x1 x2 x3 x4 x5 x6 x7 x8 x9 => k11 x1 x3 x4 x5 x6 x7 x8 x9 (zB_u hB (show 0 ≤ ((m 74 16) + 1) ∧ ((m 74 16) + 1) ≤ 100 from ⟨by omega, by omega⟩)))
    (fun x0 x1 x2 x3 x4 x5 x6 x7 x8 x9 x10 x11 x12 x13 x14 => by omega)
    (fun x0 x1 x2 x3 x4 x5 x6 x7 x8 x9 x10 x11 x12 x13 x14 => k12 x1 x3 x4 x5 x6 x7 x8 x9 x10 (zB_u hB (show 0 ≤ ((m 74 16) + 1) ∧ ((m 74 16) + 1) ≤ 100 from ⟨by omega, by omega⟩)))
    (fun x0 x1 x2 x3 x4 x5 x6 x7 x8 x9 x10 x11 x12 x13 => by omega)
    (fun x0 x1 x2 x3 x4 x5 x6 x7 x8 x9 x10 x11 x12 => by omega)
    (fun x0 x1 x2 x3 x4 x5 x6 x7 x8 x9 x10 x11 => by omega)
    (fun x0 x1 x2 x3 x4 x5 x6 x7 x8 x9 x10 => k13 x1 x3 x4 x5 x6 x7 x8 x9 x10 (zB_u hB (show 0 ≤ ((m 74 16) + 1) ∧ ((m 74 16) + 1) ≤ 100 from ⟨by omega, by omega⟩)))
    (fun x0 x1 x2 x3 x4 x5 x6 x7 x8 x9 x10 x11 x12 x13 x14 x15 => k14 x1 x3 x4 x5 x6 x7 x8 x9 x10 x11 (zB_u hB (show 0 ≤ ((m 74 16) + 1) ∧ ((m 74 16) + 1) ≤ 100 from ⟨by omega, by omega⟩)))
    (fun x0 x1 x2 x3 x4 x5 x6 x7 x8 x9 x10 x11 x12 x13 x14 x15 => by omega)
    (fun x0 x1 x2 x3 x4 x5 x6 x7 x8 x9 x10 x11 x12 x13 x14 => by omega)
    (fun x0 x1 x2 x3 x4 x5 x6 x7 x8 x9 x10 x11 x12 x13 => by omega)
    (fun x0 x1 x2 x3 x4 x5 x6 x7 x8 x9 x10 x11 x12 => by omega)
    (fun x0 x1 x2 x3 x4 x5 x6 x7 x8 x9 x10 x11 => k15 x1 x3 x4 x5 x6 x7 x8 x9 x10 x11 (zB_u hB (show 0 ≤ ((m 74 16) + 1) ∧ ((m 74 16) + 1) ≤ 100 from ⟨by omega, by omega⟩)))
    (fun x0 x1 x2 x3 x4 x5 x6 x7 x8 x9 x10 x11 => by omega)
    (fun x0 x1 x2 x3 x4 x5 x6 x7 x8 x9 x10 x11 => k16 x1 x3 x4 x5 x6 x7 x8 x9 x10 (zB_u hB trivial))
    (fun x0 x1 x2 x3 x4 x5 => k17 x1 x3 x4 x5)
    (fun x0 x1 x2 x3 x4 x5 x6 => by omega)
    (fun x0 x1 x2 x3 x4 x5 x6 x7 => by omega)
    (fun x0 x1 x2 x3 x4 x5 x6 x7 x8 => by omega)
    (fun x0 x1 x2 x3 x4 x5 x6 x7 x8 x9 => by omega)
    (fun x0 x1 x2 x3 x4 x5 x6 x7 x8 x9 x10 => by omega)
    (fun x0 x1 x2 x3 x4 x5 x6 x7 x8 x9 x10 x11 => by omega)
    (fun x0 x1 x2 x3 x4 x5 x6 x7 x8 x9 x10 x11 => k18 x1 x3 x4 (zB_u hB trivial))
    (fun x0 x1 x2 x3 x4 x5 => by omega)
    (fun x0 x1 x2 x3 x4 => k19 x1 x3 x4 (zB_u hB (show 0 ≤ ((m 74 16) + 1) ∧ ((m 74 16) + 1) ≤ 100 from ⟨by omega, by omega⟩)))
theorem zb211_14_80r (hT : zRules T) {D : Nat} {κ : Option zA → zM → Prop} {m : zM} {v : Int} {lo : zL} (hlo : z_keep [] lo = []) 
    (o1 : κ (some (zi (wr (-v)))) m) :
    T (D + 4) 211 (14, lo, [zi v], m) κ :=
  zkeep hT hlo (hT.1 [(83, [0, 3, 4])] 6 (D + 4) 211 _ κ (o1))
theorem zb211_14_80 (hT : zRules T) {D : Nat} {κ : Option zA → zM → Prop} {m : zM} {v : Int} {lo : zL} (hlo : z_keep [] lo = [])  
    (k1 : κ (some (zi (wr (-v)))) m) :
    T (D + 4) 211 (14, lo, [zi v], m) κ := by
  have hb0 : (-2147483648) ≤ wr (-v) ∧ wr (-v) ≤ 2147483647 := wrB (-v)
  exact zb211_14_80r hT hlo
    k1
theorem zb211_58_80r (hT : zRules T) {D : Nat} {κ : Option zA → zM → Prop} {m : zM} {v : Int} {lo : zL} (hlo : z_keep [0] lo = [(0, zr 74)]) 
    (o1 : ¬ wr (m 74 17) = (-1) → False)
    (o2 : wr (m 74 17) = (-1) → (m 74 13) = 80)
    (o3 : wr (m 74 17) = (-1) → (0 ≤ (m 74 16) ∧ (m 74 16) ≤ 1000))
    (o4 : wr (m 74 17) = (-1) → (0 ≤ (m 74 14) ∧ (m 74 14) ≤ 80))
    (o5 : wr (m 74 17) = (-1) → (0 ≤ (m 74 15) ∧ (m 74 15) ≤ 80))
    (o6 : wr (m 74 17) = (-1) → wr (hrR m 80) = 41 → κ (some (zi (wr v))) (zu m 74 16 ((m 74 16) + 1)))
    (o7 : wr (m 74 17) = (-1) → ¬ wr (hrR m 80) = 41 → ¬ wr (m 74 17) = (-1) → False)
    (o8 : wr (m 74 17) = (-1) → ¬ wr (hrR m 80) = 41 → wr (m 74 17) = (-1) → κ (some (zi (wr v))) (zu m 74 17 (m 74 16))) :
    T (D + 4) 211 (58, lo, [zi v], m) κ :=
  zkeep hT hlo (hT.1 [(83, [0, 3, 4])] 6 (D + 4) 211 _ κ (hT.1 [] 6 (D + 3) 202 _ _ (hT.1 [] 6 (D + 2) 201 _ _ (hT.1 [] 6 (D + 1) 199 _ _ (And.intro (fun a1 => (o1 a1).elim) (fun a2 => (hT.1 [] 6 (D + 1) 199 (13, [(0, zr 74)], [zi 1], m) _ (And.intro (z_b01L rfl) (hT.1 [] 6 (D + 2) 201 _ _ (And.intro (fun a3 => (z_litF a3 rfl).elim) (fun _ => (z_here80 hT (o2 (Classical.byContradiction a2)) (o3 (Classical.byContradiction a2)) (o4 (Classical.byContradiction a2)) (o5 (Classical.byContradiction a2)) (hT.1 [] 6 (D + 2) 201 _ _ (And.intro (fun a4 => (hT.1 [] 6 (D + 2) 201 (23, [(0, zr 74), (1, zi 41)], [zi 1, zi (m 74 16), zr 74], m) _ (And.intro trivial (And.intro (z_b01L rfl) (hT.1 [] 6 (D + 3) 202 _ _ (And.intro (fun _ => (hT.1 [(83, [0, 3, 4])] 6 (D + 4) 211 _ _ (o6 (Classical.byContradiction a2) a4))) (fun a6 => (a6 (z_litT rfl)).elim))))))) (fun a5 => (And.intro (z_b01L rfl) (hT.1 [] 6 (D + 3) 202 _ _ (And.intro (fun a7 => (z_litF a7 rfl).elim) (fun _ => (hT.1 [] 6 (D + 2) 200 _ _ (hT.1 [] 6 (D + 1) 199 _ _ (And.intro (fun a8 => (o7 (Classical.byContradiction a2) a5 a8).elim) (fun a9 => (hT.1 [] 6 (D + 1) 199 (13, [(0, zr 74)], [zi 1], m) _ (And.intro (z_b01L rfl) (hT.1 [] 6 (D + 2) 200 _ _ (And.intro (fun a10 => (z_litF a10 rfl).elim) (fun _ => (And.intro trivial (hT.1 [] 6 (D + 3) 202 _ _ (hT.1 [(83, [0, 3, 4])] 6 (D + 4) 211 _ _ (o8 (Classical.byContradiction a2) a5 (Classical.byContradiction a9)))))))))))))))))))))))))))))))))
theorem zb211_58_80 (hT : zRules T) {D : Nat} {κ : Option zA → zM → Prop} {m : zM} {v : Int} {lo : zL} (hlo : z_keep [0] lo = [(0, zr 74)])  (hB : zB m) (hrd : m 74 13 = 80) (hf0 : (-1) ≤ m 74 17 ∧ m 74 17 ≤ (-1)) (hf1 : 0 ≤ m 74 16 ∧ m 74 16 ≤ 90) (hf2 : 0 ≤ m 74 15 ∧ m 74 15 ≤ 80) 
    (k1 : (hrR m 80) = 41 → zB (zu m 74 16 ((m 74 16) + 1)) → κ (some (zi (wr v))) (zu m 74 16 ((m 74 16) + 1)))
    (k2 : ¬ (hrR m 80) = 41 → zB (zu m 74 17 (m 74 16)) → κ (some (zi (wr v))) (zu m 74 17 (m 74 16))) :
    T (D + 4) 211 (58, lo, [zi v], m) κ := by
  have hb3 : 0 ≤ (m 74 14) ∧ (m 74 14) ≤ 80 := hB 74 14
  have hb4 : (-1) ≤ (hrR m 80) ∧ (hrR m 80) ≤ 255 := hrRB m 80
  have hb5 : (-2147483648) ≤ wr v ∧ wr v ≤ 2147483647 := wrB v
  have he0 : wr (m 74 17) = (m 74 17) := wr_id (by omega) (by omega)
  have he1 : wr (hrR m 80) = (hrR m 80) := wr_id (by omega) (by omega)
  have key := @zb211_58_80r T hT D κ m v lo hlo
  simp only [he0, he1, Int.toNat_natCast] at key
  exact key
    (fun x0 => by omega)
    (fun x0 => hrd)
    (fun x0 => by refine ⟨?_, ?_⟩ <;> omega)
    (fun x0 => by refine ⟨?_, ?_⟩ <;> omega)
    (fun x0 => by refine ⟨?_, ?_⟩ <;> omega)
    (fun x0 x1 => k1 x1 (zB_u hB (show 0 ≤ ((m 74 16) + 1) ∧ ((m 74 16) + 1) ≤ 100 from ⟨by omega, by omega⟩)))
    (fun x0 x1 x2 => by omega)
    (fun x0 x1 x2 => k2 x1 (zB_u hB trivial))
theorem zb211_58_80fr (hT : zRules T) {D : Nat} {κ : Option zA → zM → Prop} {m : zM} {v : Int} {lo : zL} (hlo : z_keep [0] lo = [(0, zr 74)]) 
    (o1 : ¬ wr (m 74 17) = (-1) → ¬ wr (m 74 17) = (-1) → κ (some (zi (wr v))) m)
    (o2 : ¬ wr (m 74 17) = (-1) → wr (m 74 17) = (-1) → False)
    (o3 : wr (m 74 17) = (-1) → False) :
    T (D + 4) 211 (58, lo, [zi v], m) κ :=
  zkeep hT hlo (hT.1 [(83, [0, 3, 4])] 6 (D + 4) 211 _ κ (hT.1 [] 6 (D + 3) 202 _ _ (hT.1 [] 6 (D + 2) 201 _ _ (hT.1 [] 6 (D + 1) 199 _ _ (And.intro (fun a1 => (And.intro (z_b01L rfl) (hT.1 [] 6 (D + 2) 201 _ _ (And.intro (fun _ => (And.intro (z_b01L rfl) (hT.1 [] 6 (D + 3) 202 _ _ (And.intro (fun a4 => (z_litF a4 rfl).elim) (fun _ => (hT.1 [] 6 (D + 2) 200 _ _ (hT.1 [] 6 (D + 1) 199 _ _ (And.intro (fun a5 => (And.intro (z_b01L rfl) (hT.1 [] 6 (D + 2) 200 _ _ (And.intro (fun _ => (hT.1 [] 6 (D + 3) 202 _ _ (hT.1 [(83, [0, 3, 4])] 6 (D + 4) 211 _ _ (o1 a1 a5)))) (fun a7 => (a7 (z_litT rfl)).elim))))) (fun a6 => (o2 a1 (Classical.byContradiction a6)).elim))))))))) (fun a3 => (a3 (z_litT rfl)).elim))))) (fun a2 => (o3 (Classical.byContradiction a2)).elim))))))
theorem zb211_58_80f (hT : zRules T) {D : Nat} {κ : Option zA → zM → Prop} {m : zM} {v : Int} {lo : zL} (hlo : z_keep [0] lo = [(0, zr 74)])  (hB : zB m) (hrd : m 74 13 = 80) (hf0 : 0 ≤ m 74 17 ∧ m 74 17 ≤ 100) 
    (k1 : κ (some (zi (wr v))) m) :
    T (D + 4) 211 (58, lo, [zi v], m) κ := by
  have hb1 : 0 ≤ (m 74 16) ∧ (m 74 16) ≤ 100 := hB 74 16
  have hb2 : (-2147483648) ≤ wr v ∧ wr v ≤ 2147483647 := wrB v
  have he0 : wr (m 74 17) = (m 74 17) := wr_id (by omega) (by omega)
  have key := @zb211_58_80fr T hT D κ m v lo hlo
  simp only [he0, Int.toNat_natCast] at key
  exact key
    (fun x0 x1 => k1 )
    (fun x0 x1 => by omega)
    (fun x0 => by omega)
theorem zb211_83_80r (hT : zRules T) {D : Nat} {κ : Option zA → zM → Prop} {m : zM} {v : Int} {k : Nat} {lo : zL} (hlo : z_keep [0, 3, 4] lo = [(0, zr 74), (3, zi v), (4, zi (k : Int))]) 
    (o1 : ¬ wr (k : Int) < 3 → κ (some (zi (wr v))) m)
    (o2 : wr (k : Int) < 3 → (m 74 13) = 80)
    (o3 : wr (k : Int) < 3 → (0 ≤ (m 74 16) ∧ (m 74 16) ≤ 1000))
    (o4 : wr (k : Int) < 3 → (0 ≤ (m 74 14) ∧ (m 74 14) ≤ 80))
    (o5 : wr (k : Int) < 3 → (0 ≤ (m 74 15) ∧ (m 74 15) ≤ 80))
    (o6 : wr (k : Int) < 3 → wr (hrR m 80) < 48 → κ (some (zi (wr v))) m)
    (o7 : wr (k : Int) < 3 → ¬ wr (hrR m 80) < 48 → 57 < wr (hrR m 80) → κ (some (zi (wr v))) m)
    (o8 : wr (k : Int) < 3 → ¬ wr (hrR m 80) < 48 → ¬ 57 < wr (hrR m 80) → ¬ wr (m 74 17) = (-1) → False)
    (o9 : wr (k : Int) < 3 → ¬ wr (hrR m 80) < 48 → ¬ 57 < wr (hrR m 80) → wr (m 74 17) = (-1) → (m 74 13) = 80)
    (o10 : wr (k : Int) < 3 → ¬ wr (hrR m 80) < 48 → ¬ 57 < wr (hrR m 80) → wr (m 74 17) = (-1) → (0 ≤ (m 74 16) ∧ (m 74 16) ≤ 1000))
    (o11 : wr (k : Int) < 3 → ¬ wr (hrR m 80) < 48 → ¬ 57 < wr (hrR m 80) → wr (m 74 17) = (-1) → (0 ≤ (m 74 14) ∧ (m 74 14) ≤ 80))
    (o12 : wr (k : Int) < 3 → ¬ wr (hrR m 80) < 48 → ¬ 57 < wr (hrR m 80) → wr (m 74 17) = (-1) → (0 ≤ (m 74 15) ∧ (m 74 15) ≤ 80))
    (o13 : wr (k : Int) < 3 → ¬ wr (hrR m 80) < 48 → ¬ 57 < wr (hrR m 80) → wr (m 74 17) = (-1) → wr (hrR m 80) < 48 → False)
    (o14 : wr (k : Int) < 3 → ¬ wr (hrR m 80) < 48 → ¬ 57 < wr (hrR m 80) → wr (m 74 17) = (-1) → ¬ wr (hrR m 80) < 48 → 57 < wr (hrR m 80) → False)
    (o15 : wr (k : Int) < 3 → ¬ wr (hrR m 80) < 48 → ¬ 57 < wr (hrR m 80) → wr (m 74 17) = (-1) → ¬ wr (hrR m 80) < 48 → ¬ 57 < wr (hrR m 80) → (m 74 13) = 80)
    (o16 : wr (k : Int) < 3 → ¬ wr (hrR m 80) < 48 → ¬ 57 < wr (hrR m 80) → wr (m 74 17) = (-1) → ¬ wr (hrR m 80) < 48 → ¬ 57 < wr (hrR m 80) → (0 ≤ wr (((m 74 16) + 1) - 1) ∧ wr (((m 74 16) + 1) - 1) < 80))
    (o17 : wr (k : Int) < 3 → ¬ wr (hrR m 80) < 48 → ¬ 57 < wr (hrR m 80) → wr (m 74 17) = (-1) → ¬ wr (hrR m 80) < 48 → ¬ 57 < wr (hrR m 80) → T (D + 4) 211 (83, [(0, zr 74), (3, zi ((10 * v) + wr ((m 80 ((wr (((m 74 16) + 1) - 1)).toNat)) - 48))), (4, zi ((k : Int) + 1))], [], (zu m 74 16 ((m 74 16) + 1))) κ) :
    T (D + 4) 211 (83, lo, [], m) κ :=
  zkeep hT hlo (hT.1 [(83, [0, 3, 4])] 6 (D + 4) 211 _ κ (And.intro (fun a1 => (o1 a1)) (fun a2 => (z_here80 hT (o2 (Classical.byContradiction a2)) (o3 (Classical.byContradiction a2)) (o4 (Classical.byContradiction a2)) (o5 (Classical.byContradiction a2)) (hT.1 [(83, [0, 3, 4])] 6 (D + 4) 211 _ _ (hT.1 [] 6 (D + 3) 186 _ _ (And.intro (fun a3 => (And.intro (z_b01L rfl) (hT.1 [(83, [0, 3, 4])] 6 (D + 4) 211 _ _ (And.intro (fun _ => (o6 (Classical.byContradiction a2) a3)) (fun a5 => (a5 (z_litT rfl)).elim))))) (fun a4 => (And.intro (fun a6 => (hT.1 [] 6 (D + 3) 186 (14, [(0, zi (hrR m 80)), (1, zi 48), (2, zi 57)], [], m) _ (And.intro (z_b01L rfl) (hT.1 [(83, [0, 3, 4])] 6 (D + 4) 211 _ _ (And.intro (fun _ => (o7 (Classical.byContradiction a2) a4 a6)) (fun a8 => (a8 (z_litT rfl)).elim)))))) (fun a7 => (hT.1 [] 6 (D + 3) 186 (10, [(0, zi (hrR m 80)), (1, zi 48), (2, zi 57)], [], m) _ (And.intro (z_b01L rfl) (hT.1 [(83, [0, 3, 4])] 6 (D + 4) 211 _ _ (And.intro (fun a9 => (z_litF a9 rfl).elim) (fun _ => (hT.1 [(83, [0, 3, 4])] 6 (D + 4) 211 (109, [(0, zr 74), (3, zi v), (4, zi (k : Int))], [zi 0, zr 74, zi (10 * v)], m) _ (hT.1 [] 6 (D + 3) 203 _ _ (hT.1 [] 6 (D + 2) 199 _ _ (And.intro (fun a10 => (o8 (Classical.byContradiction a2) a4 a7 a10).elim) (fun a11 => (hT.1 [] 6 (D + 2) 199 (13, [(0, zr 74)], [zi 1], m) _ (And.intro (z_b01L rfl) (hT.1 [] 6 (D + 3) 203 _ _ (And.intro (fun _ => (z_here80 hT (o9 (Classical.byContradiction a2) a4 a7 (Classical.byContradiction a11)) (o10 (Classical.byContradiction a2) a4 a7 (Classical.byContradiction a11)) (o11 (Classical.byContradiction a2) a4 a7 (Classical.byContradiction a11)) (o12 (Classical.byContradiction a2) a4 a7 (Classical.byContradiction a11)) (hT.1 [] 6 (D + 3) 203 _ _ (hT.1 [] 6 (D + 3) 203 (21, [(0, zr 74), (1, zi 0), (2, zi 9)], [zi 57, zi 48, zi (hrR m 80)], m) _ (hT.1 [] 6 (D + 2) 186 _ _ (And.intro (fun a13 => (o13 (Classical.byContradiction a2) a4 a7 (Classical.byContradiction a11) a13).elim) (fun a14 => (And.intro (fun a15 => (o14 (Classical.byContradiction a2) a4 a7 (Classical.byContradiction a11) a14 a15).elim) (fun a16 => (hT.1 [] 6 (D + 2) 186 (10, [(0, zi (hrR m 80)), (1, zi 48), (2, zi 57)], [], m) _ (And.intro (z_b01L rfl) (hT.1 [] 6 (D + 3) 203 _ _ (And.intro (fun _ => (hT.1 [] 6 (D + 3) 203 (44, [(0, zr 74), (1, zi 0), (2, zi 9)], [zi ((m 74 16) + 1), zr 74], m) _ (And.intro trivial (And.intro (Or.inl (o15 (Classical.byContradiction a2) a4 a7 (Classical.byContradiction a11) a14 a16)) (And.intro (fun _ => (hT.1 [] 6 (D + 3) 203 (56, [(0, zr 74), (1, zi 0), (2, zi 9)], [zi 1, zi ((m 74 16) + 1), zr 80], (zu m 74 16 ((m 74 16) + 1))) _ (And.intro (o16 (Classical.byContradiction a2) a4 a7 (Classical.byContradiction a11) a14 a16) (hT.1 [(83, [0, 3, 4])] 6 (D + 4) 211 _ _ (o17 (Classical.byContradiction a2) a4 a7 (Classical.byContradiction a11) a14 a16))))) (fun a18 => (z_n8086 (o15 (Classical.byContradiction a2) a4 a7 (Classical.byContradiction a11) a14 a16) a18).elim)))))) (fun a17 => (a17 (z_litT rfl)).elim)))))))))))))) (fun a12 => (a12 (z_litT rfl)).elim)))))))))))))))))))))))))
theorem zb211_83_80 (hT : zRules T) {D : Nat} {κ : Option zA → zM → Prop} {m : zM} {v : Int} {k : Nat} {lo : zL} (hlo : z_keep [0, 3, 4] lo = [(0, zr 74), (3, zi v), (4, zi (k : Int))])  (hB : zB m) (hrd : m 74 13 = 80) (h_v : 0 ≤ v ∧ v ≤ 1000) (h_k : k ≤ 3) (hf0 : (-1) ≤ m 74 17 ∧ m 74 17 ≤ (-1)) (hf1 : 0 ≤ m 74 16 ∧ m 74 16 ≤ 90) (hf2 : 0 ≤ m 74 15 ∧ m 74 15 ≤ 80) 
    (k1 : ¬ (k : Int) < 3 → κ (some (zi v)) m)
    (k2 : (k : Int) < 3 → (hrR m 80) < 48 → κ (some (zi v)) m)
    (k3 : (k : Int) < 3 → ¬ (hrR m 80) < 48 → 57 < (hrR m 80) → κ (some (zi v)) m)
    (k4 : (k : Int) < 3 → ¬ (hrR m 80) < 48 → ¬ 57 < (hrR m 80) → (0 ≤ (((m 74 16) + 1) - 1) ∧ (((m 74 16) + 1) - 1) < 80))
    (k5 : (k : Int) < 3 → ¬ (hrR m 80) < 48 → ¬ 57 < (hrR m 80) → zB (zu m 74 16 ((m 74 16) + 1)) → T (D + 4) 211 (83, [(0, zr 74), (3, zi ((10 * v) + ((m 80 ((((m 74 16) + 1) - 1).toNat)) - 48))), (4, zi ((k : Int) + 1))], [], (zu m 74 16 ((m 74 16) + 1))) κ) :
    T (D + 4) 211 (83, lo, [], m) κ := by
  have hb5 : 0 ≤ (m 74 14) ∧ (m 74 14) ≤ 80 := hB 74 14
  have hb6 : (-1) ≤ (hrR m 80) ∧ (hrR m 80) ≤ 255 := hrRB m 80
  have hb7 : (-128) ≤ (m 80 ((((m 74 16) + 1) - 1).toNat)) ∧ (m 80 ((((m 74 16) + 1) - 1).toNat)) ≤ 127 := hB 80 ((((m 74 16) + 1) - 1).toNat)
  have he0 : wr (k : Int) = (k : Int) := wr_id (by omega) (by omega)
  have he1 : wr (hrR m 80) = (hrR m 80) := wr_id (by omega) (by omega)
  have he2 : wr v = v := wr_id (by omega) (by omega)
  have he3 : wr (m 74 17) = (m 74 17) := wr_id (by omega) (by omega)
  have he4 : wr (((m 74 16) + 1) - 1) = (((m 74 16) + 1) - 1) := wr_id (by omega) (by omega)
  have he5 : wr ((m 80 ((((m 74 16) + 1) - 1).toNat)) - 48) = ((m 80 ((((m 74 16) + 1) - 1).toNat)) - 48) := wr_id (by omega) (by omega)
  have key := @zb211_83_80r T hT D κ m v k lo hlo
  simp only [he0, he1, he2, he3, he4, he5, Int.toNat_natCast] at key
  exact key
    k1
    (fun x0 => hrd)
    (fun x0 => by refine ⟨?_, ?_⟩ <;> omega)
    (fun x0 => by refine ⟨?_, ?_⟩ <;> omega)
    (fun x0 => by refine ⟨?_, ?_⟩ <;> omega)
    k2
    k3
    (fun x0 x1 x2 x3 => by omega)
    (fun x0 x1 x2 x3 => hrd)
    (fun x0 x1 x2 x3 => by refine ⟨?_, ?_⟩ <;> omega)
    (fun x0 x1 x2 x3 => by refine ⟨?_, ?_⟩ <;> omega)
    (fun x0 x1 x2 x3 => by refine ⟨?_, ?_⟩ <;> omega)
    (fun x0 x1 x2 x3 x4 => by omega)
    (fun x0 x1 x2 x3 x4 x5 => by omega)
    (fun x0 x1 x2 x3 x4 x5 => hrd)
    (fun x0 x1 x2 x3 x4 x5 => k4 x0 x1 x2)
    (fun x0 x1 x2 x3 x4 x5 => k5 x0 x1 x2 (zB_u hB (show 0 ≤ ((m 74 16) + 1) ∧ ((m 74 16) + 1) ≤ 100 from ⟨by omega, by omega⟩)))
theorem zb208_0_86r (hT : zRules T) {D : Nat} {κ : Option zA → zM → Prop} {m : zM} {d : Nat} 
    (o1 : T (D + 3) 209 (0, [(0, zr 74), (1, zi (d : Int))], [], m) (fun r m1 => T (D + 4) 208 (5, [(0, zr 74), (1, zi (d : Int))], r.toList ++ [], m1) κ)) :
    T (D + 4) 208 (0, [(0, zr 74), (1, zi (d : Int))], [], m) κ :=
  hT.1 [] 6 (D + 4) 208 _ κ (o1)
theorem zb208_0_86 (hT : zRules T) {D : Nat} {κ : Option zA → zM → Prop} {m : zM} {d : Nat}  (hB : zB m) (hrd : m 74 13 = 86) (h_d : d ≤ 4) (hf0 : (-1) ≤ m 74 17 ∧ m 74 17 ≤ (-1)) (hf1 : 0 ≤ m 74 16 ∧ m 74 16 ≤ 90) (hf2 : 0 ≤ m 74 15 ∧ m 74 15 ≤ 40) 
    (k1 : T (D + 3) 209 (0, [(0, zr 74), (1, zi (d : Int))], [], m) (fun r m1 => T (D + 4) 208 (5, [(0, zr 74), (1, zi (d : Int))], r.toList ++ [], m1) κ)) :
    T (D + 4) 208 (0, [(0, zr 74), (1, zi (d : Int))], [], m) κ := by
  exact zb208_0_86r hT
    k1
theorem zb208_5_86r (hT : zRules T) {D : Nat} {κ : Option zA → zM → Prop} {m : zM} {d : Nat} {v : Int} {lo : zL} (hlo : z_keep [0, 1] lo = [(0, zr 74), (1, zi (d : Int))]) 
    (o1 : ¬ wr (m 74 17) = (-1) → False)
    (o2 : wr (m 74 17) = (-1) → (m 74 13) = 86)
    (o3 : wr (m 74 17) = (-1) → (0 ≤ (m 74 16) ∧ (m 74 16) ≤ 1000))
    (o4 : wr (m 74 17) = (-1) → (0 ≤ (m 74 14) ∧ (m 74 14) ≤ 80))
    (o5 : wr (m 74 17) = (-1) → (0 ≤ (m 74 15) ∧ (m 74 15) ≤ 40))
    (o6 : wr (m 74 17) = (-1) → wr (hrR m 86) = 60 → T (D + 3) 209 (0, [(0, zr 74), (1, zi (d : Int))], [], (zu m 74 16 ((m 74 16) + 1))) (fun r m1 => T (D + 4) 208 (21, [(0, zr 74), (1, zi (d : Int)), (2, zi v)], r.toList ++ [zi v], m1) κ))
    (o7 : wr (m 74 17) = (-1) → ¬ wr (hrR m 86) = 60 → ¬ wr (m 74 17) = (-1) → False)
    (o8 : wr (m 74 17) = (-1) → ¬ wr (hrR m 86) = 60 → wr (m 74 17) = (-1) → (m 74 13) = 86)
    (o9 : wr (m 74 17) = (-1) → ¬ wr (hrR m 86) = 60 → wr (m 74 17) = (-1) → (0 ≤ (m 74 16) ∧ (m 74 16) ≤ 1000))
    (o10 : wr (m 74 17) = (-1) → ¬ wr (hrR m 86) = 60 → wr (m 74 17) = (-1) → (0 ≤ (m 74 14) ∧ (m 74 14) ≤ 80))
    (o11 : wr (m 74 17) = (-1) → ¬ wr (hrR m 86) = 60 → wr (m 74 17) = (-1) → (0 ≤ (m 74 15) ∧ (m 74 15) ≤ 40))
    (o12 : wr (m 74 17) = (-1) → ¬ wr (hrR m 86) = 60 → wr (m 74 17) = (-1) → wr (hrR m 86) = 62 → T (D + 3) 209 (0, [(0, zr 74), (1, zi (d : Int))], [], (zu m 74 16 ((m 74 16) + 1))) (fun r m1 => T (D + 4) 208 (45, [(0, zr 74), (1, zi (d : Int)), (2, zi v)], r.toList ++ [zi v], m1) κ))
    (o13 : wr (m 74 17) = (-1) → ¬ wr (hrR m 86) = 60 → wr (m 74 17) = (-1) → ¬ wr (hrR m 86) = 62 → ¬ wr (m 74 17) = (-1) → False)
    (o14 : wr (m 74 17) = (-1) → ¬ wr (hrR m 86) = 60 → wr (m 74 17) = (-1) → ¬ wr (hrR m 86) = 62 → wr (m 74 17) = (-1) → (m 74 13) = 86)
    (o15 : wr (m 74 17) = (-1) → ¬ wr (hrR m 86) = 60 → wr (m 74 17) = (-1) → ¬ wr (hrR m 86) = 62 → wr (m 74 17) = (-1) → (0 ≤ (m 74 16) ∧ (m 74 16) ≤ 1000))
    (o16 : wr (m 74 17) = (-1) → ¬ wr (hrR m 86) = 60 → wr (m 74 17) = (-1) → ¬ wr (hrR m 86) = 62 → wr (m 74 17) = (-1) → (0 ≤ (m 74 14) ∧ (m 74 14) ≤ 80))
    (o17 : wr (m 74 17) = (-1) → ¬ wr (hrR m 86) = 60 → wr (m 74 17) = (-1) → ¬ wr (hrR m 86) = 62 → wr (m 74 17) = (-1) → (0 ≤ (m 74 15) ∧ (m 74 15) ≤ 40))
    (o18 : wr (m 74 17) = (-1) → ¬ wr (hrR m 86) = 60 → wr (m 74 17) = (-1) → ¬ wr (hrR m 86) = 62 → wr (m 74 17) = (-1) → wr (hrR m 86) = 61 → T (D + 3) 209 (0, [(0, zr 74), (1, zi (d : Int))], [], (zu m 74 16 ((m 74 16) + 1))) (fun r m1 => T (D + 4) 208 (69, [(0, zr 74), (1, zi (d : Int)), (2, zi v)], r.toList ++ [zi v], m1) κ))
    (o19 : wr (m 74 17) = (-1) → ¬ wr (hrR m 86) = 60 → wr (m 74 17) = (-1) → ¬ wr (hrR m 86) = 62 → wr (m 74 17) = (-1) → ¬ wr (hrR m 86) = 61 → κ (some (zi (wr v))) m) :
    T (D + 4) 208 (5, lo, [zi v], m) κ :=
  zkeep hT hlo (hT.1 [] 6 (D + 4) 208 _ κ (hT.1 [] 6 (D + 3) 201 _ _ (hT.1 [] 6 (D + 2) 199 _ _ (And.intro (fun a1 => (o1 a1).elim) (fun a2 => (hT.1 [] 6 (D + 2) 199 (13, [(0, zr 74)], [zi 1], m) _ (And.intro (z_b01L rfl) (hT.1 [] 6 (D + 3) 201 _ _ (And.intro (fun a3 => (z_litF a3 rfl).elim) (fun _ => (z_here86 hT (o2 (Classical.byContradiction a2)) (o3 (Classical.byContradiction a2)) (o4 (Classical.byContradiction a2)) (o5 (Classical.byContradiction a2)) (hT.1 [] 6 (D + 3) 201 _ _ (And.intro (fun a4 => (hT.1 [] 6 (D + 3) 201 (23, [(0, zr 74), (1, zi 60)], [zi 1, zi (m 74 16), zr 74], m) _ (And.intro trivial (And.intro (z_b01L rfl) (hT.1 [] 6 (D + 4) 208 _ _ (And.intro (fun a6 => (z_litF a6 rfl).elim) (fun _ => (o6 (Classical.byContradiction a2) a4)))))))) (fun a5 => (And.intro (z_b01L rfl) (hT.1 [] 6 (D + 4) 208 _ _ (And.intro (fun _ => (hT.1 [] 6 (D + 3) 201 _ _ (hT.1 [] 6 (D + 2) 199 _ _ (And.intro (fun a8 => (o7 (Classical.byContradiction a2) a5 a8).elim) (fun a9 => (hT.1 [] 6 (D + 2) 199 (13, [(0, zr 74)], [zi 1], m) _ (And.intro (z_b01L rfl) (hT.1 [] 6 (D + 3) 201 _ _ (And.intro (fun a10 => (z_litF a10 rfl).elim) (fun _ => (z_here86 hT (o8 (Classical.byContradiction a2) a5 (Classical.byContradiction a9)) (o9 (Classical.byContradiction a2) a5 (Classical.byContradiction a9)) (o10 (Classical.byContradiction a2) a5 (Classical.byContradiction a9)) (o11 (Classical.byContradiction a2) a5 (Classical.byContradiction a9)) (hT.1 [] 6 (D + 3) 201 _ _ (And.intro (fun a11 => (hT.1 [] 6 (D + 3) 201 (23, [(0, zr 74), (1, zi 62)], [zi 1, zi (m 74 16), zr 74], m) _ (And.intro trivial (And.intro (z_b01L rfl) (hT.1 [] 6 (D + 4) 208 _ _ (And.intro (fun a13 => (z_litF a13 rfl).elim) (fun _ => (o12 (Classical.byContradiction a2) a5 (Classical.byContradiction a9) a11)))))))) (fun a12 => (And.intro (z_b01L rfl) (hT.1 [] 6 (D + 4) 208 _ _ (And.intro (fun _ => (hT.1 [] 6 (D + 3) 201 _ _ (hT.1 [] 6 (D + 2) 199 _ _ (And.intro (fun a15 => (o13 (Classical.byContradiction a2) a5 (Classical.byContradiction a9) a12 a15).elim) (fun a16 => (hT.1 [] 6 (D + 2) 199 (13, [(0, zr 74)], [zi 1], m) _ (And.intro (z_b01L rfl) (hT.1 [] 6 (D + 3) 201 _ _ (And.intro (fun a17 => (z_litF a17 rfl).elim) (fun _ => (z_here86 hT (o14 (Classical.byContradiction a2) a5 (Classical.byContradiction a9) a12 (Classical.byContradiction a16)) (o15 (Classical.byContradiction a2) a5 (Classical.byContradiction a9) a12 (Classical.byContradiction a16)) (o16 (Classical.byContradiction a2) a5 (Classical.byContradiction a9) a12 (Classical.byContradiction a16)) (o17 (Classical.byContradiction a2) a5 (Classical.byContradiction a9) a12 (Classical.byContradiction a16)) (hT.1 [] 6 (D + 3) 201 _ _ (And.intro (fun a18 => (hT.1 [] 6 (D + 3) 201 (23, [(0, zr 74), (1, zi 61)], [zi 1, zi (m 74 16), zr 74], m) _ (And.intro trivial (And.intro (z_b01L rfl) (hT.1 [] 6 (D + 4) 208 _ _ (And.intro (fun a20 => (z_litF a20 rfl).elim) (fun _ => (o18 (Classical.byContradiction a2) a5 (Classical.byContradiction a9) a12 (Classical.byContradiction a16) a18)))))))) (fun a19 => (And.intro (z_b01L rfl) (hT.1 [] 6 (D + 4) 208 _ _ (And.intro (fun _ => (o19 (Classical.byContradiction a2) a5 (Classical.byContradiction a9) a12 (Classical.byContradiction a16) a19)) (fun a21 => (a21 (z_litT rfl)).elim)))))))))))))))))) (fun a14 => (a14 (z_litT rfl)).elim)))))))))))))))))) (fun a7 => (a7 (z_litT rfl)).elim))))))))))))))))))
theorem zb208_5_86 (hT : zRules T) {D : Nat} {κ : Option zA → zM → Prop} {m : zM} {d : Nat} {v : Int} {lo : zL} (hlo : z_keep [0, 1] lo = [(0, zr 74), (1, zi (d : Int))])  (hB : zB m) (hrd : m 74 13 = 86) (h_d : d ≤ 4) (h_v : (-2147483648) ≤ v ∧ v ≤ 2147483647) (hf0 : (-1) ≤ m 74 17 ∧ m 74 17 ≤ (-1)) (hf1 : 0 ≤ m 74 16 ∧ m 74 16 ≤ 90) (hf2 : 0 ≤ m 74 15 ∧ m 74 15 ≤ 40) 
    (k1 : (hrR m 86) = 60 → zB (zu m 74 16 ((m 74 16) + 1)) → T (D + 3) 209 (0, [(0, zr 74), (1, zi (d : Int))], [], (zu m 74 16 ((m 74 16) + 1))) (fun r m1 => T (D + 4) 208 (21, [(0, zr 74), (1, zi (d : Int)), (2, zi v)], r.toList ++ [zi v], m1) κ))
    (k2 : ¬ (hrR m 86) = 60 → (hrR m 86) = 62 → zB (zu m 74 16 ((m 74 16) + 1)) → T (D + 3) 209 (0, [(0, zr 74), (1, zi (d : Int))], [], (zu m 74 16 ((m 74 16) + 1))) (fun r m1 => T (D + 4) 208 (45, [(0, zr 74), (1, zi (d : Int)), (2, zi v)], r.toList ++ [zi v], m1) κ))
    (k3 : ¬ (hrR m 86) = 60 → ¬ (hrR m 86) = 62 → (hrR m 86) = 61 → zB (zu m 74 16 ((m 74 16) + 1)) → T (D + 3) 209 (0, [(0, zr 74), (1, zi (d : Int))], [], (zu m 74 16 ((m 74 16) + 1))) (fun r m1 => T (D + 4) 208 (69, [(0, zr 74), (1, zi (d : Int)), (2, zi v)], r.toList ++ [zi v], m1) κ))
    (k4 : ¬ (hrR m 86) = 60 → ¬ (hrR m 86) = 62 → ¬ (hrR m 86) = 61 → κ (some (zi v)) m) :
    T (D + 4) 208 (5, lo, [zi v], m) κ := by
  have hb5 : 0 ≤ (m 74 14) ∧ (m 74 14) ≤ 80 := hB 74 14
  have hb6 : (-1) ≤ (hrR m 86) ∧ (hrR m 86) ≤ 255 := hrRB m 86
  have he0 : wr (m 74 17) = (m 74 17) := wr_id (by omega) (by omega)
  have he1 : wr (hrR m 86) = (hrR m 86) := wr_id (by omega) (by omega)
  have he2 : wr v = v := wr_id (by omega) (by omega)
  have key := @zb208_5_86r T hT D κ m d v lo hlo
  simp only [he0, he1, he2, Int.toNat_natCast] at key
  exact key
    (fun x0 => by omega)
    (fun x0 => hrd)
    (fun x0 => by refine ⟨?_, ?_⟩ <;> omega)
    (fun x0 => by refine ⟨?_, ?_⟩ <;> omega)
    (fun x0 => by refine ⟨?_, ?_⟩ <;> omega)
    (fun x0 x1 => k1 x1 (zB_u hB (show 0 ≤ ((m 74 16) + 1) ∧ ((m 74 16) + 1) ≤ 100 from ⟨by omega, by omega⟩)))
    (fun x0 x1 x2 => by omega)
    (fun x0 x1 x2 => hrd)
    (fun x0 x1 x2 => by refine ⟨?_, ?_⟩ <;> omega)
    (fun x0 x1 x2 => by refine ⟨?_, ?_⟩ <;> omega)
    (fun x0 x1 x2 => by refine ⟨?_, ?_⟩ <;> omega)
    (fun x0 x1 x2 x3 => k2 x1 x3 (zB_u hB (show 0 ≤ ((m 74 16) + 1) ∧ ((m 74 16) + 1) ≤ 100 from ⟨by omega, by omega⟩)))
    (fun x0 x1 x2 x3 x4 => by omega)
    (fun x0 x1 x2 x3 x4 => hrd)
    (fun x0 x1 x2 x3 x4 => by refine ⟨?_, ?_⟩ <;> omega)
    (fun x0 x1 x2 x3 x4 => by refine ⟨?_, ?_⟩ <;> omega)
    (fun x0 x1 x2 x3 x4 => by refine ⟨?_, ?_⟩ <;> omega)
    (fun x0 x1 x2 x3 x4 x5 => k3 x1 x3 x5 (zB_u hB (show 0 ≤ ((m 74 16) + 1) ∧ ((m 74 16) + 1) ≤ 100 from ⟨by omega, by omega⟩)))
    (fun x0 x1 x2 x3 x4 x5 => k4 x1 x3 x5)
theorem zb208_5_86fr (hT : zRules T) {D : Nat} {κ : Option zA → zM → Prop} {m : zM} {d : Nat} {v : Int} {lo : zL} (hlo : z_keep [0, 1] lo = [(0, zr 74), (1, zi (d : Int))]) 
    (o1 : ¬ wr (m 74 17) = (-1) → ¬ wr (m 74 17) = (-1) → ¬ wr (m 74 17) = (-1) → κ (some (zi (wr v))) m)
    (o2 : ¬ wr (m 74 17) = (-1) → ¬ wr (m 74 17) = (-1) → wr (m 74 17) = (-1) → False)
    (o3 : ¬ wr (m 74 17) = (-1) → wr (m 74 17) = (-1) → False)
    (o4 : wr (m 74 17) = (-1) → False) :
    T (D + 4) 208 (5, lo, [zi v], m) κ :=
  zkeep hT hlo (hT.1 [] 6 (D + 4) 208 _ κ (hT.1 [] 6 (D + 3) 201 _ _ (hT.1 [] 6 (D + 2) 199 _ _ (And.intro (fun a1 => (And.intro (z_b01L rfl) (hT.1 [] 6 (D + 3) 201 _ _ (And.intro (fun _ => (And.intro (z_b01L rfl) (hT.1 [] 6 (D + 4) 208 _ _ (And.intro (fun _ => (hT.1 [] 6 (D + 3) 201 _ _ (hT.1 [] 6 (D + 2) 199 _ _ (And.intro (fun a5 => (And.intro (z_b01L rfl) (hT.1 [] 6 (D + 3) 201 _ _ (And.intro (fun _ => (And.intro (z_b01L rfl) (hT.1 [] 6 (D + 4) 208 _ _ (And.intro (fun _ => (hT.1 [] 6 (D + 3) 201 _ _ (hT.1 [] 6 (D + 2) 199 _ _ (And.intro (fun a9 => (And.intro (z_b01L rfl) (hT.1 [] 6 (D + 3) 201 _ _ (And.intro (fun _ => (And.intro (z_b01L rfl) (hT.1 [] 6 (D + 4) 208 _ _ (And.intro (fun _ => (o1 a1 a5 a9)) (fun a12 => (a12 (z_litT rfl)).elim))))) (fun a11 => (a11 (z_litT rfl)).elim))))) (fun a10 => (o2 a1 a5 (Classical.byContradiction a10)).elim))))) (fun a8 => (a8 (z_litT rfl)).elim))))) (fun a7 => (a7 (z_litT rfl)).elim))))) (fun a6 => (o3 a1 (Classical.byContradiction a6)).elim))))) (fun a4 => (a4 (z_litT rfl)).elim))))) (fun a3 => (a3 (z_litT rfl)).elim))))) (fun a2 => (o4 (Classical.byContradiction a2)).elim)))))
theorem zb208_5_86f (hT : zRules T) {D : Nat} {κ : Option zA → zM → Prop} {m : zM} {d : Nat} {v : Int} {lo : zL} (hlo : z_keep [0, 1] lo = [(0, zr 74), (1, zi (d : Int))])  (hB : zB m) (hrd : m 74 13 = 86) (h_d : d ≤ 4) (h_v : (-2147483648) ≤ v ∧ v ≤ 2147483647) (hf0 : 0 ≤ m 74 17 ∧ m 74 17 ≤ 100) 
    (k1 : κ (some (zi v)) m) :
    T (D + 4) 208 (5, lo, [zi v], m) κ := by
  have he0 : wr (m 74 17) = (m 74 17) := wr_id (by omega) (by omega)
  have he1 : wr v = v := wr_id (by omega) (by omega)
  have key := @zb208_5_86fr T hT D κ m d v lo hlo
  simp only [he0, he1, Int.toNat_natCast] at key
  exact key
    (fun x0 x1 x2 => k1 )
    (fun x0 x1 x2 => by omega)
    (fun x0 x1 => by omega)
    (fun x0 => by omega)
theorem zb208_21_86r (hT : zRules T) {D : Nat} {κ : Option zA → zM → Prop} {m : zM} {v : Int} {w : Int} {lo : zL} (hlo : z_keep [] lo = []) 
    (o1 : ¬ wr v < wr w → κ (some (zi 0)) m)
    (o2 : wr v < wr w → κ (some (zi 1)) m) :
    T (D + 4) 208 (21, lo, [zi w, zi v], m) κ :=
  zkeep hT hlo (hT.1 [] 6 (D + 4) 208 _ κ (And.intro (fun a1 => (o1 a1)) (fun a2 => (o2 (Classical.byContradiction a2)))))
theorem zb208_21_86 (hT : zRules T) {D : Nat} {κ : Option zA → zM → Prop} {m : zM} {v : Int} {w : Int} {lo : zL} (hlo : z_keep [] lo = [])  (h_v : (-2147483648) ≤ v ∧ v ≤ 2147483647) (h_w : (-2147483648) ≤ w ∧ w ≤ 2147483647) 
    (k1 : ¬ v < w → κ (some (zi 0)) m)
    (k2 : v < w → κ (some (zi 1)) m) :
    T (D + 4) 208 (21, lo, [zi w, zi v], m) κ := by
  have he0 : wr v = v := wr_id (by omega) (by omega)
  have he1 : wr w = w := wr_id (by omega) (by omega)
  have key := @zb208_21_86r T hT D κ m v w lo hlo
  simp only [he0, he1, Int.toNat_natCast] at key
  exact key
    k1
    k2
theorem zb208_45_86r (hT : zRules T) {D : Nat} {κ : Option zA → zM → Prop} {m : zM} {v : Int} {w : Int} {lo : zL} (hlo : z_keep [] lo = []) 
    (o1 : ¬ wr w < wr v → κ (some (zi 0)) m)
    (o2 : wr w < wr v → κ (some (zi 1)) m) :
    T (D + 4) 208 (45, lo, [zi w, zi v], m) κ :=
  zkeep hT hlo (hT.1 [] 6 (D + 4) 208 _ κ (And.intro (fun a1 => (o1 a1)) (fun a2 => (o2 (Classical.byContradiction a2)))))
theorem zb208_45_86 (hT : zRules T) {D : Nat} {κ : Option zA → zM → Prop} {m : zM} {v : Int} {w : Int} {lo : zL} (hlo : z_keep [] lo = [])  (h_v : (-2147483648) ≤ v ∧ v ≤ 2147483647) (h_w : (-2147483648) ≤ w ∧ w ≤ 2147483647) 
    (k1 : ¬ w < v → κ (some (zi 0)) m)
    (k2 : w < v → κ (some (zi 1)) m) :
    T (D + 4) 208 (45, lo, [zi w, zi v], m) κ := by
  have he0 : wr w = w := wr_id (by omega) (by omega)
  have he1 : wr v = v := wr_id (by omega) (by omega)
  have key := @zb208_45_86r T hT D κ m v w lo hlo
  simp only [he0, he1, Int.toNat_natCast] at key
  exact key
    k1
    k2
theorem zb208_69_86r (hT : zRules T) {D : Nat} {κ : Option zA → zM → Prop} {m : zM} {v : Int} {w : Int} {lo : zL} (hlo : z_keep [] lo = []) 
    (o1 : ¬ wr v = wr w → κ (some (zi 0)) m)
    (o2 : wr v = wr w → κ (some (zi 1)) m) :
    T (D + 4) 208 (69, lo, [zi w, zi v], m) κ :=
  zkeep hT hlo (hT.1 [] 6 (D + 4) 208 _ κ (And.intro (fun a1 => (o1 a1)) (fun a2 => (o2 (Classical.byContradiction a2)))))
theorem zb208_69_86 (hT : zRules T) {D : Nat} {κ : Option zA → zM → Prop} {m : zM} {v : Int} {w : Int} {lo : zL} (hlo : z_keep [] lo = [])  (h_v : (-2147483648) ≤ v ∧ v ≤ 2147483647) (h_w : (-2147483648) ≤ w ∧ w ≤ 2147483647) 
    (k1 : ¬ v = w → κ (some (zi 0)) m)
    (k2 : v = w → κ (some (zi 1)) m) :
    T (D + 4) 208 (69, lo, [zi w, zi v], m) κ := by
  have he0 : wr v = v := wr_id (by omega) (by omega)
  have he1 : wr w = w := wr_id (by omega) (by omega)
  have key := @zb208_69_86r T hT D κ m v w lo hlo
  simp only [he0, he1, Int.toNat_natCast] at key
  exact key
    k1
    k2
theorem zb209_0_86r (hT : zRules T) {D : Nat} {κ : Option zA → zM → Prop} {m : zM} {d : Nat} 
    (o1 : T (D + 3) 210 (0, [(0, zr 74), (1, zi (d : Int))], [], m) (fun r m1 => T (D + 4) 209 (5, [(0, zr 74), (1, zi (d : Int))], r.toList ++ [], m1) κ)) :
    T (D + 4) 209 (0, [(0, zr 74), (1, zi (d : Int))], [], m) κ :=
  hT.1 [(6, [0, 1, 2])] 6 (D + 4) 209 _ κ (o1)
theorem zb209_0_86 (hT : zRules T) {D : Nat} {κ : Option zA → zM → Prop} {m : zM} {d : Nat}  (hB : zB m) (hrd : m 74 13 = 86) (h_d : d ≤ 4) (hf0 : (-1) ≤ m 74 17 ∧ m 74 17 ≤ (-1)) (hf1 : 0 ≤ m 74 16 ∧ m 74 16 ≤ 90) (hf2 : 0 ≤ m 74 15 ∧ m 74 15 ≤ 40) 
    (k1 : T (D + 3) 210 (0, [(0, zr 74), (1, zi (d : Int))], [], m) (fun r m1 => T (D + 4) 209 (5, [(0, zr 74), (1, zi (d : Int))], r.toList ++ [], m1) κ)) :
    T (D + 4) 209 (0, [(0, zr 74), (1, zi (d : Int))], [], m) κ := by
  exact zb209_0_86r hT
    k1
theorem zb209_5_86r (hT : zRules T) {D : Nat} {κ : Option zA → zM → Prop} {m : zM} {d : Nat} {v : Int} {lo : zL} (hlo : z_keep [0, 1] lo = [(0, zr 74), (1, zi (d : Int))]) 
    (o1 : T (D + 4) 209 (6, [(0, zr 74), (1, zi (d : Int)), (2, zi v)], [], m) κ) :
    T (D + 4) 209 (5, lo, [zi v], m) κ :=
  zkeep hT hlo (hT.1 [(6, [0, 1, 2])] 6 (D + 4) 209 _ κ (o1))
theorem zb209_5_86 (hT : zRules T) {D : Nat} {κ : Option zA → zM → Prop} {m : zM} {d : Nat} {v : Int} {lo : zL} (hlo : z_keep [0, 1] lo = [(0, zr 74), (1, zi (d : Int))])  (h_d : d ≤ 4) 
    (k1 : T (D + 4) 209 (6, [(0, zr 74), (1, zi (d : Int)), (2, zi v)], [], m) κ) :
    T (D + 4) 209 (5, lo, [zi v], m) κ := by
  exact zb209_5_86r hT hlo
    k1
theorem zb209_61_86r (hT : zRules T) {D : Nat} {κ : Option zA → zM → Prop} {m : zM} {d : Nat} {v : Int} {w : Int} {pl : Int} {lo : zL} (hlo : z_keep [0, 1, 2, 3] lo = [(0, zr 74), (1, zi (d : Int)), (2, zi v), (3, zi pl)]) 
    (o1 : wr pl = 0 → T (D + 4) 209 (6, [(0, zr 74), (1, zi (d : Int)), (2, zi (v - w))], [], m) κ)
    (o2 : ¬ wr pl = 0 → T (D + 4) 209 (6, [(0, zr 74), (1, zi (d : Int)), (2, zi (v + w))], [], m) κ) :
    T (D + 4) 209 (61, lo, [zi w], m) κ :=
  zkeep hT hlo (hT.1 [(6, [0, 1, 2])] 6 (D + 4) 209 _ κ (And.intro (fun a1 => (hT.1 [(6, [0, 1, 2])] 6 (D + 4) 209 (78, [(0, zr 74), (1, zi (d : Int)), (2, zi v), (3, zi pl), (4, zi w)], [zi (v - w)], m) _ (o1 a1))) (fun a2 => (hT.1 [(6, [0, 1, 2])] 6 (D + 4) 209 (71, [(0, zr 74), (1, zi (d : Int)), (2, zi v), (3, zi pl), (4, zi w)], [zi (v + w)], m) _ (o2 a2)))))
theorem zb209_61_86 (hT : zRules T) {D : Nat} {κ : Option zA → zM → Prop} {m : zM} {d : Nat} {v : Int} {w : Int} {pl : Int} {lo : zL} (hlo : z_keep [0, 1, 2, 3] lo = [(0, zr 74), (1, zi (d : Int)), (2, zi v), (3, zi pl)])  (h_d : d ≤ 4) (h_pl : 0 ≤ pl ∧ pl ≤ 1) 
    (k1 : pl = 0 → T (D + 4) 209 (6, [(0, zr 74), (1, zi (d : Int)), (2, zi (v - w))], [], m) κ)
    (k2 : ¬ pl = 0 → T (D + 4) 209 (6, [(0, zr 74), (1, zi (d : Int)), (2, zi (v + w))], [], m) κ) :
    T (D + 4) 209 (61, lo, [zi w], m) κ := by
  have he0 : wr pl = pl := wr_id (by omega) (by omega)
  have key := @zb209_61_86r T hT D κ m d v w pl lo hlo
  simp only [he0, Int.toNat_natCast] at key
  exact key
    k1
    k2
theorem zb209_6_86r (hT : zRules T) {D : Nat} {κ : Option zA → zM → Prop} {m : zM} {d : Nat} {v : Int} {lo : zL} (hlo : z_keep [0, 1, 2] lo = [(0, zr 74), (1, zi (d : Int)), (2, zi v)]) 
    (o1 : ¬ wr (m 74 17) = (-1) → False)
    (o2 : wr (m 74 17) = (-1) → (m 74 13) = 86)
    (o3 : wr (m 74 17) = (-1) → (0 ≤ (m 74 16) ∧ (m 74 16) ≤ 1000))
    (o4 : wr (m 74 17) = (-1) → (0 ≤ (m 74 14) ∧ (m 74 14) ≤ 80))
    (o5 : wr (m 74 17) = (-1) → (0 ≤ (m 74 15) ∧ (m 74 15) ≤ 40))
    (o6 : wr (m 74 17) = (-1) → wr (hrR m 86) = 43 → (m 74 13) = 86)
    (o7 : wr (m 74 17) = (-1) → wr (hrR m 86) = 43 → (0 ≤ (m 74 16) ∧ (m 74 16) ≤ 1000))
    (o8 : wr (m 74 17) = (-1) → wr (hrR m 86) = 43 → (0 ≤ (m 74 14) ∧ (m 74 14) ≤ 80))
    (o9 : wr (m 74 17) = (-1) → wr (hrR m 86) = 43 → (0 ≤ (m 74 15) ∧ (m 74 15) ≤ 40))
    (o10 : wr (m 74 17) = (-1) → wr (hrR m 86) = 43 → ¬ wr (hrR m 86) = 43 → False)
    (o11 : wr (m 74 17) = (-1) → wr (hrR m 86) = 43 → wr (hrR m 86) = 43 → T (D + 3) 210 (0, [(0, zr 74), (1, zi (d : Int))], [], (zu m 74 16 ((m 74 16) + 1))) (fun r m1 => T (D + 4) 209 (61, [(0, zr 74), (1, zi (d : Int)), (2, zi v), (3, zi 1)], r.toList ++ [], m1) κ))
    (o12 : wr (m 74 17) = (-1) → ¬ wr (hrR m 86) = 43 → (m 74 13) = 86)
    (o13 : wr (m 74 17) = (-1) → ¬ wr (hrR m 86) = 43 → (0 ≤ (m 74 16) ∧ (m 74 16) ≤ 1000))
    (o14 : wr (m 74 17) = (-1) → ¬ wr (hrR m 86) = 43 → (0 ≤ (m 74 14) ∧ (m 74 14) ≤ 80))
    (o15 : wr (m 74 17) = (-1) → ¬ wr (hrR m 86) = 43 → (0 ≤ (m 74 15) ∧ (m 74 15) ≤ 40))
    (o16 : wr (m 74 17) = (-1) → ¬ wr (hrR m 86) = 43 → ¬ wr (hrR m 86) = 45 → κ (some (zi (wr v))) m)
    (o17 : wr (m 74 17) = (-1) → ¬ wr (hrR m 86) = 43 → wr (hrR m 86) = 45 → (m 74 13) = 86)
    (o18 : wr (m 74 17) = (-1) → ¬ wr (hrR m 86) = 43 → wr (hrR m 86) = 45 → (0 ≤ (m 74 16) ∧ (m 74 16) ≤ 1000))
    (o19 : wr (m 74 17) = (-1) → ¬ wr (hrR m 86) = 43 → wr (hrR m 86) = 45 → (0 ≤ (m 74 14) ∧ (m 74 14) ≤ 80))
    (o20 : wr (m 74 17) = (-1) → ¬ wr (hrR m 86) = 43 → wr (hrR m 86) = 45 → (0 ≤ (m 74 15) ∧ (m 74 15) ≤ 40))
    (o21 : wr (m 74 17) = (-1) → ¬ wr (hrR m 86) = 43 → wr (hrR m 86) = 45 → ¬ wr (hrR m 86) = 43 → T (D + 3) 210 (0, [(0, zr 74), (1, zi (d : Int))], [], (zu m 74 16 ((m 74 16) + 1))) (fun r m1 => T (D + 4) 209 (61, [(0, zr 74), (1, zi (d : Int)), (2, zi v), (3, zi 0)], r.toList ++ [], m1) κ))
    (o22 : wr (m 74 17) = (-1) → ¬ wr (hrR m 86) = 43 → wr (hrR m 86) = 45 → wr (hrR m 86) = 43 → False) :
    T (D + 4) 209 (6, lo, [], m) κ :=
  zkeep hT hlo (hT.1 [(6, [0, 1, 2])] 6 (D + 4) 209 _ κ (hT.1 [] 6 (D + 3) 199 _ _ (And.intro (fun a1 => (o1 a1).elim) (fun a2 => (hT.1 [] 6 (D + 3) 199 (13, [(0, zr 74)], [zi 1], m) _ (And.intro (z_b01L rfl) (hT.1 [(6, [0, 1, 2])] 6 (D + 4) 209 _ _ (And.intro (fun a3 => (z_litF a3 rfl).elim) (fun _ => (z_here86 hT (o2 (Classical.byContradiction a2)) (o3 (Classical.byContradiction a2)) (o4 (Classical.byContradiction a2)) (o5 (Classical.byContradiction a2)) (hT.1 [(6, [0, 1, 2])] 6 (D + 4) 209 _ _ (And.intro (fun a4 => (z_here86 hT (o6 (Classical.byContradiction a2) a4) (o7 (Classical.byContradiction a2) a4) (o8 (Classical.byContradiction a2) a4) (o9 (Classical.byContradiction a2) a4) (hT.1 [(6, [0, 1, 2])] 6 (D + 4) 209 _ _ (And.intro (fun a6 => (o10 (Classical.byContradiction a2) a4 a6).elim) (fun a7 => (hT.1 [(6, [0, 1, 2])] 6 (D + 4) 209 (47, [(0, zr 74), (1, zi (d : Int)), (2, zi v), (3, zi 1)], [zr 74], m) _ (And.intro trivial (hT.1 [(6, [0, 1, 2])] 6 (D + 4) 209 (57, [(0, zr 74), (1, zi (d : Int)), (2, zi v), (3, zi 1)], [zr 74], (zu m 74 16 ((m 74 16) + 1))) _ (o11 (Classical.byContradiction a2) a4 (Classical.byContradiction a7)))))))))) (fun a5 => (z_here86 hT (o12 (Classical.byContradiction a2) a5) (o13 (Classical.byContradiction a2) a5) (o14 (Classical.byContradiction a2) a5) (o15 (Classical.byContradiction a2) a5) (hT.1 [(6, [0, 1, 2])] 6 (D + 4) 209 _ _ (And.intro (fun a8 => (o16 (Classical.byContradiction a2) a5 a8)) (fun a9 => (z_here86 hT (o17 (Classical.byContradiction a2) a5 (Classical.byContradiction a9)) (o18 (Classical.byContradiction a2) a5 (Classical.byContradiction a9)) (o19 (Classical.byContradiction a2) a5 (Classical.byContradiction a9)) (o20 (Classical.byContradiction a2) a5 (Classical.byContradiction a9)) (hT.1 [(6, [0, 1, 2])] 6 (D + 4) 209 _ _ (And.intro (fun a10 => (hT.1 [(6, [0, 1, 2])] 6 (D + 4) 209 (48, [(0, zr 74), (1, zi (d : Int)), (2, zi v), (3, zi 0)], [zr 74, zr 74], m) _ (And.intro trivial (hT.1 [(6, [0, 1, 2])] 6 (D + 4) 209 (58, [(0, zr 74), (1, zi (d : Int)), (2, zi v), (3, zi 0)], [zi (d : Int), zr 74], (zu m 74 16 ((m 74 16) + 1))) _ (o21 (Classical.byContradiction a2) a5 (Classical.byContradiction a9) a10))))) (fun a11 => (o22 (Classical.byContradiction a2) a5 (Classical.byContradiction a9) (Classical.byContradiction a11)).elim)))))))))))))))))))))
theorem zb209_6_86 (hT : zRules T) {D : Nat} {κ : Option zA → zM → Prop} {m : zM} {d : Nat} {v : Int} {lo : zL} (hlo : z_keep [0, 1, 2] lo = [(0, zr 74), (1, zi (d : Int)), (2, zi v)])  (hB : zB m) (hrd : m 74 13 = 86) (h_d : d ≤ 4) (hf0 : (-1) ≤ m 74 17 ∧ m 74 17 ≤ (-1)) (hf1 : 0 ≤ m 74 16 ∧ m 74 16 ≤ 90) (hf2 : 0 ≤ m 74 15 ∧ m 74 15 ≤ 40) 
    (k1 : (hrR m 86) = 43 → zB (zu m 74 16 ((m 74 16) + 1)) → T (D + 3) 210 (0, [(0, zr 74), (1, zi (d : Int))], [], (zu m 74 16 ((m 74 16) + 1))) (fun r m1 => T (D + 4) 209 (61, [(0, zr 74), (1, zi (d : Int)), (2, zi v), (3, zi 1)], r.toList ++ [], m1) κ))
    (k2 : ¬ (hrR m 86) = 43 → ¬ (hrR m 86) = 45 → κ (some (zi (wr v))) m)
    (k3 : ¬ (hrR m 86) = 43 → (hrR m 86) = 45 → zB (zu m 74 16 ((m 74 16) + 1)) → T (D + 3) 210 (0, [(0, zr 74), (1, zi (d : Int))], [], (zu m 74 16 ((m 74 16) + 1))) (fun r m1 => T (D + 4) 209 (61, [(0, zr 74), (1, zi (d : Int)), (2, zi v), (3, zi 0)], r.toList ++ [], m1) κ)) :
    T (D + 4) 209 (6, lo, [], m) κ := by
  have hb4 : 0 ≤ (m 74 14) ∧ (m 74 14) ≤ 80 := hB 74 14
  have hb5 : (-1) ≤ (hrR m 86) ∧ (hrR m 86) ≤ 255 := hrRB m 86
  have hb6 : (-2147483648) ≤ wr v ∧ wr v ≤ 2147483647 := wrB v
  have he0 : wr (m 74 17) = (m 74 17) := wr_id (by omega) (by omega)
  have he1 : wr (hrR m 86) = (hrR m 86) := wr_id (by omega) (by omega)
  have key := @zb209_6_86r T hT D κ m d v lo hlo
  simp only [he0, he1, Int.toNat_natCast] at key
  exact key
    (fun x0 => by omega)
    (fun x0 => hrd)
    (fun x0 => by refine ⟨?_, ?_⟩ <;> omega)
    (fun x0 => by refine ⟨?_, ?_⟩ <;> omega)
    (fun x0 => by refine ⟨?_, ?_⟩ <;> omega)
    (fun x0 x1 => hrd)
    (fun x0 x1 => by refine ⟨?_, ?_⟩ <;> omega)
    (fun x0 x1 => by refine ⟨?_, ?_⟩ <;> omega)
    (fun x0 x1 => by refine ⟨?_, ?_⟩ <;> omega)
    (fun x0 x1 x2 => by omega)
    (fun x0 x1 x2 => k1 x1 (zB_u hB (show 0 ≤ ((m 74 16) + 1) ∧ ((m 74 16) + 1) ≤ 100 from ⟨by omega, by omega⟩)))
    (fun x0 x1 => hrd)
    (fun x0 x1 => by refine ⟨?_, ?_⟩ <;> omega)
    (fun x0 x1 => by refine ⟨?_, ?_⟩ <;> omega)
    (fun x0 x1 => by refine ⟨?_, ?_⟩ <;> omega)
    (fun x0 x1 x2 => k2 x1 x2)
    (fun x0 x1 x2 => hrd)
    (fun x0 x1 x2 => by refine ⟨?_, ?_⟩ <;> omega)
    (fun x0 x1 x2 => by refine ⟨?_, ?_⟩ <;> omega)
    (fun x0 x1 x2 => by refine ⟨?_, ?_⟩ <;> omega)
    (fun x0 x1 x2 x3 => k3 x1 x2 (zB_u hB (show 0 ≤ ((m 74 16) + 1) ∧ ((m 74 16) + 1) ≤ 100 from ⟨by omega, by omega⟩)))
    (fun x0 x1 x2 x3 => by omega)
theorem zb209_6_86fr (hT : zRules T) {D : Nat} {κ : Option zA → zM → Prop} {m : zM} {d : Nat} {v : Int} {lo : zL} (hlo : z_keep [0, 1, 2] lo = [(0, zr 74), (1, zi (d : Int)), (2, zi v)]) 
    (o1 : ¬ wr (m 74 17) = (-1) → κ (some (zi (wr v))) m)
    (o2 : wr (m 74 17) = (-1) → False) :
    T (D + 4) 209 (6, lo, [], m) κ :=
  zkeep hT hlo (hT.1 [(6, [0, 1, 2])] 6 (D + 4) 209 _ κ (hT.1 [] 6 (D + 3) 199 _ _ (And.intro (fun a1 => (And.intro (z_b01L rfl) (hT.1 [(6, [0, 1, 2])] 6 (D + 4) 209 _ _ (And.intro (fun _ => (o1 a1)) (fun a3 => (a3 (z_litT rfl)).elim))))) (fun a2 => (o2 (Classical.byContradiction a2)).elim))))
theorem zb209_6_86f (hT : zRules T) {D : Nat} {κ : Option zA → zM → Prop} {m : zM} {d : Nat} {v : Int} {lo : zL} (hlo : z_keep [0, 1, 2] lo = [(0, zr 74), (1, zi (d : Int)), (2, zi v)])  (hB : zB m) (hrd : m 74 13 = 86) (h_d : d ≤ 4) (hf0 : 0 ≤ m 74 17 ∧ m 74 17 ≤ 100) 
    (k1 : κ (some (zi (wr v))) m) :
    T (D + 4) 209 (6, lo, [], m) κ := by
  have hb2 : (-2147483648) ≤ wr v ∧ wr v ≤ 2147483647 := wrB v
  have he0 : wr (m 74 17) = (m 74 17) := wr_id (by omega) (by omega)
  have key := @zb209_6_86fr T hT D κ m d v lo hlo
  simp only [he0, Int.toNat_natCast] at key
  exact key
    (fun x0 => k1 )
    (fun x0 => by omega)
theorem zb210_0_86r (hT : zRules T) {D : Nat} {κ : Option zA → zM → Prop} {m : zM} {d : Nat} 
    (o1 : T (D + 3) 211 (0, [(0, zr 74), (1, zi (d : Int))], [], m) (fun r m1 => T (D + 4) 210 (5, [(0, zr 74), (1, zi (d : Int))], r.toList ++ [], m1) κ)) :
    T (D + 4) 210 (0, [(0, zr 74), (1, zi (d : Int))], [], m) κ :=
  hT.1 [(6, [0, 1, 2])] 6 (D + 4) 210 _ κ (o1)
theorem zb210_0_86 (hT : zRules T) {D : Nat} {κ : Option zA → zM → Prop} {m : zM} {d : Nat}  (hB : zB m) (hrd : m 74 13 = 86) (h_d : d ≤ 4) (hf0 : (-1) ≤ m 74 17 ∧ m 74 17 ≤ (-1)) (hf1 : 0 ≤ m 74 16 ∧ m 74 16 ≤ 90) (hf2 : 0 ≤ m 74 15 ∧ m 74 15 ≤ 40) 
    (k1 : T (D + 3) 211 (0, [(0, zr 74), (1, zi (d : Int))], [], m) (fun r m1 => T (D + 4) 210 (5, [(0, zr 74), (1, zi (d : Int))], r.toList ++ [], m1) κ)) :
    T (D + 4) 210 (0, [(0, zr 74), (1, zi (d : Int))], [], m) κ := by
  exact zb210_0_86r hT
    k1
theorem zb210_5_86r (hT : zRules T) {D : Nat} {κ : Option zA → zM → Prop} {m : zM} {d : Nat} {v : Int} {lo : zL} (hlo : z_keep [0, 1] lo = [(0, zr 74), (1, zi (d : Int))]) 
    (o1 : T (D + 4) 210 (6, [(0, zr 74), (1, zi (d : Int)), (2, zi v)], [], m) κ) :
    T (D + 4) 210 (5, lo, [zi v], m) κ :=
  zkeep hT hlo (hT.1 [(6, [0, 1, 2])] 6 (D + 4) 210 _ κ (o1))
theorem zb210_5_86 (hT : zRules T) {D : Nat} {κ : Option zA → zM → Prop} {m : zM} {d : Nat} {v : Int} {lo : zL} (hlo : z_keep [0, 1] lo = [(0, zr 74), (1, zi (d : Int))])  (h_d : d ≤ 4) 
    (k1 : T (D + 4) 210 (6, [(0, zr 74), (1, zi (d : Int)), (2, zi v)], [], m) κ) :
    T (D + 4) 210 (5, lo, [zi v], m) κ := by
  exact zb210_5_86r hT hlo
    k1
theorem zb210_61_86r (hT : zRules T) {D : Nat} {κ : Option zA → zM → Prop} {m : zM} {d : Nat} {v : Int} {w : Int} {bq : Int} {lo : zL} (hlo : z_keep [0, 1, 2, 3] lo = [(0, zr 74), (1, zi (d : Int)), (2, zi v), (3, zi bq)]) 
    (o1 : wr bq = 0 → ¬ wr w = 0 → ¬ wr w = 0)
    (o2 : wr bq = 0 → ¬ wr w = 0 → T (D + 4) 210 (6, [(0, zr 74), (1, zi (d : Int)), (2, zi (Int.tdiv (wr v) (wr w)))], [], m) κ)
    (o3 : wr bq = 0 → wr w = 0 → T (D + 4) 210 (6, [(0, zr 74), (1, zi (d : Int)), (2, zi 0)], [], m) κ)
    (o4 : ¬ wr bq = 0 → T (D + 4) 210 (6, [(0, zr 74), (1, zi (d : Int)), (2, zi (v * w))], [], m) κ) :
    T (D + 4) 210 (61, lo, [zi w], m) κ :=
  zkeep hT hlo (hT.1 [(6, [0, 1, 2])] 6 (D + 4) 210 _ κ (And.intro (fun a1 => (And.intro (fun a3 => (hT.1 [(6, [0, 1, 2])] 6 (D + 4) 210 (84, [(0, zr 74), (1, zi (d : Int)), (2, zi v), (3, zi bq), (4, zi w)], [zi v], m) _ (And.intro (o1 a1 a3) (o2 a1 a3)))) (fun a4 => (hT.1 [(6, [0, 1, 2])] 6 (D + 4) 210 (80, [(0, zr 74), (1, zi (d : Int)), (2, zi v), (3, zi bq), (4, zi w)], [zi 0], m) _ (o3 a1 (Classical.byContradiction a4)))))) (fun a2 => (hT.1 [(6, [0, 1, 2])] 6 (D + 4) 210 (71, [(0, zr 74), (1, zi (d : Int)), (2, zi v), (3, zi bq), (4, zi w)], [zi (v * w)], m) _ (o4 a2)))))
theorem zb210_61_86 (hT : zRules T) {D : Nat} {κ : Option zA → zM → Prop} {m : zM} {d : Nat} {v : Int} {w : Int} {bq : Int} {lo : zL} (hlo : z_keep [0, 1, 2, 3] lo = [(0, zr 74), (1, zi (d : Int)), (2, zi v), (3, zi bq)])  (h_d : d ≤ 4) (h_bq : 0 ≤ bq ∧ bq ≤ 1) 
    (k1 : bq = 0 → ¬ wr w = 0 → T (D + 4) 210 (6, [(0, zr 74), (1, zi (d : Int)), (2, zi (Int.tdiv (wr v) (wr w)))], [], m) κ)
    (k2 : bq = 0 → wr w = 0 → T (D + 4) 210 (6, [(0, zr 74), (1, zi (d : Int)), (2, zi 0)], [], m) κ)
    (k3 : ¬ bq = 0 → T (D + 4) 210 (6, [(0, zr 74), (1, zi (d : Int)), (2, zi (v * w))], [], m) κ) :
    T (D + 4) 210 (61, lo, [zi w], m) κ := by
  have hb2 : (-2147483648) ≤ wr w ∧ wr w ≤ 2147483647 := wrB w
  have hb3 : (-2147483648) ≤ wr v ∧ wr v ≤ 2147483647 := wrB v
  have he0 : wr bq = bq := wr_id (by omega) (by omega)
  have key := @zb210_61_86r T hT D κ m d v w bq lo hlo
  simp only [he0, Int.toNat_natCast] at key
  exact key
    (fun x0 x1 => by omega)
    k1
    k2
    k3
theorem zb210_6_86r (hT : zRules T) {D : Nat} {κ : Option zA → zM → Prop} {m : zM} {d : Nat} {v : Int} {lo : zL} (hlo : z_keep [0, 1, 2] lo = [(0, zr 74), (1, zi (d : Int)), (2, zi v)]) 
    (o1 : ¬ wr (m 74 17) = (-1) → False)
    (o2 : wr (m 74 17) = (-1) → (m 74 13) = 86)
    (o3 : wr (m 74 17) = (-1) → (0 ≤ (m 74 16) ∧ (m 74 16) ≤ 1000))
    (o4 : wr (m 74 17) = (-1) → (0 ≤ (m 74 14) ∧ (m 74 14) ≤ 80))
    (o5 : wr (m 74 17) = (-1) → (0 ≤ (m 74 15) ∧ (m 74 15) ≤ 40))
    (o6 : wr (m 74 17) = (-1) → wr (hrR m 86) = 42 → (m 74 13) = 86)
    (o7 : wr (m 74 17) = (-1) → wr (hrR m 86) = 42 → (0 ≤ (m 74 16) ∧ (m 74 16) ≤ 1000))
    (o8 : wr (m 74 17) = (-1) → wr (hrR m 86) = 42 → (0 ≤ (m 74 14) ∧ (m 74 14) ≤ 80))
    (o9 : wr (m 74 17) = (-1) → wr (hrR m 86) = 42 → (0 ≤ (m 74 15) ∧ (m 74 15) ≤ 40))
    (o10 : wr (m 74 17) = (-1) → wr (hrR m 86) = 42 → ¬ wr (hrR m 86) = 42 → False)
    (o11 : wr (m 74 17) = (-1) → wr (hrR m 86) = 42 → wr (hrR m 86) = 42 → T (D + 3) 211 (0, [(0, zr 74), (1, zi (d : Int))], [], (zu m 74 16 ((m 74 16) + 1))) (fun r m1 => T (D + 4) 210 (61, [(0, zr 74), (1, zi (d : Int)), (2, zi v), (3, zi 1)], r.toList ++ [], m1) κ))
    (o12 : wr (m 74 17) = (-1) → ¬ wr (hrR m 86) = 42 → (m 74 13) = 86)
    (o13 : wr (m 74 17) = (-1) → ¬ wr (hrR m 86) = 42 → (0 ≤ (m 74 16) ∧ (m 74 16) ≤ 1000))
    (o14 : wr (m 74 17) = (-1) → ¬ wr (hrR m 86) = 42 → (0 ≤ (m 74 14) ∧ (m 74 14) ≤ 80))
    (o15 : wr (m 74 17) = (-1) → ¬ wr (hrR m 86) = 42 → (0 ≤ (m 74 15) ∧ (m 74 15) ≤ 40))
    (o16 : wr (m 74 17) = (-1) → ¬ wr (hrR m 86) = 42 → ¬ wr (hrR m 86) = 47 → κ (some (zi (wr v))) m)
    (o17 : wr (m 74 17) = (-1) → ¬ wr (hrR m 86) = 42 → wr (hrR m 86) = 47 → (m 74 13) = 86)
    (o18 : wr (m 74 17) = (-1) → ¬ wr (hrR m 86) = 42 → wr (hrR m 86) = 47 → (0 ≤ (m 74 16) ∧ (m 74 16) ≤ 1000))
    (o19 : wr (m 74 17) = (-1) → ¬ wr (hrR m 86) = 42 → wr (hrR m 86) = 47 → (0 ≤ (m 74 14) ∧ (m 74 14) ≤ 80))
    (o20 : wr (m 74 17) = (-1) → ¬ wr (hrR m 86) = 42 → wr (hrR m 86) = 47 → (0 ≤ (m 74 15) ∧ (m 74 15) ≤ 40))
    (o21 : wr (m 74 17) = (-1) → ¬ wr (hrR m 86) = 42 → wr (hrR m 86) = 47 → ¬ wr (hrR m 86) = 42 → T (D + 3) 211 (0, [(0, zr 74), (1, zi (d : Int))], [], (zu m 74 16 ((m 74 16) + 1))) (fun r m1 => T (D + 4) 210 (61, [(0, zr 74), (1, zi (d : Int)), (2, zi v), (3, zi 0)], r.toList ++ [], m1) κ))
    (o22 : wr (m 74 17) = (-1) → ¬ wr (hrR m 86) = 42 → wr (hrR m 86) = 47 → wr (hrR m 86) = 42 → False) :
    T (D + 4) 210 (6, lo, [], m) κ :=
  zkeep hT hlo (hT.1 [(6, [0, 1, 2])] 6 (D + 4) 210 _ κ (hT.1 [] 6 (D + 3) 199 _ _ (And.intro (fun a1 => (o1 a1).elim) (fun a2 => (hT.1 [] 6 (D + 3) 199 (13, [(0, zr 74)], [zi 1], m) _ (And.intro (z_b01L rfl) (hT.1 [(6, [0, 1, 2])] 6 (D + 4) 210 _ _ (And.intro (fun a3 => (z_litF a3 rfl).elim) (fun _ => (z_here86 hT (o2 (Classical.byContradiction a2)) (o3 (Classical.byContradiction a2)) (o4 (Classical.byContradiction a2)) (o5 (Classical.byContradiction a2)) (hT.1 [(6, [0, 1, 2])] 6 (D + 4) 210 _ _ (And.intro (fun a4 => (z_here86 hT (o6 (Classical.byContradiction a2) a4) (o7 (Classical.byContradiction a2) a4) (o8 (Classical.byContradiction a2) a4) (o9 (Classical.byContradiction a2) a4) (hT.1 [(6, [0, 1, 2])] 6 (D + 4) 210 _ _ (And.intro (fun a6 => (o10 (Classical.byContradiction a2) a4 a6).elim) (fun a7 => (hT.1 [(6, [0, 1, 2])] 6 (D + 4) 210 (47, [(0, zr 74), (1, zi (d : Int)), (2, zi v), (3, zi 1)], [zr 74], m) _ (And.intro trivial (hT.1 [(6, [0, 1, 2])] 6 (D + 4) 210 (57, [(0, zr 74), (1, zi (d : Int)), (2, zi v), (3, zi 1)], [zr 74], (zu m 74 16 ((m 74 16) + 1))) _ (o11 (Classical.byContradiction a2) a4 (Classical.byContradiction a7)))))))))) (fun a5 => (z_here86 hT (o12 (Classical.byContradiction a2) a5) (o13 (Classical.byContradiction a2) a5) (o14 (Classical.byContradiction a2) a5) (o15 (Classical.byContradiction a2) a5) (hT.1 [(6, [0, 1, 2])] 6 (D + 4) 210 _ _ (And.intro (fun a8 => (o16 (Classical.byContradiction a2) a5 a8)) (fun a9 => (z_here86 hT (o17 (Classical.byContradiction a2) a5 (Classical.byContradiction a9)) (o18 (Classical.byContradiction a2) a5 (Classical.byContradiction a9)) (o19 (Classical.byContradiction a2) a5 (Classical.byContradiction a9)) (o20 (Classical.byContradiction a2) a5 (Classical.byContradiction a9)) (hT.1 [(6, [0, 1, 2])] 6 (D + 4) 210 _ _ (And.intro (fun a10 => (hT.1 [(6, [0, 1, 2])] 6 (D + 4) 210 (48, [(0, zr 74), (1, zi (d : Int)), (2, zi v), (3, zi 0)], [zr 74, zr 74], m) _ (And.intro trivial (hT.1 [(6, [0, 1, 2])] 6 (D + 4) 210 (58, [(0, zr 74), (1, zi (d : Int)), (2, zi v), (3, zi 0)], [zi (d : Int), zr 74], (zu m 74 16 ((m 74 16) + 1))) _ (o21 (Classical.byContradiction a2) a5 (Classical.byContradiction a9) a10))))) (fun a11 => (o22 (Classical.byContradiction a2) a5 (Classical.byContradiction a9) (Classical.byContradiction a11)).elim)))))))))))))))))))))
theorem zb210_6_86 (hT : zRules T) {D : Nat} {κ : Option zA → zM → Prop} {m : zM} {d : Nat} {v : Int} {lo : zL} (hlo : z_keep [0, 1, 2] lo = [(0, zr 74), (1, zi (d : Int)), (2, zi v)])  (hB : zB m) (hrd : m 74 13 = 86) (h_d : d ≤ 4) (hf0 : (-1) ≤ m 74 17 ∧ m 74 17 ≤ (-1)) (hf1 : 0 ≤ m 74 16 ∧ m 74 16 ≤ 90) (hf2 : 0 ≤ m 74 15 ∧ m 74 15 ≤ 40) 
    (k1 : (hrR m 86) = 42 → zB (zu m 74 16 ((m 74 16) + 1)) → T (D + 3) 211 (0, [(0, zr 74), (1, zi (d : Int))], [], (zu m 74 16 ((m 74 16) + 1))) (fun r m1 => T (D + 4) 210 (61, [(0, zr 74), (1, zi (d : Int)), (2, zi v), (3, zi 1)], r.toList ++ [], m1) κ))
    (k2 : ¬ (hrR m 86) = 42 → ¬ (hrR m 86) = 47 → κ (some (zi (wr v))) m)
    (k3 : ¬ (hrR m 86) = 42 → (hrR m 86) = 47 → zB (zu m 74 16 ((m 74 16) + 1)) → T (D + 3) 211 (0, [(0, zr 74), (1, zi (d : Int))], [], (zu m 74 16 ((m 74 16) + 1))) (fun r m1 => T (D + 4) 210 (61, [(0, zr 74), (1, zi (d : Int)), (2, zi v), (3, zi 0)], r.toList ++ [], m1) κ)) :
    T (D + 4) 210 (6, lo, [], m) κ := by
  have hb4 : 0 ≤ (m 74 14) ∧ (m 74 14) ≤ 80 := hB 74 14
  have hb5 : (-1) ≤ (hrR m 86) ∧ (hrR m 86) ≤ 255 := hrRB m 86
  have hb6 : (-2147483648) ≤ wr v ∧ wr v ≤ 2147483647 := wrB v
  have he0 : wr (m 74 17) = (m 74 17) := wr_id (by omega) (by omega)
  have he1 : wr (hrR m 86) = (hrR m 86) := wr_id (by omega) (by omega)
  have key := @zb210_6_86r T hT D κ m d v lo hlo
  simp only [he0, he1, Int.toNat_natCast] at key
  exact key
    (fun x0 => by omega)
    (fun x0 => hrd)
    (fun x0 => by refine ⟨?_, ?_⟩ <;> omega)
    (fun x0 => by refine ⟨?_, ?_⟩ <;> omega)
    (fun x0 => by refine ⟨?_, ?_⟩ <;> omega)
    (fun x0 x1 => hrd)
    (fun x0 x1 => by refine ⟨?_, ?_⟩ <;> omega)
    (fun x0 x1 => by refine ⟨?_, ?_⟩ <;> omega)
    (fun x0 x1 => by refine ⟨?_, ?_⟩ <;> omega)
    (fun x0 x1 x2 => by omega)
    (fun x0 x1 x2 => k1 x1 (zB_u hB (show 0 ≤ ((m 74 16) + 1) ∧ ((m 74 16) + 1) ≤ 100 from ⟨by omega, by omega⟩)))
    (fun x0 x1 => hrd)
    (fun x0 x1 => by refine ⟨?_, ?_⟩ <;> omega)
    (fun x0 x1 => by refine ⟨?_, ?_⟩ <;> omega)
    (fun x0 x1 => by refine ⟨?_, ?_⟩ <;> omega)
    (fun x0 x1 x2 => k2 x1 x2)
    (fun x0 x1 x2 => hrd)
    (fun x0 x1 x2 => by refine ⟨?_, ?_⟩ <;> omega)
    (fun x0 x1 x2 => by refine ⟨?_, ?_⟩ <;> omega)
    (fun x0 x1 x2 => by refine ⟨?_, ?_⟩ <;> omega)
    (fun x0 x1 x2 x3 => k3 x1 x2 (zB_u hB (show 0 ≤ ((m 74 16) + 1) ∧ ((m 74 16) + 1) ≤ 100 from ⟨by omega, by omega⟩)))
    (fun x0 x1 x2 x3 => by omega)
theorem zb210_6_86fr (hT : zRules T) {D : Nat} {κ : Option zA → zM → Prop} {m : zM} {d : Nat} {v : Int} {lo : zL} (hlo : z_keep [0, 1, 2] lo = [(0, zr 74), (1, zi (d : Int)), (2, zi v)]) 
    (o1 : ¬ wr (m 74 17) = (-1) → κ (some (zi (wr v))) m)
    (o2 : wr (m 74 17) = (-1) → False) :
    T (D + 4) 210 (6, lo, [], m) κ :=
  zkeep hT hlo (hT.1 [(6, [0, 1, 2])] 6 (D + 4) 210 _ κ (hT.1 [] 6 (D + 3) 199 _ _ (And.intro (fun a1 => (And.intro (z_b01L rfl) (hT.1 [(6, [0, 1, 2])] 6 (D + 4) 210 _ _ (And.intro (fun _ => (o1 a1)) (fun a3 => (a3 (z_litT rfl)).elim))))) (fun a2 => (o2 (Classical.byContradiction a2)).elim))))
theorem zb210_6_86f (hT : zRules T) {D : Nat} {κ : Option zA → zM → Prop} {m : zM} {d : Nat} {v : Int} {lo : zL} (hlo : z_keep [0, 1, 2] lo = [(0, zr 74), (1, zi (d : Int)), (2, zi v)])  (hB : zB m) (hrd : m 74 13 = 86) (h_d : d ≤ 4) (hf0 : 0 ≤ m 74 17 ∧ m 74 17 ≤ 100) 
    (k1 : κ (some (zi (wr v))) m) :
    T (D + 4) 210 (6, lo, [], m) κ := by
  have hb2 : (-2147483648) ≤ wr v ∧ wr v ≤ 2147483647 := wrB v
  have he0 : wr (m 74 17) = (m 74 17) := wr_id (by omega) (by omega)
  have key := @zb210_6_86fr T hT D κ m d v lo hlo
  simp only [he0, Int.toNat_natCast] at key
  exact key
    (fun x0 => k1 )
    (fun x0 => by omega)
theorem zb211_0_86r (hT : zRules T) {D : Nat} {κ : Option zA → zM → Prop} {m : zM} {d : Nat} 
    (o1 : ¬ wr (m 74 17) = (-1) → False)
    (o2 : wr (m 74 17) = (-1) → (m 74 13) = 86)
    (o3 : wr (m 74 17) = (-1) → (0 ≤ (m 74 16) ∧ (m 74 16) ≤ 1000))
    (o4 : wr (m 74 17) = (-1) → (0 ≤ (m 74 14) ∧ (m 74 14) ≤ 80))
    (o5 : wr (m 74 17) = (-1) → (0 ≤ (m 74 15) ∧ (m 74 15) ≤ 40))
    (o6 : wr (m 74 17) = (-1) → wr (hrR m 86) = 45 → T (D + 3) 211 (0, [(0, zr 74), (1, zi (d : Int))], [], (zu m 74 16 ((m 74 16) + 1))) (fun r m1 => T (D + 4) 211 (14, [(0, zr 74), (1, zi (d : Int))], r.toList ++ [], m1) κ))
    (o7 : wr (m 74 17) = (-1) → ¬ wr (hrR m 86) = 45 → ¬ wr (m 74 17) = (-1) → False)
    (o8 : wr (m 74 17) = (-1) → ¬ wr (hrR m 86) = 45 → wr (m 74 17) = (-1) → (m 74 13) = 86)
    (o9 : wr (m 74 17) = (-1) → ¬ wr (hrR m 86) = 45 → wr (m 74 17) = (-1) → (0 ≤ (m 74 16) ∧ (m 74 16) ≤ 1000))
    (o10 : wr (m 74 17) = (-1) → ¬ wr (hrR m 86) = 45 → wr (m 74 17) = (-1) → (0 ≤ (m 74 14) ∧ (m 74 14) ≤ 80))
    (o11 : wr (m 74 17) = (-1) → ¬ wr (hrR m 86) = 45 → wr (m 74 17) = (-1) → (0 ≤ (m 74 15) ∧ (m 74 15) ≤ 40))
    (o12 : wr (m 74 17) = (-1) → ¬ wr (hrR m 86) = 45 → wr (m 74 17) = (-1) → ¬ wr (hrR m 86) = 40 → wr (hrR m 86) < 48 → wr (hrR m 86) = 104 → False)
    (o13 : wr (m 74 17) = (-1) → ¬ wr (hrR m 86) = 45 → wr (m 74 17) = (-1) → ¬ wr (hrR m 86) = 40 → wr (hrR m 86) < 48 → ¬ wr (hrR m 86) = 104 → wr (hrR m 86) = 108 → False)
    (o14 : wr (m 74 17) = (-1) → ¬ wr (hrR m 86) = 45 → wr (m 74 17) = (-1) → ¬ wr (hrR m 86) = 40 → wr (hrR m 86) < 48 → ¬ wr (hrR m 86) = 104 → ¬ wr (hrR m 86) = 108 → wr (hrR m 86) = 119 → False)
    (o15 : wr (m 74 17) = (-1) → ¬ wr (hrR m 86) = 45 → wr (m 74 17) = (-1) → ¬ wr (hrR m 86) = 40 → wr (hrR m 86) < 48 → ¬ wr (hrR m 86) = 104 → ¬ wr (hrR m 86) = 108 → ¬ wr (hrR m 86) = 119 → wr (hrR m 86) = 112 → False)
    (o16 : wr (m 74 17) = (-1) → ¬ wr (hrR m 86) = 45 → wr (m 74 17) = (-1) → ¬ wr (hrR m 86) = 40 → wr (hrR m 86) < 48 → ¬ wr (hrR m 86) = 104 → ¬ wr (hrR m 86) = 108 → ¬ wr (hrR m 86) = 119 → ¬ wr (hrR m 86) = 112 → wr (hrR m 86) = 105 → False)
    (o17 : wr (m 74 17) = (-1) → ¬ wr (hrR m 86) = 45 → wr (m 74 17) = (-1) → ¬ wr (hrR m 86) = 40 → wr (hrR m 86) < 48 → ¬ wr (hrR m 86) = 104 → ¬ wr (hrR m 86) = 108 → ¬ wr (hrR m 86) = 119 → ¬ wr (hrR m 86) = 112 → ¬ wr (hrR m 86) = 105 → ¬ wr (m 74 17) = (-1) → False)
    (o18 : wr (m 74 17) = (-1) → ¬ wr (hrR m 86) = 45 → wr (m 74 17) = (-1) → ¬ wr (hrR m 86) = 40 → wr (hrR m 86) < 48 → ¬ wr (hrR m 86) = 104 → ¬ wr (hrR m 86) = 108 → ¬ wr (hrR m 86) = 119 → ¬ wr (hrR m 86) = 112 → ¬ wr (hrR m 86) = 105 → wr (m 74 17) = (-1) → κ (some (zi 0)) (zu m 74 17 (m 74 16)))
    (o19 : wr (m 74 17) = (-1) → ¬ wr (hrR m 86) = 45 → wr (m 74 17) = (-1) → ¬ wr (hrR m 86) = 40 → ¬ wr (hrR m 86) < 48 → 57 < wr (hrR m 86) → wr (hrR m 86) = 104 → ¬ wr (m 74 26) = 0 → ¬ wr (hrR m 86) = 104 → False)
    (o20 : wr (m 74 17) = (-1) → ¬ wr (hrR m 86) = 45 → wr (m 74 17) = (-1) → ¬ wr (hrR m 86) = 40 → ¬ wr (hrR m 86) < 48 → 57 < wr (hrR m 86) → wr (hrR m 86) = 104 → ¬ wr (m 74 26) = 0 → wr (hrR m 86) = 104 → κ (some (zi (wr (m 74 28)))) (zu m 74 16 ((m 74 16) + 1)))
    (o21 : wr (m 74 17) = (-1) → ¬ wr (hrR m 86) = 45 → wr (m 74 17) = (-1) → ¬ wr (hrR m 86) = 40 → ¬ wr (hrR m 86) < 48 → 57 < wr (hrR m 86) → wr (hrR m 86) = 104 → wr (m 74 26) = 0 → κ (some (zi 0)) (zu m 74 16 ((m 74 16) + 1)))
    (o22 : wr (m 74 17) = (-1) → ¬ wr (hrR m 86) = 45 → wr (m 74 17) = (-1) → ¬ wr (hrR m 86) = 40 → ¬ wr (hrR m 86) < 48 → 57 < wr (hrR m 86) → ¬ wr (hrR m 86) = 104 → wr (hrR m 86) = 108 → ¬ wr (m 74 26) = 0 → ¬ wr (hrR m 86) = 104 → ¬ wr (hrR m 86) = 108 → False)
    (o23 : wr (m 74 17) = (-1) → ¬ wr (hrR m 86) = 45 → wr (m 74 17) = (-1) → ¬ wr (hrR m 86) = 40 → ¬ wr (hrR m 86) < 48 → 57 < wr (hrR m 86) → ¬ wr (hrR m 86) = 104 → wr (hrR m 86) = 108 → ¬ wr (m 74 26) = 0 → ¬ wr (hrR m 86) = 104 → wr (hrR m 86) = 108 → (0 ≤ wr (m 74 29) ∧ wr (m 74 29) < 4))
    (o24 : wr (m 74 17) = (-1) → ¬ wr (hrR m 86) = 45 → wr (m 74 17) = (-1) → ¬ wr (hrR m 86) = 40 → ¬ wr (hrR m 86) < 48 → 57 < wr (hrR m 86) → ¬ wr (hrR m 86) = 104 → wr (hrR m 86) = 108 → ¬ wr (m 74 26) = 0 → ¬ wr (hrR m 86) = 104 → wr (hrR m 86) = 108 → ¬ wr (m 77 ((wr (m 74 29)).toNat)) = 0)
    (o25 : wr (m 74 17) = (-1) → ¬ wr (hrR m 86) = 45 → wr (m 74 17) = (-1) → ¬ wr (hrR m 86) = 40 → ¬ wr (hrR m 86) < 48 → 57 < wr (hrR m 86) → ¬ wr (hrR m 86) = 104 → wr (hrR m 86) = 108 → ¬ wr (m 74 26) = 0 → ¬ wr (hrR m 86) = 104 → wr (hrR m 86) = 108 → (0 ≤ wr ((26 * (m 74 29)) + (Int.tmod (wr (m 74 30)) (wr (m 77 ((wr (m 74 29)).toNat))))) ∧ wr ((26 * (m 74 29)) + (Int.tmod (wr (m 74 30)) (wr (m 77 ((wr (m 74 29)).toNat))))) < 104))
    (o26 : wr (m 74 17) = (-1) → ¬ wr (hrR m 86) = 45 → wr (m 74 17) = (-1) → ¬ wr (hrR m 86) = 40 → ¬ wr (hrR m 86) < 48 → 57 < wr (hrR m 86) → ¬ wr (hrR m 86) = 104 → wr (hrR m 86) = 108 → ¬ wr (m 74 26) = 0 → ¬ wr (hrR m 86) = 104 → wr (hrR m 86) = 108 → κ (some (zi (wr (wr (m 76 ((wr ((26 * (m 74 29)) + (Int.tmod (wr (m 74 30)) (wr (m 77 ((wr (m 74 29)).toNat)))))).toNat)))))) (zu m 74 16 ((m 74 16) + 1)))
    (o27 : wr (m 74 17) = (-1) → ¬ wr (hrR m 86) = 45 → wr (m 74 17) = (-1) → ¬ wr (hrR m 86) = 40 → ¬ wr (hrR m 86) < 48 → 57 < wr (hrR m 86) → ¬ wr (hrR m 86) = 104 → wr (hrR m 86) = 108 → ¬ wr (m 74 26) = 0 → wr (hrR m 86) = 104 → False)
    (o28 : wr (m 74 17) = (-1) → ¬ wr (hrR m 86) = 45 → wr (m 74 17) = (-1) → ¬ wr (hrR m 86) = 40 → ¬ wr (hrR m 86) < 48 → 57 < wr (hrR m 86) → ¬ wr (hrR m 86) = 104 → wr (hrR m 86) = 108 → wr (m 74 26) = 0 → κ (some (zi 0)) (zu m 74 16 ((m 74 16) + 1)))
    (o29 : wr (m 74 17) = (-1) → ¬ wr (hrR m 86) = 45 → wr (m 74 17) = (-1) → ¬ wr (hrR m 86) = 40 → ¬ wr (hrR m 86) < 48 → 57 < wr (hrR m 86) → ¬ wr (hrR m 86) = 104 → ¬ wr (hrR m 86) = 108 → wr (hrR m 86) = 119 → ¬ wr (m 74 26) = 0 → ¬ wr (hrR m 86) = 104 → ¬ wr (hrR m 86) = 108 → ¬ wr (hrR m 86) = 119 → False)
    (o30 : wr (m 74 17) = (-1) → ¬ wr (hrR m 86) = 45 → wr (m 74 17) = (-1) → ¬ wr (hrR m 86) = 40 → ¬ wr (hrR m 86) < 48 → 57 < wr (hrR m 86) → ¬ wr (hrR m 86) = 104 → ¬ wr (hrR m 86) = 108 → wr (hrR m 86) = 119 → ¬ wr (m 74 26) = 0 → ¬ wr (hrR m 86) = 104 → ¬ wr (hrR m 86) = 108 → wr (hrR m 86) = 119 → κ (some (zi (wr (m 74 30)))) (zu m 74 16 ((m 74 16) + 1)))
    (o31 : wr (m 74 17) = (-1) → ¬ wr (hrR m 86) = 45 → wr (m 74 17) = (-1) → ¬ wr (hrR m 86) = 40 → ¬ wr (hrR m 86) < 48 → 57 < wr (hrR m 86) → ¬ wr (hrR m 86) = 104 → ¬ wr (hrR m 86) = 108 → wr (hrR m 86) = 119 → ¬ wr (m 74 26) = 0 → ¬ wr (hrR m 86) = 104 → wr (hrR m 86) = 108 → False)
    (o32 : wr (m 74 17) = (-1) → ¬ wr (hrR m 86) = 45 → wr (m 74 17) = (-1) → ¬ wr (hrR m 86) = 40 → ¬ wr (hrR m 86) < 48 → 57 < wr (hrR m 86) → ¬ wr (hrR m 86) = 104 → ¬ wr (hrR m 86) = 108 → wr (hrR m 86) = 119 → ¬ wr (m 74 26) = 0 → wr (hrR m 86) = 104 → False)
    (o33 : wr (m 74 17) = (-1) → ¬ wr (hrR m 86) = 45 → wr (m 74 17) = (-1) → ¬ wr (hrR m 86) = 40 → ¬ wr (hrR m 86) < 48 → 57 < wr (hrR m 86) → ¬ wr (hrR m 86) = 104 → ¬ wr (hrR m 86) = 108 → wr (hrR m 86) = 119 → wr (m 74 26) = 0 → κ (some (zi 0)) (zu m 74 16 ((m 74 16) + 1)))
    (o34 : wr (m 74 17) = (-1) → ¬ wr (hrR m 86) = 45 → wr (m 74 17) = (-1) → ¬ wr (hrR m 86) = 40 → ¬ wr (hrR m 86) < 48 → 57 < wr (hrR m 86) → ¬ wr (hrR m 86) = 104 → ¬ wr (hrR m 86) = 108 → ¬ wr (hrR m 86) = 119 → wr (hrR m 86) = 112 → ¬ wr (m 74 26) = 0 → ¬ wr (hrR m 86) = 104 → ¬ wr (hrR m 86) = 108 → ¬ wr (hrR m 86) = 119 → ¬ wr (hrR m 86) = 112 → False)
    (o35 : wr (m 74 17) = (-1) → ¬ wr (hrR m 86) = 45 → wr (m 74 17) = (-1) → ¬ wr (hrR m 86) = 40 → ¬ wr (hrR m 86) < 48 → 57 < wr (hrR m 86) → ¬ wr (hrR m 86) = 104 → ¬ wr (hrR m 86) = 108 → ¬ wr (hrR m 86) = 119 → wr (hrR m 86) = 112 → ¬ wr (m 74 26) = 0 → ¬ wr (hrR m 86) = 104 → ¬ wr (hrR m 86) = 108 → ¬ wr (hrR m 86) = 119 → wr (hrR m 86) = 112 → κ (some (zi (wr (m 74 29)))) (zu m 74 16 ((m 74 16) + 1)))
    (o36 : wr (m 74 17) = (-1) → ¬ wr (hrR m 86) = 45 → wr (m 74 17) = (-1) → ¬ wr (hrR m 86) = 40 → ¬ wr (hrR m 86) < 48 → 57 < wr (hrR m 86) → ¬ wr (hrR m 86) = 104 → ¬ wr (hrR m 86) = 108 → ¬ wr (hrR m 86) = 119 → wr (hrR m 86) = 112 → ¬ wr (m 74 26) = 0 → ¬ wr (hrR m 86) = 104 → ¬ wr (hrR m 86) = 108 → wr (hrR m 86) = 119 → False)
    (o37 : wr (m 74 17) = (-1) → ¬ wr (hrR m 86) = 45 → wr (m 74 17) = (-1) → ¬ wr (hrR m 86) = 40 → ¬ wr (hrR m 86) < 48 → 57 < wr (hrR m 86) → ¬ wr (hrR m 86) = 104 → ¬ wr (hrR m 86) = 108 → ¬ wr (hrR m 86) = 119 → wr (hrR m 86) = 112 → ¬ wr (m 74 26) = 0 → ¬ wr (hrR m 86) = 104 → wr (hrR m 86) = 108 → False)
    (o38 : wr (m 74 17) = (-1) → ¬ wr (hrR m 86) = 45 → wr (m 74 17) = (-1) → ¬ wr (hrR m 86) = 40 → ¬ wr (hrR m 86) < 48 → 57 < wr (hrR m 86) → ¬ wr (hrR m 86) = 104 → ¬ wr (hrR m 86) = 108 → ¬ wr (hrR m 86) = 119 → wr (hrR m 86) = 112 → ¬ wr (m 74 26) = 0 → wr (hrR m 86) = 104 → False)
    (o39 : wr (m 74 17) = (-1) → ¬ wr (hrR m 86) = 45 → wr (m 74 17) = (-1) → ¬ wr (hrR m 86) = 40 → ¬ wr (hrR m 86) < 48 → 57 < wr (hrR m 86) → ¬ wr (hrR m 86) = 104 → ¬ wr (hrR m 86) = 108 → ¬ wr (hrR m 86) = 119 → wr (hrR m 86) = 112 → wr (m 74 26) = 0 → κ (some (zi 0)) (zu m 74 16 ((m 74 16) + 1)))
    (o40 : wr (m 74 17) = (-1) → ¬ wr (hrR m 86) = 45 → wr (m 74 17) = (-1) → ¬ wr (hrR m 86) = 40 → ¬ wr (hrR m 86) < 48 → 57 < wr (hrR m 86) → ¬ wr (hrR m 86) = 104 → ¬ wr (hrR m 86) = 108 → ¬ wr (hrR m 86) = 119 → ¬ wr (hrR m 86) = 112 → wr (hrR m 86) = 105 → ¬ wr (m 74 26) = 0 → ¬ wr (hrR m 86) = 104 → ¬ wr (hrR m 86) = 108 → ¬ wr (hrR m 86) = 119 → ¬ wr (hrR m 86) = 112 → κ (some (zi (wr (m 74 27)))) (zu m 74 16 ((m 74 16) + 1)))
    (o41 : wr (m 74 17) = (-1) → ¬ wr (hrR m 86) = 45 → wr (m 74 17) = (-1) → ¬ wr (hrR m 86) = 40 → ¬ wr (hrR m 86) < 48 → 57 < wr (hrR m 86) → ¬ wr (hrR m 86) = 104 → ¬ wr (hrR m 86) = 108 → ¬ wr (hrR m 86) = 119 → ¬ wr (hrR m 86) = 112 → wr (hrR m 86) = 105 → ¬ wr (m 74 26) = 0 → ¬ wr (hrR m 86) = 104 → ¬ wr (hrR m 86) = 108 → ¬ wr (hrR m 86) = 119 → wr (hrR m 86) = 112 → False)
    (o42 : wr (m 74 17) = (-1) → ¬ wr (hrR m 86) = 45 → wr (m 74 17) = (-1) → ¬ wr (hrR m 86) = 40 → ¬ wr (hrR m 86) < 48 → 57 < wr (hrR m 86) → ¬ wr (hrR m 86) = 104 → ¬ wr (hrR m 86) = 108 → ¬ wr (hrR m 86) = 119 → ¬ wr (hrR m 86) = 112 → wr (hrR m 86) = 105 → ¬ wr (m 74 26) = 0 → ¬ wr (hrR m 86) = 104 → ¬ wr (hrR m 86) = 108 → wr (hrR m 86) = 119 → False)
    (o43 : wr (m 74 17) = (-1) → ¬ wr (hrR m 86) = 45 → wr (m 74 17) = (-1) → ¬ wr (hrR m 86) = 40 → ¬ wr (hrR m 86) < 48 → 57 < wr (hrR m 86) → ¬ wr (hrR m 86) = 104 → ¬ wr (hrR m 86) = 108 → ¬ wr (hrR m 86) = 119 → ¬ wr (hrR m 86) = 112 → wr (hrR m 86) = 105 → ¬ wr (m 74 26) = 0 → ¬ wr (hrR m 86) = 104 → wr (hrR m 86) = 108 → False)
    (o44 : wr (m 74 17) = (-1) → ¬ wr (hrR m 86) = 45 → wr (m 74 17) = (-1) → ¬ wr (hrR m 86) = 40 → ¬ wr (hrR m 86) < 48 → 57 < wr (hrR m 86) → ¬ wr (hrR m 86) = 104 → ¬ wr (hrR m 86) = 108 → ¬ wr (hrR m 86) = 119 → ¬ wr (hrR m 86) = 112 → wr (hrR m 86) = 105 → ¬ wr (m 74 26) = 0 → wr (hrR m 86) = 104 → False)
    (o45 : wr (m 74 17) = (-1) → ¬ wr (hrR m 86) = 45 → wr (m 74 17) = (-1) → ¬ wr (hrR m 86) = 40 → ¬ wr (hrR m 86) < 48 → 57 < wr (hrR m 86) → ¬ wr (hrR m 86) = 104 → ¬ wr (hrR m 86) = 108 → ¬ wr (hrR m 86) = 119 → ¬ wr (hrR m 86) = 112 → wr (hrR m 86) = 105 → wr (m 74 26) = 0 → κ (some (zi 0)) (zu m 74 16 ((m 74 16) + 1)))
    (o46 : wr (m 74 17) = (-1) → ¬ wr (hrR m 86) = 45 → wr (m 74 17) = (-1) → ¬ wr (hrR m 86) = 40 → ¬ wr (hrR m 86) < 48 → 57 < wr (hrR m 86) → ¬ wr (hrR m 86) = 104 → ¬ wr (hrR m 86) = 108 → ¬ wr (hrR m 86) = 119 → ¬ wr (hrR m 86) = 112 → ¬ wr (hrR m 86) = 105 → ¬ wr (m 74 17) = (-1) → False)
    (o47 : wr (m 74 17) = (-1) → ¬ wr (hrR m 86) = 45 → wr (m 74 17) = (-1) → ¬ wr (hrR m 86) = 40 → ¬ wr (hrR m 86) < 48 → 57 < wr (hrR m 86) → ¬ wr (hrR m 86) = 104 → ¬ wr (hrR m 86) = 108 → ¬ wr (hrR m 86) = 119 → ¬ wr (hrR m 86) = 112 → ¬ wr (hrR m 86) = 105 → wr (m 74 17) = (-1) → κ (some (zi 0)) (zu m 74 17 (m 74 16)))
    (o48 : wr (m 74 17) = (-1) → ¬ wr (hrR m 86) = 45 → wr (m 74 17) = (-1) → ¬ wr (hrR m 86) = 40 → ¬ wr (hrR m 86) < 48 → ¬ 57 < wr (hrR m 86) → T (D + 4) 211 (83, [(0, zr 74), (3, zi 0), (4, zi 0)], [], m) κ)
    (o49 : wr (m 74 17) = (-1) → ¬ wr (hrR m 86) = 45 → wr (m 74 17) = (-1) → wr (hrR m 86) = 40 → ¬ wr (d : Int) < 4 → wr (hrR m 86) < 48 → wr (hrR m 86) = 104 → False)
    (o50 : wr (m 74 17) = (-1) → ¬ wr (hrR m 86) = 45 → wr (m 74 17) = (-1) → wr (hrR m 86) = 40 → ¬ wr (d : Int) < 4 → wr (hrR m 86) < 48 → ¬ wr (hrR m 86) = 104 → wr (hrR m 86) = 108 → False)
    (o51 : wr (m 74 17) = (-1) → ¬ wr (hrR m 86) = 45 → wr (m 74 17) = (-1) → wr (hrR m 86) = 40 → ¬ wr (d : Int) < 4 → wr (hrR m 86) < 48 → ¬ wr (hrR m 86) = 104 → ¬ wr (hrR m 86) = 108 → wr (hrR m 86) = 119 → False)
    (o52 : wr (m 74 17) = (-1) → ¬ wr (hrR m 86) = 45 → wr (m 74 17) = (-1) → wr (hrR m 86) = 40 → ¬ wr (d : Int) < 4 → wr (hrR m 86) < 48 → ¬ wr (hrR m 86) = 104 → ¬ wr (hrR m 86) = 108 → ¬ wr (hrR m 86) = 119 → wr (hrR m 86) = 112 → False)
    (o53 : wr (m 74 17) = (-1) → ¬ wr (hrR m 86) = 45 → wr (m 74 17) = (-1) → wr (hrR m 86) = 40 → ¬ wr (d : Int) < 4 → wr (hrR m 86) < 48 → ¬ wr (hrR m 86) = 104 → ¬ wr (hrR m 86) = 108 → ¬ wr (hrR m 86) = 119 → ¬ wr (hrR m 86) = 112 → wr (hrR m 86) = 105 → False)
    (o54 : wr (m 74 17) = (-1) → ¬ wr (hrR m 86) = 45 → wr (m 74 17) = (-1) → wr (hrR m 86) = 40 → ¬ wr (d : Int) < 4 → wr (hrR m 86) < 48 → ¬ wr (hrR m 86) = 104 → ¬ wr (hrR m 86) = 108 → ¬ wr (hrR m 86) = 119 → ¬ wr (hrR m 86) = 112 → ¬ wr (hrR m 86) = 105 → ¬ wr (m 74 17) = (-1) → False)
    (o55 : wr (m 74 17) = (-1) → ¬ wr (hrR m 86) = 45 → wr (m 74 17) = (-1) → wr (hrR m 86) = 40 → ¬ wr (d : Int) < 4 → wr (hrR m 86) < 48 → ¬ wr (hrR m 86) = 104 → ¬ wr (hrR m 86) = 108 → ¬ wr (hrR m 86) = 119 → ¬ wr (hrR m 86) = 112 → ¬ wr (hrR m 86) = 105 → wr (m 74 17) = (-1) → κ (some (zi 0)) (zu m 74 17 (m 74 16)))
    (o56 : wr (m 74 17) = (-1) → ¬ wr (hrR m 86) = 45 → wr (m 74 17) = (-1) → wr (hrR m 86) = 40 → ¬ wr (d : Int) < 4 → ¬ wr (hrR m 86) < 48 → False)
    (o57 : wr (m 74 17) = (-1) → ¬ wr (hrR m 86) = 45 → wr (m 74 17) = (-1) → wr (hrR m 86) = 40 → wr (d : Int) < 4 → T (D + 3) 208 (0, [(0, zr 74), (1, zi ((d : Int) + 1))], [], (zu m 74 16 ((m 74 16) + 1))) (fun r m1 => T (D + 4) 211 (58, [(0, zr 74), (1, zi (d : Int)), (2, zi (hrR m 86))], r.toList ++ [], m1) κ)) :
    T (D + 4) 211 (0, [(0, zr 74), (1, zi (d : Int))], [], m) κ :=
  hT.1 [(83, [0, 3, 4])] 6 (D + 4) 211 _ κ (hT.1 [] 6 (D + 3) 201 _ _ (hT.1 [] 6 (D + 2) 199 _ _ (And.intro (fun a1 => (o1 a1).elim) (fun a2 => (hT.1 [] 6 (D + 2) 199 (13, [(0, zr 74)], [zi 1], m) _ (And.intro (z_b01L rfl) (hT.1 [] 6 (D + 3) 201 _ _ (And.intro (fun a3 => (z_litF a3 rfl).elim) (fun _ => (z_here86 hT (o2 (Classical.byContradiction a2)) (o3 (Classical.byContradiction a2)) (o4 (Classical.byContradiction a2)) (o5 (Classical.byContradiction a2)) (hT.1 [] 6 (D + 3) 201 _ _ (And.intro (fun a4 => (hT.1 [] 6 (D + 3) 201 (23, [(0, zr 74), (1, zi 45)], [zi 1, zi (m 74 16), zr 74], m) _ (And.intro trivial (And.intro (z_b01L rfl) (hT.1 [(83, [0, 3, 4])] 6 (D + 4) 211 _ _ (And.intro (fun a6 => (z_litF a6 rfl).elim) (fun _ => (o6 (Classical.byContradiction a2) a4)))))))) (fun a5 => (And.intro (z_b01L rfl) (hT.1 [(83, [0, 3, 4])] 6 (D + 4) 211 _ _ (And.intro (fun _ => (hT.1 [] 6 (D + 3) 199 _ _ (And.intro (fun a8 => (o7 (Classical.byContradiction a2) a5 a8).elim) (fun a9 => (hT.1 [] 6 (D + 3) 199 (13, [(0, zr 74)], [zi 1], m) _ (And.intro (z_b01L rfl) (hT.1 [(83, [0, 3, 4])] 6 (D + 4) 211 _ _ (And.intro (fun _ => (z_here86 hT (o8 (Classical.byContradiction a2) a5 (Classical.byContradiction a9)) (o9 (Classical.byContradiction a2) a5 (Classical.byContradiction a9)) (o10 (Classical.byContradiction a2) a5 (Classical.byContradiction a9)) (o11 (Classical.byContradiction a2) a5 (Classical.byContradiction a9)) (hT.1 [(83, [0, 3, 4])] 6 (D + 4) 211 _ _ (And.intro (fun a11 => (hT.1 [(83, [0, 3, 4])] 6 (D + 4) 211 (70, [(0, zr 74), (1, zi (d : Int)), (2, zi (hrR m 86))], [zi 48, zi (hrR m 86)], m) _ (hT.1 [] 6 (D + 3) 186 _ _ (And.intro (fun a13 => (And.intro (z_b01L rfl) (hT.1 [(83, [0, 3, 4])] 6 (D + 4) 211 _ _ (And.intro (fun _ => (And.intro (fun a16 => (o12 (Classical.byContradiction a2) a5 (Classical.byContradiction a9) a11 a13 a16).elim) (fun a17 => (hT.1 [(83, [0, 3, 4])] 6 (D + 4) 211 (133, [(0, zr 74), (1, zi (d : Int)), (2, zi (hrR m 86))], [zi 108, zi (hrR m 86)], m) _ (And.intro (fun a18 => (o13 (Classical.byContradiction a2) a5 (Classical.byContradiction a9) a11 a13 a17 a18).elim) (fun a19 => (And.intro (fun a20 => (o14 (Classical.byContradiction a2) a5 (Classical.byContradiction a9) a11 a13 a17 a19 a20).elim) (fun a21 => (hT.1 [(83, [0, 3, 4])] 6 (D + 4) 211 (145, [(0, zr 74), (1, zi (d : Int)), (2, zi (hrR m 86))], [zi 112, zi (hrR m 86)], m) _ (And.intro (fun a22 => (o15 (Classical.byContradiction a2) a5 (Classical.byContradiction a9) a11 a13 a17 a19 a21 a22).elim) (fun a23 => (And.intro (fun a24 => (o16 (Classical.byContradiction a2) a5 (Classical.byContradiction a9) a11 a13 a17 a19 a21 a23 a24).elim) (fun a25 => (hT.1 [(83, [0, 3, 4])] 6 (D + 4) 211 (156, [(0, zr 74), (1, zi (d : Int)), (2, zi (hrR m 86))], [zr 74, zr 74], m) _ (hT.1 [] 6 (D + 3) 200 _ _ (hT.1 [] 6 (D + 2) 199 _ _ (And.intro (fun a26 => (o17 (Classical.byContradiction a2) a5 (Classical.byContradiction a9) a11 a13 a17 a19 a21 a23 a25 a26).elim) (fun a27 => (hT.1 [] 6 (D + 2) 199 (13, [(0, zr 74)], [zi 1], m) _ (And.intro (z_b01L rfl) (hT.1 [] 6 (D + 3) 200 _ _ (And.intro (fun a28 => (z_litF a28 rfl).elim) (fun _ => (And.intro trivial (hT.1 [(83, [0, 3, 4])] 6 (D + 4) 211 _ _ (o18 (Classical.byContradiction a2) a5 (Classical.byContradiction a9) a11 a13 a17 a19 a21 a23 a25 (Classical.byContradiction a27))))))))))))))))))))))))))) (fun a15 => (a15 (z_litT rfl)).elim))))) (fun a14 => (And.intro (fun a29 => (hT.1 [] 6 (D + 3) 186 (14, [(0, zi (hrR m 86)), (1, zi 48), (2, zi 57)], [], m) _ (And.intro (z_b01L rfl) (hT.1 [(83, [0, 3, 4])] 6 (D + 4) 211 _ _ (And.intro (fun _ => (And.intro (fun a32 => (hT.1 [(83, [0, 3, 4])] 6 (D + 4) 211 (166, [(0, zr 74), (1, zi (d : Int)), (2, zi (hrR m 86))], [zr 74, zr 74], m) _ (And.intro trivial (hT.1 [(83, [0, 3, 4])] 6 (D + 4) 211 (178, [(0, zr 74), (1, zi (d : Int)), (2, zi (hrR m 86))], [zi (m 74 26)], (zu m 74 16 ((m 74 16) + 1))) _ (And.intro (fun a34 => (And.intro (fun a36 => (o19 (Classical.byContradiction a2) a5 (Classical.byContradiction a9) a11 a14 a29 a32 a34 a36).elim) (fun a37 => (hT.1 [(83, [0, 3, 4])] 6 (D + 4) 211 (193, [(0, zr 74), (1, zi (d : Int)), (2, zi (hrR m 86))], [zi (m 74 28)], (zu m 74 16 ((m 74 16) + 1))) _ (o20 (Classical.byContradiction a2) a5 (Classical.byContradiction a9) a11 a14 a29 a32 a34 (Classical.byContradiction a37)))))) (fun a35 => (o21 (Classical.byContradiction a2) a5 (Classical.byContradiction a9) a11 a14 a29 a32 (Classical.byContradiction a35)))))))) (fun a33 => (hT.1 [(83, [0, 3, 4])] 6 (D + 4) 211 (133, [(0, zr 74), (1, zi (d : Int)), (2, zi (hrR m 86))], [zi 108, zi (hrR m 86)], m) _ (And.intro (fun a38 => (hT.1 [(83, [0, 3, 4])] 6 (D + 4) 211 (171, [(0, zr 74), (1, zi (d : Int)), (2, zi (hrR m 86))], [zi ((m 74 16) + 1), zr 74], m) _ (And.intro trivial (And.intro (fun a40 => (hT.1 [(83, [0, 3, 4])] 6 (D + 4) 211 (186, [(0, zr 74), (1, zi (d : Int)), (2, zi (hrR m 86))], [zi 104, zi (hrR m 86)], (zu m 74 16 ((m 74 16) + 1))) _ (And.intro (fun a42 => (And.intro (fun a44 => (o22 (Classical.byContradiction a2) a5 (Classical.byContradiction a9) a11 a14 a29 a33 a38 a40 a42 a44).elim) (fun a45 => (hT.1 [(83, [0, 3, 4])] 6 (D + 4) 211 (204, [(0, zr 74), (1, zi (d : Int)), (2, zi (hrR m 86))], [zr 74, zr 74], (zu m 74 16 ((m 74 16) + 1))) _ (hT.1 [] 6 (D + 3) 213 _ _ (hT.1 [] 6 (D + 3) 213 (9, [(0, zr 74), (1, zi (m 74 29)), (2, zi (m 74 30))], [zi (m 74 30), zi (26 * (m 74 29)), zr 76], (zu m 74 16 ((m 74 16) + 1))) _ (And.intro (o23 (Classical.byContradiction a2) a5 (Classical.byContradiction a9) a11 a14 a29 a33 a38 a40 a42 (Classical.byContradiction a45)) (And.intro (o24 (Classical.byContradiction a2) a5 (Classical.byContradiction a9) a11 a14 a29 a33 a38 a40 a42 (Classical.byContradiction a45)) (hT.1 [] 6 (D + 3) 213 (17, [(0, zr 74), (1, zi (m 74 29)), (2, zi (m 74 30))], [zi ((26 * (m 74 29)) + (Int.tmod (wr (m 74 30)) (wr (m 77 ((wr (m 74 29)).toNat))))), zr 76], (zu m 74 16 ((m 74 16) + 1))) _ (And.intro (o25 (Classical.byContradiction a2) a5 (Classical.byContradiction a9) a11 a14 a29 a33 a38 a40 a42 (Classical.byContradiction a45)) (hT.1 [(83, [0, 3, 4])] 6 (D + 4) 211 _ _ (o26 (Classical.byContradiction a2) a5 (Classical.byContradiction a9) a11 a14 a29 a33 a38 a40 a42 (Classical.byContradiction a45))))))))))))) (fun a43 => (o27 (Classical.byContradiction a2) a5 (Classical.byContradiction a9) a11 a14 a29 a33 a38 a40 (Classical.byContradiction a43)).elim)))) (fun a41 => (o28 (Classical.byContradiction a2) a5 (Classical.byContradiction a9) a11 a14 a29 a33 a38 (Classical.byContradiction a41))))))) (fun a39 => (And.intro (fun a46 => (hT.1 [(83, [0, 3, 4])] 6 (D + 4) 211 (166, [(0, zr 74), (1, zi (d : Int)), (2, zi (hrR m 86))], [zr 74, zr 74], m) _ (And.intro trivial (hT.1 [(83, [0, 3, 4])] 6 (D + 4) 211 (178, [(0, zr 74), (1, zi (d : Int)), (2, zi (hrR m 86))], [zi (m 74 26)], (zu m 74 16 ((m 74 16) + 1))) _ (And.intro (fun a48 => (And.intro (fun a50 => (hT.1 [(83, [0, 3, 4])] 6 (D + 4) 211 (199, [(0, zr 74), (1, zi (d : Int)), (2, zi (hrR m 86))], [zi 108, zi (hrR m 86)], (zu m 74 16 ((m 74 16) + 1))) _ (And.intro (fun a52 => (And.intro (fun a54 => (o29 (Classical.byContradiction a2) a5 (Classical.byContradiction a9) a11 a14 a29 a33 a39 a46 a48 a50 a52 a54).elim) (fun a55 => (hT.1 [(83, [0, 3, 4])] 6 (D + 4) 211 (227, [(0, zr 74), (1, zi (d : Int)), (2, zi (hrR m 86))], [zi (m 74 30)], (zu m 74 16 ((m 74 16) + 1))) _ (o30 (Classical.byContradiction a2) a5 (Classical.byContradiction a9) a11 a14 a29 a33 a39 a46 a48 a50 a52 (Classical.byContradiction a55)))))) (fun a53 => (o31 (Classical.byContradiction a2) a5 (Classical.byContradiction a9) a11 a14 a29 a33 a39 a46 a48 a50 (Classical.byContradiction a53)).elim)))) (fun a51 => (o32 (Classical.byContradiction a2) a5 (Classical.byContradiction a9) a11 a14 a29 a33 a39 a46 a48 (Classical.byContradiction a51)).elim))) (fun a49 => (o33 (Classical.byContradiction a2) a5 (Classical.byContradiction a9) a11 a14 a29 a33 a39 a46 (Classical.byContradiction a49)))))))) (fun a47 => (hT.1 [(83, [0, 3, 4])] 6 (D + 4) 211 (145, [(0, zr 74), (1, zi (d : Int)), (2, zi (hrR m 86))], [zi 112, zi (hrR m 86)], m) _ (And.intro (fun a56 => (hT.1 [(83, [0, 3, 4])] 6 (D + 4) 211 (171, [(0, zr 74), (1, zi (d : Int)), (2, zi (hrR m 86))], [zi ((m 74 16) + 1), zr 74], m) _ (And.intro trivial (And.intro (fun a58 => (hT.1 [(83, [0, 3, 4])] 6 (D + 4) 211 (186, [(0, zr 74), (1, zi (d : Int)), (2, zi (hrR m 86))], [zi 104, zi (hrR m 86)], (zu m 74 16 ((m 74 16) + 1))) _ (And.intro (fun a60 => (And.intro (fun a62 => (hT.1 [(83, [0, 3, 4])] 6 (D + 4) 211 (220, [(0, zr 74), (1, zi (d : Int)), (2, zi (hrR m 86))], [zi 119, zi (hrR m 86)], (zu m 74 16 ((m 74 16) + 1))) _ (And.intro (fun a64 => (And.intro (fun a66 => (o34 (Classical.byContradiction a2) a5 (Classical.byContradiction a9) a11 a14 a29 a33 a39 a47 a56 a58 a60 a62 a64 a66).elim) (fun a67 => (hT.1 [(83, [0, 3, 4])] 6 (D + 4) 211 (240, [(0, zr 74), (1, zi (d : Int)), (2, zi (hrR m 86))], [zi (m 74 29)], (zu m 74 16 ((m 74 16) + 1))) _ (o35 (Classical.byContradiction a2) a5 (Classical.byContradiction a9) a11 a14 a29 a33 a39 a47 a56 a58 a60 a62 a64 (Classical.byContradiction a67)))))) (fun a65 => (o36 (Classical.byContradiction a2) a5 (Classical.byContradiction a9) a11 a14 a29 a33 a39 a47 a56 a58 a60 a62 (Classical.byContradiction a65)).elim)))) (fun a63 => (o37 (Classical.byContradiction a2) a5 (Classical.byContradiction a9) a11 a14 a29 a33 a39 a47 a56 a58 a60 (Classical.byContradiction a63)).elim))) (fun a61 => (o38 (Classical.byContradiction a2) a5 (Classical.byContradiction a9) a11 a14 a29 a33 a39 a47 a56 a58 (Classical.byContradiction a61)).elim)))) (fun a59 => (o39 (Classical.byContradiction a2) a5 (Classical.byContradiction a9) a11 a14 a29 a33 a39 a47 a56 (Classical.byContradiction a59))))))) (fun a57 => (And.intro (fun a68 => (hT.1 [(83, [0, 3, 4])] 6 (D + 4) 211 (166, [(0, zr 74), (1, zi (d : Int)), (2, zi (hrR m 86))], [zr 74, zr 74], m) _ (And.intro trivial (hT.1 [(83, [0, 3, 4])] 6 (D + 4) 211 (178, [(0, zr 74), (1, zi (d : Int)), (2, zi (hrR m 86))], [zi (m 74 26)], (zu m 74 16 ((m 74 16) + 1))) _ (And.intro (fun a70 => (And.intro (fun a72 => (hT.1 [(83, [0, 3, 4])] 6 (D + 4) 211 (199, [(0, zr 74), (1, zi (d : Int)), (2, zi (hrR m 86))], [zi 108, zi (hrR m 86)], (zu m 74 16 ((m 74 16) + 1))) _ (And.intro (fun a74 => (And.intro (fun a76 => (hT.1 [(83, [0, 3, 4])] 6 (D + 4) 211 (233, [(0, zr 74), (1, zi (d : Int)), (2, zi (hrR m 86))], [zi 112, zi (hrR m 86)], (zu m 74 16 ((m 74 16) + 1))) _ (And.intro (fun a78 => (o40 (Classical.byContradiction a2) a5 (Classical.byContradiction a9) a11 a14 a29 a33 a39 a47 a57 a68 a70 a72 a74 a76 a78)) (fun a79 => (o41 (Classical.byContradiction a2) a5 (Classical.byContradiction a9) a11 a14 a29 a33 a39 a47 a57 a68 a70 a72 a74 a76 (Classical.byContradiction a79)).elim)))) (fun a77 => (o42 (Classical.byContradiction a2) a5 (Classical.byContradiction a9) a11 a14 a29 a33 a39 a47 a57 a68 a70 a72 a74 (Classical.byContradiction a77)).elim))) (fun a75 => (o43 (Classical.byContradiction a2) a5 (Classical.byContradiction a9) a11 a14 a29 a33 a39 a47 a57 a68 a70 a72 (Classical.byContradiction a75)).elim)))) (fun a73 => (o44 (Classical.byContradiction a2) a5 (Classical.byContradiction a9) a11 a14 a29 a33 a39 a47 a57 a68 a70 (Classical.byContradiction a73)).elim))) (fun a71 => (o45 (Classical.byContradiction a2) a5 (Classical.byContradiction a9) a11 a14 a29 a33 a39 a47 a57 a68 (Classical.byContradiction a71)))))))) (fun a69 => (hT.1 [(83, [0, 3, 4])] 6 (D + 4) 211 (156, [(0, zr 74), (1, zi (d : Int)), (2, zi (hrR m 86))], [zr 74, zr 74], m) _ (hT.1 [] 6 (D + 3) 200 _ _ (hT.1 [] 6 (D + 2) 199 _ _ (And.intro (fun a80 => (o46 (Classical.byContradiction a2) a5 (Classical.byContradiction a9) a11 a14 a29 a33 a39 a47 a57 a69 a80).elim) (fun a81 => (hT.1 [] 6 (D + 2) 199 (13, [(0, zr 74)], [zi 1], m) _ (And.intro (z_b01L rfl) (hT.1 [] 6 (D + 3) 200 _ _ (And.intro (fun a82 => (z_litF a82 rfl).elim) (fun _ => (And.intro trivial (hT.1 [(83, [0, 3, 4])] 6 (D + 4) 211 _ _ (o47 (Classical.byContradiction a2) a5 (Classical.byContradiction a9) a11 a14 a29 a33 a39 a47 a57 a69 (Classical.byContradiction a81))))))))))))))))))))))))))) (fun a31 => (a31 (z_litT rfl)).elim)))))) (fun a30 => (hT.1 [] 6 (D + 3) 186 (10, [(0, zi (hrR m 86)), (1, zi 48), (2, zi 57)], [], m) _ (And.intro (z_b01L rfl) (hT.1 [(83, [0, 3, 4])] 6 (D + 4) 211 _ _ (And.intro (fun a83 => (z_litF a83 rfl).elim) (fun _ => (o48 (Classical.byContradiction a2) a5 (Classical.byContradiction a9) a11 a14 a30))))))))))))) (fun a12 => (hT.1 [(83, [0, 3, 4])] 6 (D + 4) 211 (38, [(0, zr 74), (1, zi (d : Int)), (2, zi (hrR m 86))], [zi 4, zi (d : Int)], m) _ (And.intro (fun a84 => (hT.1 [] 6 (D + 3) 186 _ _ (And.intro (fun a86 => (And.intro (z_b01L rfl) (hT.1 [(83, [0, 3, 4])] 6 (D + 4) 211 _ _ (And.intro (fun _ => (And.intro (fun a89 => (o49 (Classical.byContradiction a2) a5 (Classical.byContradiction a9) (Classical.byContradiction a12) a84 a86 a89).elim) (fun a90 => (hT.1 [(83, [0, 3, 4])] 6 (D + 4) 211 (133, [(0, zr 74), (1, zi (d : Int)), (2, zi (hrR m 86))], [zi 108, zi (hrR m 86)], m) _ (And.intro (fun a91 => (o50 (Classical.byContradiction a2) a5 (Classical.byContradiction a9) (Classical.byContradiction a12) a84 a86 a90 a91).elim) (fun a92 => (And.intro (fun a93 => (o51 (Classical.byContradiction a2) a5 (Classical.byContradiction a9) (Classical.byContradiction a12) a84 a86 a90 a92 a93).elim) (fun a94 => (hT.1 [(83, [0, 3, 4])] 6 (D + 4) 211 (145, [(0, zr 74), (1, zi (d : Int)), (2, zi (hrR m 86))], [zi 112, zi (hrR m 86)], m) _ (And.intro (fun a95 => (o52 (Classical.byContradiction a2) a5 (Classical.byContradiction a9) (Classical.byContradiction a12) a84 a86 a90 a92 a94 a95).elim) (fun a96 => (And.intro (fun a97 => (o53 (Classical.byContradiction a2) a5 (Classical.byContradiction a9) (Classical.byContradiction a12) a84 a86 a90 a92 a94 a96 a97).elim) (fun a98 => (hT.1 [(83, [0, 3, 4])] 6 (D + 4) 211 (156, [(0, zr 74), (1, zi (d : Int)), (2, zi (hrR m 86))], [zr 74, zr 74], m) _ (hT.1 [] 6 (D + 3) 200 _ _ (hT.1 [] 6 (D + 2) 199 _ _ (And.intro (fun a99 => (o54 (Classical.byContradiction a2) a5 (Classical.byContradiction a9) (Classical.byContradiction a12) a84 a86 a90 a92 a94 a96 a98 a99).elim) (fun a100 => (hT.1 [] 6 (D + 2) 199 (13, [(0, zr 74)], [zi 1], m) _ (And.intro (z_b01L rfl) (hT.1 [] 6 (D + 3) 200 _ _ (And.intro (fun a101 => (z_litF a101 rfl).elim) (fun _ => (And.intro trivial (hT.1 [(83, [0, 3, 4])] 6 (D + 4) 211 _ _ (o55 (Classical.byContradiction a2) a5 (Classical.byContradiction a9) (Classical.byContradiction a12) a84 a86 a90 a92 a94 a96 a98 (Classical.byContradiction a100))))))))))))))))))))))))))) (fun a88 => (a88 (z_litT rfl)).elim))))) (fun a87 => (o56 (Classical.byContradiction a2) a5 (Classical.byContradiction a9) (Classical.byContradiction a12) a84 a87).elim)))) (fun a85 => (hT.1 [(83, [0, 3, 4])] 6 (D + 4) 211 (48, [(0, zr 74), (1, zi (d : Int)), (2, zi (hrR m 86))], [zi ((m 74 16) + 1), zr 74], m) _ (And.intro trivial (o57 (Classical.byContradiction a2) a5 (Classical.byContradiction a9) (Classical.byContradiction a12) (Classical.byContradiction a85)))))))))))) (fun a10 => (a10 (z_litT rfl)).elim))))))))) (fun a7 => (a7 (z_litT rfl)).elim)))))))))))))))))
theorem zb211_0_86 (hT : zRules T) {D : Nat} {κ : Option zA → zM → Prop} {m : zM} {d : Nat}  (hB : zB m) (hrd : m 74 13 = 86) (h_d : d ≤ 4) (hf0 : (-1) ≤ m 74 17 ∧ m 74 17 ≤ (-1)) (hf1 : 0 ≤ m 74 16 ∧ m 74 16 ≤ 90) (hf2 : 0 ≤ m 74 15 ∧ m 74 15 ≤ 40) 
    (k1 : (hrR m 86) = 45 → zB (zu m 74 16 ((m 74 16) + 1)) → T (D + 3) 211 (0, [(0, zr 74), (1, zi (d : Int))], [], (zu m 74 16 ((m 74 16) + 1))) (fun r m1 => T (D + 4) 211 (14, [(0, zr 74), (1, zi (d : Int))], r.toList ++ [], m1) κ))
    (k2 : ¬ (hrR m 86) = 45 → ¬ (hrR m 86) = 40 → (hrR m 86) < 48 → zB (zu m 74 17 (m 74 16)) → κ (some (zi 0)) (zu m 74 17 (m 74 16)))
    (k3 : ¬ (hrR m 86) = 45 → ¬ (hrR m 86) = 40 → ¬ (hrR m 86) < 48 → 57 < (hrR m 86) → (hrR m 86) = 104 → ¬ (m 74 26) = 0 → zB (zu m 74 16 ((m 74 16) + 1)) → κ (some (zi (wr (m 74 28)))) (zu m 74 16 ((m 74 16) + 1)))
    (k4 : ¬ (hrR m 86) = 45 → ¬ (hrR m 86) = 40 → ¬ (hrR m 86) < 48 → 57 < (hrR m 86) → (hrR m 86) = 104 → (m 74 26) = 0 → zB (zu m 74 16 ((m 74 16) + 1)) → κ (some (zi 0)) (zu m 74 16 ((m 74 16) + 1)))
    (k5 : ¬ (hrR m 86) = 45 → ¬ (hrR m 86) = 40 → ¬ (hrR m 86) < 48 → 57 < (hrR m 86) → ¬ (hrR m 86) = 104 → (hrR m 86) = 108 → ¬ (m 74 26) = 0 → (0 ≤ wr (m 74 29) ∧ wr (m 74 29) < 4))
    (k6 : ¬ (hrR m 86) = 45 → ¬ (hrR m 86) = 40 → ¬ (hrR m 86) < 48 → 57 < (hrR m 86) → ¬ (hrR m 86) = 104 → (hrR m 86) = 108 → ¬ (m 74 26) = 0 → ¬ (m 77 ((wr (m 74 29)).toNat)) = 0)
    (k7 : ¬ (hrR m 86) = 45 → ¬ (hrR m 86) = 40 → ¬ (hrR m 86) < 48 → 57 < (hrR m 86) → ¬ (hrR m 86) = 104 → (hrR m 86) = 108 → ¬ (m 74 26) = 0 → (0 ≤ wr ((26 * (m 74 29)) + (Int.tmod (wr (m 74 30)) (m 77 ((wr (m 74 29)).toNat)))) ∧ wr ((26 * (m 74 29)) + (Int.tmod (wr (m 74 30)) (m 77 ((wr (m 74 29)).toNat)))) < 104))
    (k8 : ¬ (hrR m 86) = 45 → ¬ (hrR m 86) = 40 → ¬ (hrR m 86) < 48 → 57 < (hrR m 86) → ¬ (hrR m 86) = 104 → (hrR m 86) = 108 → ¬ (m 74 26) = 0 → zB (zu m 74 16 ((m 74 16) + 1)) → κ (some (zi (m 76 ((wr ((26 * (m 74 29)) + (Int.tmod (wr (m 74 30)) (m 77 ((wr (m 74 29)).toNat))))).toNat)))) (zu m 74 16 ((m 74 16) + 1)))
    (k9 : ¬ (hrR m 86) = 45 → ¬ (hrR m 86) = 40 → ¬ (hrR m 86) < 48 → 57 < (hrR m 86) → ¬ (hrR m 86) = 104 → (hrR m 86) = 108 → (m 74 26) = 0 → zB (zu m 74 16 ((m 74 16) + 1)) → κ (some (zi 0)) (zu m 74 16 ((m 74 16) + 1)))
    (k10 : ¬ (hrR m 86) = 45 → ¬ (hrR m 86) = 40 → ¬ (hrR m 86) < 48 → 57 < (hrR m 86) → ¬ (hrR m 86) = 104 → ¬ (hrR m 86) = 108 → (hrR m 86) = 119 → ¬ (m 74 26) = 0 → zB (zu m 74 16 ((m 74 16) + 1)) → κ (some (zi (wr (m 74 30)))) (zu m 74 16 ((m 74 16) + 1)))
    (k11 : ¬ (hrR m 86) = 45 → ¬ (hrR m 86) = 40 → ¬ (hrR m 86) < 48 → 57 < (hrR m 86) → ¬ (hrR m 86) = 104 → ¬ (hrR m 86) = 108 → (hrR m 86) = 119 → (m 74 26) = 0 → zB (zu m 74 16 ((m 74 16) + 1)) → κ (some (zi 0)) (zu m 74 16 ((m 74 16) + 1)))
    (k12 : ¬ (hrR m 86) = 45 → ¬ (hrR m 86) = 40 → ¬ (hrR m 86) < 48 → 57 < (hrR m 86) → ¬ (hrR m 86) = 104 → ¬ (hrR m 86) = 108 → ¬ (hrR m 86) = 119 → (hrR m 86) = 112 → ¬ (m 74 26) = 0 → zB (zu m 74 16 ((m 74 16) + 1)) → κ (some (zi (wr (m 74 29)))) (zu m 74 16 ((m 74 16) + 1)))
    (k13 : ¬ (hrR m 86) = 45 → ¬ (hrR m 86) = 40 → ¬ (hrR m 86) < 48 → 57 < (hrR m 86) → ¬ (hrR m 86) = 104 → ¬ (hrR m 86) = 108 → ¬ (hrR m 86) = 119 → (hrR m 86) = 112 → (m 74 26) = 0 → zB (zu m 74 16 ((m 74 16) + 1)) → κ (some (zi 0)) (zu m 74 16 ((m 74 16) + 1)))
    (k14 : ¬ (hrR m 86) = 45 → ¬ (hrR m 86) = 40 → ¬ (hrR m 86) < 48 → 57 < (hrR m 86) → ¬ (hrR m 86) = 104 → ¬ (hrR m 86) = 108 → ¬ (hrR m 86) = 119 → ¬ (hrR m 86) = 112 → (hrR m 86) = 105 → ¬ (m 74 26) = 0 → zB (zu m 74 16 ((m 74 16) + 1)) → κ (some (zi (wr (m 74 27)))) (zu m 74 16 ((m 74 16) + 1)))
    (k15 : ¬ (hrR m 86) = 45 → ¬ (hrR m 86) = 40 → ¬ (hrR m 86) < 48 → 57 < (hrR m 86) → ¬ (hrR m 86) = 104 → ¬ (hrR m 86) = 108 → ¬ (hrR m 86) = 119 → ¬ (hrR m 86) = 112 → (hrR m 86) = 105 → (m 74 26) = 0 → zB (zu m 74 16 ((m 74 16) + 1)) → κ (some (zi 0)) (zu m 74 16 ((m 74 16) + 1)))
    (k16 : ¬ (hrR m 86) = 45 → ¬ (hrR m 86) = 40 → ¬ (hrR m 86) < 48 → 57 < (hrR m 86) → ¬ (hrR m 86) = 104 → ¬ (hrR m 86) = 108 → ¬ (hrR m 86) = 119 → ¬ (hrR m 86) = 112 → ¬ (hrR m 86) = 105 → zB (zu m 74 17 (m 74 16)) → κ (some (zi 0)) (zu m 74 17 (m 74 16)))
    (k17 : ¬ (hrR m 86) = 45 → ¬ (hrR m 86) = 40 → ¬ (hrR m 86) < 48 → ¬ 57 < (hrR m 86) → T (D + 4) 211 (83, [(0, zr 74), (3, zi 0), (4, zi 0)], [], m) κ)
    (k18 : ¬ (hrR m 86) = 45 → (hrR m 86) = 40 → ¬ (d : Int) < 4 → zB (zu m 74 17 (m 74 16)) → κ (some (zi 0)) (zu m 74 17 (m 74 16)))
    (k19 : ¬ (hrR m 86) = 45 → (hrR m 86) = 40 → (d : Int) < 4 → zB (zu m 74 16 ((m 74 16) + 1)) → T (D + 3) 208 (0, [(0, zr 74), (1, zi ((d : Int) + 1))], [], (zu m 74 16 ((m 74 16) + 1))) (fun r m1 => T (D + 4) 211 (58, [(0, zr 74), (1, zi (d : Int)), (2, zi (hrR m 86))], r.toList ++ [], m1) κ)) :
    T (D + 4) 211 (0, [(0, zr 74), (1, zi (d : Int))], [], m) κ := by
  have hb4 : 0 ≤ (m 74 14) ∧ (m 74 14) ≤ 80 := hB 74 14
  have hb5 : (-1) ≤ (hrR m 86) ∧ (hrR m 86) ≤ 255 := hrRB m 86
  have hb6 : 0 ≤ (m 74 26) ∧ (m 74 26) ≤ 1 := hB 74 26
  have hb7 : (-2147483648) ≤ wr (m 74 28) ∧ wr (m 74 28) ≤ 2147483647 := wrB (m 74 28)
  have hb8 : (-2147483648) ≤ wr (m 74 29) ∧ wr (m 74 29) ≤ 2147483647 := wrB (m 74 29)
  have hb9 : 0 ≤ (m 77 ((wr (m 74 29)).toNat)) ∧ (m 77 ((wr (m 74 29)).toNat)) ≤ 26 := hB 77 ((wr (m 74 29)).toNat)
  have hb10 : (-2147483648) ≤ wr (m 74 30) ∧ wr (m 74 30) ≤ 2147483647 := wrB (m 74 30)
  have hb11 : (-2147483648) ≤ wr ((26 * (m 74 29)) + (Int.tmod (wr (m 74 30)) (m 77 ((wr (m 74 29)).toNat)))) ∧ wr ((26 * (m 74 29)) + (Int.tmod (wr (m 74 30)) (m 77 ((wr (m 74 29)).toNat)))) ≤ 2147483647 := wrB ((26 * (m 74 29)) + (Int.tmod (wr (m 74 30)) (m 77 ((wr (m 74 29)).toNat))))
  have hb12 : 0 ≤ (m 76 ((wr ((26 * (m 74 29)) + (Int.tmod (wr (m 74 30)) (m 77 ((wr (m 74 29)).toNat))))).toNat)) ∧ (m 76 ((wr ((26 * (m 74 29)) + (Int.tmod (wr (m 74 30)) (m 77 ((wr (m 74 29)).toNat))))).toNat)) ≤ 9 := hB 76 ((wr ((26 * (m 74 29)) + (Int.tmod (wr (m 74 30)) (m 77 ((wr (m 74 29)).toNat))))).toNat)
  have hb13 : (-2147483648) ≤ wr (m 74 27) ∧ wr (m 74 27) ≤ 2147483647 := wrB (m 74 27)
  have he0 : wr (m 74 17) = (m 74 17) := wr_id (by omega) (by omega)
  have he1 : wr (hrR m 86) = (hrR m 86) := wr_id (by omega) (by omega)
  have he2 : wr (d : Int) = (d : Int) := wr_id (by omega) (by omega)
  have he3 : wr (m 74 26) = (m 74 26) := wr_id (by omega) (by omega)
  have he4 : wr (m 77 ((wr (m 74 29)).toNat)) = (m 77 ((wr (m 74 29)).toNat)) := wr_id (by omega) (by omega)
  have he5 : wr (m 76 ((wr ((26 * (m 74 29)) + (Int.tmod (wr (m 74 30)) (m 77 ((wr (m 74 29)).toNat))))).toNat)) = (m 76 ((wr ((26 * (m 74 29)) + (Int.tmod (wr (m 74 30)) (m 77 ((wr (m 74 29)).toNat))))).toNat)) := wr_id (by omega) (by omega)
  have key := @zb211_0_86r T hT D κ m d
  simp only [he0, he1, he2, he3, he4, he5, Int.toNat_natCast] at key
  exact key
    (fun x0 => by omega)
    (fun x0 => hrd)
    (fun x0 => by refine ⟨?_, ?_⟩ <;> omega)
    (fun x0 => by refine ⟨?_, ?_⟩ <;> omega)
    (fun x0 => by refine ⟨?_, ?_⟩ <;> omega)
    (fun x0 x1 => k1 x1 (zB_u hB (show 0 ≤ ((m 74 16) + 1) ∧ ((m 74 16) + 1) ≤ 100 from ⟨by omega, by omega⟩)))
    (fun x0 x1 x2 => by omega)
    (fun x0 x1 x2 => hrd)
    (fun x0 x1 x2 => by refine ⟨?_, ?_⟩ <;> omega)
    (fun x0 x1 x2 => by refine ⟨?_, ?_⟩ <;> omega)
    (fun x0 x1 x2 => by refine ⟨?_, ?_⟩ <;> omega)
    (fun x0 x1 x2 x3 x4 x5 => by omega)
    (fun x0 x1 x2 x3 x4 x5 x6 => by omega)
    (fun x0 x1 x2 x3 x4 x5 x6 x7 => by omega)
    (fun x0 x1 x2 x3 x4 x5 x6 x7 x8 => by omega)
    (fun x0 x1 x2 x3 x4 x5 x6 x7 x8 x9 => by omega)
    (fun x0 x1 x2 x3 x4 x5 x6 x7 x8 x9 x10 => by omega)
    (fun x0 x1 x2 x3 x4 x5 x6 x7 x8 x9 x10 => k2 x1 x3 x4 (zB_u hB trivial))
    (fun x0 x1 x2 x3 x4 x5 x6 x7 x8 => by omega)
    (fun x0 x1 x2 x3 x4 x5 x6 x7 x8 => k3 x1 x3 x4 x5 x6 x7 (zB_u hB (show 0 ≤ ((m 74 16) + 1) ∧ ((m 74 16) + 1) ≤ 100 from ⟨by omega, by omega⟩)))
    (fun x0 x1 x2 x3 x4 x5 x6 x7 => k4 x1 x3 x4 x5 x6 x7 (zB_u hB (show 0 ≤ ((m 74 16) + 1) ∧ ((m 74 16) + 1) ≤ 100 from ⟨by omega, by omega⟩)))
    (fun x0 x1 x2 x3 x4 x5 x6 x7 x8 x9 x10 => by omega)
    (fun x0 x1 x2 x3 x4 x5 x6 x7 x8 x9 x10 => k5 x1 x3 x4 x5 x6 x7 x8)
    (fun x0 x1 x2 x3 x4 x5 x6 x7 x8 x9 x10 => k6 x1 x3 x4 x5 x6 x7 x8)
    (fun x0 x1 x2 x3 x4 x5 x6 x7 x8 x9 x10 => k7 x1 x3 x4 x5 x6 x7 x8)
    (fun x0 x1 x2 x3 x4 x5 x6 x7 x8 x9 x10 => k8 x1 x3 x4 x5 x6 x7 x8 (zB_u hB (show 0 ≤ ((m 74 16) + 1) ∧ ((m 74 16) + 1) ≤ 100 from ⟨by omega, by omega⟩)))
    (fun x0 x1 x2 x3 x4 x5 x6 x7 x8 x9 => by omega)
    (fun x0 x1 x2 x3 x4 x5 x6 x7 x8 => k9 x1 x3 x4 x5 x6 x7 x8 (zB_u hB (show 0 ≤ ((m 74 16) + 1) ∧ ((m 74 16) + 1) ≤ 100 from ⟨by omega, by omega⟩)))
    (fun x0 x1 x2 x3 x4 x5 x6 x7 x8 x9 x10 x11 x12 => by omega)
    (fun x0 x1 x2 x3 x4 x5 x6 x7 x8 x9 x10 x11 x12 => k10 x1 x3 x4 x5 x6 x7 x8 x9 (zB_u hB (show 0 ≤ ((m 74 16) + 1) ∧ ((m 74 16) + 1) ≤ 100 from ⟨by omega, by omega⟩)))
    (fun x0 x1 x2 x3 x4 x5 x6 x7 x8 x9 x10 x11 => by omega)
    (fun x0 x1 x2 x3 x4 x5 x6 x7 x8 x9 x10 => by omega)
    (fun x0 x1 x2 x3 x4 x5 x6 x7 x8 x9 => k11 x1 x3 x4 x5 x6 x7 x8 x9 (zB_u hB (show 0 ≤ ((m 74 16) + 1) ∧ ((m 74 16) + 1) ≤ 100 from ⟨by omega, by omega⟩)))
    (fun x0 x1 x2 x3 x4 x5 x6 x7 x8 x9 x10 x11 x12 x13 x14 => by omega)
    (fun x0 x1 x2 x3 x4 x5 x6 x7 x8 x9 x10 x11 x12 x13 x14 => k12 x1 x3 x4 x5 x6 x7 x8 x9 x10 (zB_u hB (show 0 ≤ ((m 74 16) + 1) ∧ ((m 74 16) + 1) ≤ 100 from ⟨by omega, by omega⟩)))
    (fun x0 x1 x2 x3 x4 x5 x6 x7 x8 x9 x10 x11 x12 x13 => by omega)
    (fun x0 x1 x2 x3 x4 x5 x6 x7 x8 x9 x10 x11 x12 => by omega)
    (fun x0 x1 x2 x3 x4 x5 x6 x7 x8 x9 x10 x11 => by omega)
    (fun x0 x1 x2 x3 x4 x5 x6 x7 x8 x9 x10 => k13 x1 x3 x4 x5 x6 x7 x8 x9 x10 (zB_u hB (show 0 ≤ ((m 74 16) + 1) ∧ ((m 74 16) + 1) ≤ 100 from ⟨by omega, by omega⟩)))
    (fun x0 x1 x2 x3 x4 x5 x6 x7 x8 x9 x10 x11 x12 x13 x14 x15 => k14 x1 x3 x4 x5 x6 x7 x8 x9 x10 x11 (zB_u hB (show 0 ≤ ((m 74 16) + 1) ∧ ((m 74 16) + 1) ≤ 100 from ⟨by omega, by omega⟩)))
    (fun x0 x1 x2 x3 x4 x5 x6 x7 x8 x9 x10 x11 x12 x13 x14 x15 => by omega)
    (fun x0 x1 x2 x3 x4 x5 x6 x7 x8 x9 x10 x11 x12 x13 x14 => by omega)
    (fun x0 x1 x2 x3 x4 x5 x6 x7 x8 x9 x10 x11 x12 x13 => by omega)
    (fun x0 x1 x2 x3 x4 x5 x6 x7 x8 x9 x10 x11 x12 => by omega)
    (fun x0 x1 x2 x3 x4 x5 x6 x7 x8 x9 x10 x11 => k15 x1 x3 x4 x5 x6 x7 x8 x9 x10 x11 (zB_u hB (show 0 ≤ ((m 74 16) + 1) ∧ ((m 74 16) + 1) ≤ 100 from ⟨by omega, by omega⟩)))
    (fun x0 x1 x2 x3 x4 x5 x6 x7 x8 x9 x10 x11 => by omega)
    (fun x0 x1 x2 x3 x4 x5 x6 x7 x8 x9 x10 x11 => k16 x1 x3 x4 x5 x6 x7 x8 x9 x10 (zB_u hB trivial))
    (fun x0 x1 x2 x3 x4 x5 => k17 x1 x3 x4 x5)
    (fun x0 x1 x2 x3 x4 x5 x6 => by omega)
    (fun x0 x1 x2 x3 x4 x5 x6 x7 => by omega)
    (fun x0 x1 x2 x3 x4 x5 x6 x7 x8 => by omega)
    (fun x0 x1 x2 x3 x4 x5 x6 x7 x8 x9 => by omega)
    (fun x0 x1 x2 x3 x4 x5 x6 x7 x8 x9 x10 => by omega)
    (fun x0 x1 x2 x3 x4 x5 x6 x7 x8 x9 x10 x11 => by omega)
    (fun x0 x1 x2 x3 x4 x5 x6 x7 x8 x9 x10 x11 => k18 x1 x3 x4 (zB_u hB trivial))
    (fun x0 x1 x2 x3 x4 x5 => by omega)
    (fun x0 x1 x2 x3 x4 => k19 x1 x3 x4 (zB_u hB (show 0 ≤ ((m 74 16) + 1) ∧ ((m 74 16) + 1) ≤ 100 from ⟨by omega, by omega⟩)))
theorem zb211_14_86r (hT : zRules T) {D : Nat} {κ : Option zA → zM → Prop} {m : zM} {v : Int} {lo : zL} (hlo : z_keep [] lo = []) 
    (o1 : κ (some (zi (wr (-v)))) m) :
    T (D + 4) 211 (14, lo, [zi v], m) κ :=
  zkeep hT hlo (hT.1 [(83, [0, 3, 4])] 6 (D + 4) 211 _ κ (o1))
theorem zb211_14_86 (hT : zRules T) {D : Nat} {κ : Option zA → zM → Prop} {m : zM} {v : Int} {lo : zL} (hlo : z_keep [] lo = [])  
    (k1 : κ (some (zi (wr (-v)))) m) :
    T (D + 4) 211 (14, lo, [zi v], m) κ := by
  have hb0 : (-2147483648) ≤ wr (-v) ∧ wr (-v) ≤ 2147483647 := wrB (-v)
  exact zb211_14_86r hT hlo
    k1
theorem zb211_58_86r (hT : zRules T) {D : Nat} {κ : Option zA → zM → Prop} {m : zM} {v : Int} {lo : zL} (hlo : z_keep [0] lo = [(0, zr 74)]) 
    (o1 : ¬ wr (m 74 17) = (-1) → False)
    (o2 : wr (m 74 17) = (-1) → (m 74 13) = 86)
    (o3 : wr (m 74 17) = (-1) → (0 ≤ (m 74 16) ∧ (m 74 16) ≤ 1000))
    (o4 : wr (m 74 17) = (-1) → (0 ≤ (m 74 14) ∧ (m 74 14) ≤ 80))
    (o5 : wr (m 74 17) = (-1) → (0 ≤ (m 74 15) ∧ (m 74 15) ≤ 40))
    (o6 : wr (m 74 17) = (-1) → wr (hrR m 86) = 41 → κ (some (zi (wr v))) (zu m 74 16 ((m 74 16) + 1)))
    (o7 : wr (m 74 17) = (-1) → ¬ wr (hrR m 86) = 41 → ¬ wr (m 74 17) = (-1) → False)
    (o8 : wr (m 74 17) = (-1) → ¬ wr (hrR m 86) = 41 → wr (m 74 17) = (-1) → κ (some (zi (wr v))) (zu m 74 17 (m 74 16))) :
    T (D + 4) 211 (58, lo, [zi v], m) κ :=
  zkeep hT hlo (hT.1 [(83, [0, 3, 4])] 6 (D + 4) 211 _ κ (hT.1 [] 6 (D + 3) 202 _ _ (hT.1 [] 6 (D + 2) 201 _ _ (hT.1 [] 6 (D + 1) 199 _ _ (And.intro (fun a1 => (o1 a1).elim) (fun a2 => (hT.1 [] 6 (D + 1) 199 (13, [(0, zr 74)], [zi 1], m) _ (And.intro (z_b01L rfl) (hT.1 [] 6 (D + 2) 201 _ _ (And.intro (fun a3 => (z_litF a3 rfl).elim) (fun _ => (z_here86 hT (o2 (Classical.byContradiction a2)) (o3 (Classical.byContradiction a2)) (o4 (Classical.byContradiction a2)) (o5 (Classical.byContradiction a2)) (hT.1 [] 6 (D + 2) 201 _ _ (And.intro (fun a4 => (hT.1 [] 6 (D + 2) 201 (23, [(0, zr 74), (1, zi 41)], [zi 1, zi (m 74 16), zr 74], m) _ (And.intro trivial (And.intro (z_b01L rfl) (hT.1 [] 6 (D + 3) 202 _ _ (And.intro (fun _ => (hT.1 [(83, [0, 3, 4])] 6 (D + 4) 211 _ _ (o6 (Classical.byContradiction a2) a4))) (fun a6 => (a6 (z_litT rfl)).elim))))))) (fun a5 => (And.intro (z_b01L rfl) (hT.1 [] 6 (D + 3) 202 _ _ (And.intro (fun a7 => (z_litF a7 rfl).elim) (fun _ => (hT.1 [] 6 (D + 2) 200 _ _ (hT.1 [] 6 (D + 1) 199 _ _ (And.intro (fun a8 => (o7 (Classical.byContradiction a2) a5 a8).elim) (fun a9 => (hT.1 [] 6 (D + 1) 199 (13, [(0, zr 74)], [zi 1], m) _ (And.intro (z_b01L rfl) (hT.1 [] 6 (D + 2) 200 _ _ (And.intro (fun a10 => (z_litF a10 rfl).elim) (fun _ => (And.intro trivial (hT.1 [] 6 (D + 3) 202 _ _ (hT.1 [(83, [0, 3, 4])] 6 (D + 4) 211 _ _ (o8 (Classical.byContradiction a2) a5 (Classical.byContradiction a9)))))))))))))))))))))))))))))))))
theorem zb211_58_86 (hT : zRules T) {D : Nat} {κ : Option zA → zM → Prop} {m : zM} {v : Int} {lo : zL} (hlo : z_keep [0] lo = [(0, zr 74)])  (hB : zB m) (hrd : m 74 13 = 86) (hf0 : (-1) ≤ m 74 17 ∧ m 74 17 ≤ (-1)) (hf1 : 0 ≤ m 74 16 ∧ m 74 16 ≤ 90) (hf2 : 0 ≤ m 74 15 ∧ m 74 15 ≤ 40) 
    (k1 : (hrR m 86) = 41 → zB (zu m 74 16 ((m 74 16) + 1)) → κ (some (zi (wr v))) (zu m 74 16 ((m 74 16) + 1)))
    (k2 : ¬ (hrR m 86) = 41 → zB (zu m 74 17 (m 74 16)) → κ (some (zi (wr v))) (zu m 74 17 (m 74 16))) :
    T (D + 4) 211 (58, lo, [zi v], m) κ := by
  have hb3 : 0 ≤ (m 74 14) ∧ (m 74 14) ≤ 80 := hB 74 14
  have hb4 : (-1) ≤ (hrR m 86) ∧ (hrR m 86) ≤ 255 := hrRB m 86
  have hb5 : (-2147483648) ≤ wr v ∧ wr v ≤ 2147483647 := wrB v
  have he0 : wr (m 74 17) = (m 74 17) := wr_id (by omega) (by omega)
  have he1 : wr (hrR m 86) = (hrR m 86) := wr_id (by omega) (by omega)
  have key := @zb211_58_86r T hT D κ m v lo hlo
  simp only [he0, he1, Int.toNat_natCast] at key
  exact key
    (fun x0 => by omega)
    (fun x0 => hrd)
    (fun x0 => by refine ⟨?_, ?_⟩ <;> omega)
    (fun x0 => by refine ⟨?_, ?_⟩ <;> omega)
    (fun x0 => by refine ⟨?_, ?_⟩ <;> omega)
    (fun x0 x1 => k1 x1 (zB_u hB (show 0 ≤ ((m 74 16) + 1) ∧ ((m 74 16) + 1) ≤ 100 from ⟨by omega, by omega⟩)))
    (fun x0 x1 x2 => by omega)
    (fun x0 x1 x2 => k2 x1 (zB_u hB trivial))
theorem zb211_58_86fr (hT : zRules T) {D : Nat} {κ : Option zA → zM → Prop} {m : zM} {v : Int} {lo : zL} (hlo : z_keep [0] lo = [(0, zr 74)]) 
    (o1 : ¬ wr (m 74 17) = (-1) → ¬ wr (m 74 17) = (-1) → κ (some (zi (wr v))) m)
    (o2 : ¬ wr (m 74 17) = (-1) → wr (m 74 17) = (-1) → False)
    (o3 : wr (m 74 17) = (-1) → False) :
    T (D + 4) 211 (58, lo, [zi v], m) κ :=
  zkeep hT hlo (hT.1 [(83, [0, 3, 4])] 6 (D + 4) 211 _ κ (hT.1 [] 6 (D + 3) 202 _ _ (hT.1 [] 6 (D + 2) 201 _ _ (hT.1 [] 6 (D + 1) 199 _ _ (And.intro (fun a1 => (And.intro (z_b01L rfl) (hT.1 [] 6 (D + 2) 201 _ _ (And.intro (fun _ => (And.intro (z_b01L rfl) (hT.1 [] 6 (D + 3) 202 _ _ (And.intro (fun a4 => (z_litF a4 rfl).elim) (fun _ => (hT.1 [] 6 (D + 2) 200 _ _ (hT.1 [] 6 (D + 1) 199 _ _ (And.intro (fun a5 => (And.intro (z_b01L rfl) (hT.1 [] 6 (D + 2) 200 _ _ (And.intro (fun _ => (hT.1 [] 6 (D + 3) 202 _ _ (hT.1 [(83, [0, 3, 4])] 6 (D + 4) 211 _ _ (o1 a1 a5)))) (fun a7 => (a7 (z_litT rfl)).elim))))) (fun a6 => (o2 a1 (Classical.byContradiction a6)).elim))))))))) (fun a3 => (a3 (z_litT rfl)).elim))))) (fun a2 => (o3 (Classical.byContradiction a2)).elim))))))
theorem zb211_58_86f (hT : zRules T) {D : Nat} {κ : Option zA → zM → Prop} {m : zM} {v : Int} {lo : zL} (hlo : z_keep [0] lo = [(0, zr 74)])  (hB : zB m) (hrd : m 74 13 = 86) (hf0 : 0 ≤ m 74 17 ∧ m 74 17 ≤ 100) 
    (k1 : κ (some (zi (wr v))) m) :
    T (D + 4) 211 (58, lo, [zi v], m) κ := by
  have hb1 : 0 ≤ (m 74 16) ∧ (m 74 16) ≤ 100 := hB 74 16
  have hb2 : (-2147483648) ≤ wr v ∧ wr v ≤ 2147483647 := wrB v
  have he0 : wr (m 74 17) = (m 74 17) := wr_id (by omega) (by omega)
  have key := @zb211_58_86fr T hT D κ m v lo hlo
  simp only [he0, Int.toNat_natCast] at key
  exact key
    (fun x0 x1 => k1 )
    (fun x0 x1 => by omega)
    (fun x0 => by omega)
theorem zb211_83_86r (hT : zRules T) {D : Nat} {κ : Option zA → zM → Prop} {m : zM} {v : Int} {k : Nat} {lo : zL} (hlo : z_keep [0, 3, 4] lo = [(0, zr 74), (3, zi v), (4, zi (k : Int))]) 
    (o1 : ¬ wr (k : Int) < 3 → κ (some (zi (wr v))) m)
    (o2 : wr (k : Int) < 3 → (m 74 13) = 86)
    (o3 : wr (k : Int) < 3 → (0 ≤ (m 74 16) ∧ (m 74 16) ≤ 1000))
    (o4 : wr (k : Int) < 3 → (0 ≤ (m 74 14) ∧ (m 74 14) ≤ 80))
    (o5 : wr (k : Int) < 3 → (0 ≤ (m 74 15) ∧ (m 74 15) ≤ 40))
    (o6 : wr (k : Int) < 3 → wr (hrR m 86) < 48 → κ (some (zi (wr v))) m)
    (o7 : wr (k : Int) < 3 → ¬ wr (hrR m 86) < 48 → 57 < wr (hrR m 86) → κ (some (zi (wr v))) m)
    (o8 : wr (k : Int) < 3 → ¬ wr (hrR m 86) < 48 → ¬ 57 < wr (hrR m 86) → ¬ wr (m 74 17) = (-1) → False)
    (o9 : wr (k : Int) < 3 → ¬ wr (hrR m 86) < 48 → ¬ 57 < wr (hrR m 86) → wr (m 74 17) = (-1) → (m 74 13) = 86)
    (o10 : wr (k : Int) < 3 → ¬ wr (hrR m 86) < 48 → ¬ 57 < wr (hrR m 86) → wr (m 74 17) = (-1) → (0 ≤ (m 74 16) ∧ (m 74 16) ≤ 1000))
    (o11 : wr (k : Int) < 3 → ¬ wr (hrR m 86) < 48 → ¬ 57 < wr (hrR m 86) → wr (m 74 17) = (-1) → (0 ≤ (m 74 14) ∧ (m 74 14) ≤ 80))
    (o12 : wr (k : Int) < 3 → ¬ wr (hrR m 86) < 48 → ¬ 57 < wr (hrR m 86) → wr (m 74 17) = (-1) → (0 ≤ (m 74 15) ∧ (m 74 15) ≤ 40))
    (o13 : wr (k : Int) < 3 → ¬ wr (hrR m 86) < 48 → ¬ 57 < wr (hrR m 86) → wr (m 74 17) = (-1) → wr (hrR m 86) < 48 → False)
    (o14 : wr (k : Int) < 3 → ¬ wr (hrR m 86) < 48 → ¬ 57 < wr (hrR m 86) → wr (m 74 17) = (-1) → ¬ wr (hrR m 86) < 48 → 57 < wr (hrR m 86) → False)
    (o15 : wr (k : Int) < 3 → ¬ wr (hrR m 86) < 48 → ¬ 57 < wr (hrR m 86) → wr (m 74 17) = (-1) → ¬ wr (hrR m 86) < 48 → ¬ 57 < wr (hrR m 86) → (m 74 13) = 86)
    (o16 : wr (k : Int) < 3 → ¬ wr (hrR m 86) < 48 → ¬ 57 < wr (hrR m 86) → wr (m 74 17) = (-1) → ¬ wr (hrR m 86) < 48 → ¬ 57 < wr (hrR m 86) → (0 ≤ wr (((m 74 16) + 1) - 1) ∧ wr (((m 74 16) + 1) - 1) < 40))
    (o17 : wr (k : Int) < 3 → ¬ wr (hrR m 86) < 48 → ¬ 57 < wr (hrR m 86) → wr (m 74 17) = (-1) → ¬ wr (hrR m 86) < 48 → ¬ 57 < wr (hrR m 86) → T (D + 4) 211 (83, [(0, zr 74), (3, zi ((10 * v) + wr ((m 86 ((wr (((m 74 16) + 1) - 1)).toNat)) - 48))), (4, zi ((k : Int) + 1))], [], (zu m 74 16 ((m 74 16) + 1))) κ) :
    T (D + 4) 211 (83, lo, [], m) κ :=
  zkeep hT hlo (hT.1 [(83, [0, 3, 4])] 6 (D + 4) 211 _ κ (And.intro (fun a1 => (o1 a1)) (fun a2 => (z_here86 hT (o2 (Classical.byContradiction a2)) (o3 (Classical.byContradiction a2)) (o4 (Classical.byContradiction a2)) (o5 (Classical.byContradiction a2)) (hT.1 [(83, [0, 3, 4])] 6 (D + 4) 211 _ _ (hT.1 [] 6 (D + 3) 186 _ _ (And.intro (fun a3 => (And.intro (z_b01L rfl) (hT.1 [(83, [0, 3, 4])] 6 (D + 4) 211 _ _ (And.intro (fun _ => (o6 (Classical.byContradiction a2) a3)) (fun a5 => (a5 (z_litT rfl)).elim))))) (fun a4 => (And.intro (fun a6 => (hT.1 [] 6 (D + 3) 186 (14, [(0, zi (hrR m 86)), (1, zi 48), (2, zi 57)], [], m) _ (And.intro (z_b01L rfl) (hT.1 [(83, [0, 3, 4])] 6 (D + 4) 211 _ _ (And.intro (fun _ => (o7 (Classical.byContradiction a2) a4 a6)) (fun a8 => (a8 (z_litT rfl)).elim)))))) (fun a7 => (hT.1 [] 6 (D + 3) 186 (10, [(0, zi (hrR m 86)), (1, zi 48), (2, zi 57)], [], m) _ (And.intro (z_b01L rfl) (hT.1 [(83, [0, 3, 4])] 6 (D + 4) 211 _ _ (And.intro (fun a9 => (z_litF a9 rfl).elim) (fun _ => (hT.1 [(83, [0, 3, 4])] 6 (D + 4) 211 (109, [(0, zr 74), (3, zi v), (4, zi (k : Int))], [zi 0, zr 74, zi (10 * v)], m) _ (hT.1 [] 6 (D + 3) 203 _ _ (hT.1 [] 6 (D + 2) 199 _ _ (And.intro (fun a10 => (o8 (Classical.byContradiction a2) a4 a7 a10).elim) (fun a11 => (hT.1 [] 6 (D + 2) 199 (13, [(0, zr 74)], [zi 1], m) _ (And.intro (z_b01L rfl) (hT.1 [] 6 (D + 3) 203 _ _ (And.intro (fun _ => (z_here86 hT (o9 (Classical.byContradiction a2) a4 a7 (Classical.byContradiction a11)) (o10 (Classical.byContradiction a2) a4 a7 (Classical.byContradiction a11)) (o11 (Classical.byContradiction a2) a4 a7 (Classical.byContradiction a11)) (o12 (Classical.byContradiction a2) a4 a7 (Classical.byContradiction a11)) (hT.1 [] 6 (D + 3) 203 _ _ (hT.1 [] 6 (D + 3) 203 (21, [(0, zr 74), (1, zi 0), (2, zi 9)], [zi 57, zi 48, zi (hrR m 86)], m) _ (hT.1 [] 6 (D + 2) 186 _ _ (And.intro (fun a13 => (o13 (Classical.byContradiction a2) a4 a7 (Classical.byContradiction a11) a13).elim) (fun a14 => (And.intro (fun a15 => (o14 (Classical.byContradiction a2) a4 a7 (Classical.byContradiction a11) a14 a15).elim) (fun a16 => (hT.1 [] 6 (D + 2) 186 (10, [(0, zi (hrR m 86)), (1, zi 48), (2, zi 57)], [], m) _ (And.intro (z_b01L rfl) (hT.1 [] 6 (D + 3) 203 _ _ (And.intro (fun _ => (hT.1 [] 6 (D + 3) 203 (44, [(0, zr 74), (1, zi 0), (2, zi 9)], [zi ((m 74 16) + 1), zr 74], m) _ (And.intro trivial (And.intro (Or.inr (o15 (Classical.byContradiction a2) a4 a7 (Classical.byContradiction a11) a14 a16)) (And.intro (fun a18 => (z_n8086 a18 (o15 (Classical.byContradiction a2) a4 a7 (Classical.byContradiction a11) a14 a16)).elim) (fun _ => (hT.1 [] 6 (D + 3) 203 (56, [(0, zr 74), (1, zi 0), (2, zi 9)], [zi 1, zi ((m 74 16) + 1), zr 86], (zu m 74 16 ((m 74 16) + 1))) _ (And.intro (o16 (Classical.byContradiction a2) a4 a7 (Classical.byContradiction a11) a14 a16) (hT.1 [(83, [0, 3, 4])] 6 (D + 4) 211 _ _ (o17 (Classical.byContradiction a2) a4 a7 (Classical.byContradiction a11) a14 a16)))))))))) (fun a17 => (a17 (z_litT rfl)).elim)))))))))))))) (fun a12 => (a12 (z_litT rfl)).elim)))))))))))))))))))))))))
theorem zb211_83_86 (hT : zRules T) {D : Nat} {κ : Option zA → zM → Prop} {m : zM} {v : Int} {k : Nat} {lo : zL} (hlo : z_keep [0, 3, 4] lo = [(0, zr 74), (3, zi v), (4, zi (k : Int))])  (hB : zB m) (hrd : m 74 13 = 86) (h_v : 0 ≤ v ∧ v ≤ 1000) (h_k : k ≤ 3) (hf0 : (-1) ≤ m 74 17 ∧ m 74 17 ≤ (-1)) (hf1 : 0 ≤ m 74 16 ∧ m 74 16 ≤ 90) (hf2 : 0 ≤ m 74 15 ∧ m 74 15 ≤ 40) 
    (k1 : ¬ (k : Int) < 3 → κ (some (zi v)) m)
    (k2 : (k : Int) < 3 → (hrR m 86) < 48 → κ (some (zi v)) m)
    (k3 : (k : Int) < 3 → ¬ (hrR m 86) < 48 → 57 < (hrR m 86) → κ (some (zi v)) m)
    (k4 : (k : Int) < 3 → ¬ (hrR m 86) < 48 → ¬ 57 < (hrR m 86) → (0 ≤ (((m 74 16) + 1) - 1) ∧ (((m 74 16) + 1) - 1) < 40))
    (k5 : (k : Int) < 3 → ¬ (hrR m 86) < 48 → ¬ 57 < (hrR m 86) → zB (zu m 74 16 ((m 74 16) + 1)) → T (D + 4) 211 (83, [(0, zr 74), (3, zi ((10 * v) + ((m 86 ((((m 74 16) + 1) - 1).toNat)) - 48))), (4, zi ((k : Int) + 1))], [], (zu m 74 16 ((m 74 16) + 1))) κ) :
    T (D + 4) 211 (83, lo, [], m) κ := by
  have hb5 : 0 ≤ (m 74 14) ∧ (m 74 14) ≤ 80 := hB 74 14
  have hb6 : (-1) ≤ (hrR m 86) ∧ (hrR m 86) ≤ 255 := hrRB m 86
  have hb7 : (-128) ≤ (m 86 ((((m 74 16) + 1) - 1).toNat)) ∧ (m 86 ((((m 74 16) + 1) - 1).toNat)) ≤ 127 := hB 86 ((((m 74 16) + 1) - 1).toNat)
  have he0 : wr (k : Int) = (k : Int) := wr_id (by omega) (by omega)
  have he1 : wr (hrR m 86) = (hrR m 86) := wr_id (by omega) (by omega)
  have he2 : wr v = v := wr_id (by omega) (by omega)
  have he3 : wr (m 74 17) = (m 74 17) := wr_id (by omega) (by omega)
  have he4 : wr (((m 74 16) + 1) - 1) = (((m 74 16) + 1) - 1) := wr_id (by omega) (by omega)
  have he5 : wr ((m 86 ((((m 74 16) + 1) - 1).toNat)) - 48) = ((m 86 ((((m 74 16) + 1) - 1).toNat)) - 48) := wr_id (by omega) (by omega)
  have key := @zb211_83_86r T hT D κ m v k lo hlo
  simp only [he0, he1, he2, he3, he4, he5, Int.toNat_natCast] at key
  exact key
    k1
    (fun x0 => hrd)
    (fun x0 => by refine ⟨?_, ?_⟩ <;> omega)
    (fun x0 => by refine ⟨?_, ?_⟩ <;> omega)
    (fun x0 => by refine ⟨?_, ?_⟩ <;> omega)
    k2
    k3
    (fun x0 x1 x2 x3 => by omega)
    (fun x0 x1 x2 x3 => hrd)
    (fun x0 x1 x2 x3 => by refine ⟨?_, ?_⟩ <;> omega)
    (fun x0 x1 x2 x3 => by refine ⟨?_, ?_⟩ <;> omega)
    (fun x0 x1 x2 x3 => by refine ⟨?_, ?_⟩ <;> omega)
    (fun x0 x1 x2 x3 x4 => by omega)
    (fun x0 x1 x2 x3 x4 x5 => by omega)
    (fun x0 x1 x2 x3 x4 x5 => hrd)
    (fun x0 x1 x2 x3 x4 x5 => k4 x0 x1 x2)
    (fun x0 x1 x2 x3 x4 x5 => k5 x0 x1 x2 (zB_u hB (show 0 ≤ ((m 74 16) + 1) ∧ ((m 74 16) + 1) ≤ 100 from ⟨by omega, by omega⟩)))
end ZBlocks
end
-- 51.rp.lean.txt
section
/-! THE RULE as it is read: what is at fault, or where it ends and what it is worth. -/
noncomputable abbrev rP : Type := Nat ⊕ (Nat × (zEnv → Int))
noncomputable def rb (x : rP) (k : Nat → (zEnv → Int) → rP) : rP := match x with
  | .inl f => .inl f
  | .inr q => k q.1 q.2
noncomputable def rNum (s : Nat → Int) : Nat → Nat → Int → Nat × Int
  | 0, a, v => (a, v)
  | k + 1, a, v => if 48 ≤ s a ∧ s a ≤ 57 then rNum s k (a + 1) (10 * v + (s a - 48)) else (a, v)
noncomputable def e0f : zEnv → Int := fun _ => 0
/-- kinds: 0 an EXPRESSION, 1 a sum, 2 a sum's rest, 3 a product, 4 a product's rest, 5 a thing -/
noncomputable def rp (s : Nat → Int) : Nat → Nat → Nat → Nat → (zEnv → Int) → rP
  | 0, _, _, a, _ => .inl a
  | f + 1, kd, dp, a, acc =>
    if kd = 0 then rb (rp s f 1 dp a e0f) (fun b v =>
      if s b = 60 then rb (rp s f 1 dp (b + 1) e0f) (fun c w => .inr (c, fun e => if v e < w e then 1 else 0))
      else if s b = 62 then rb (rp s f 1 dp (b + 1) e0f) (fun c w => .inr (c, fun e => if w e < v e then 1 else 0))
      else if s b = 61 then rb (rp s f 1 dp (b + 1) e0f) (fun c w => .inr (c, fun e => if v e = w e then 1 else 0))
      else .inr (b, v))
    else if kd = 1 then rb (rp s f 3 dp a e0f) (fun b v => rp s f 2 dp b v)
    else if kd = 2 then
      if s a = 43 then rb (rp s f 3 dp (a + 1) e0f) (fun b w => rp s f 2 dp b (fun e => wr (acc e + w e)))
      else if s a = 45 then rb (rp s f 3 dp (a + 1) e0f) (fun b w => rp s f 2 dp b (fun e => wr (acc e - w e)))
      else .inr (a, acc)
    else if kd = 3 then rb (rp s f 5 dp a e0f) (fun b v => rp s f 4 dp b v)
    else if kd = 4 then
      if s a = 42 then rb (rp s f 5 dp (a + 1) e0f) (fun b w => rp s f 4 dp b (fun e => wr (acc e * w e)))
      else if s a = 47 then rb (rp s f 5 dp (a + 1) e0f) (fun b w => rp s f 4 dp b (fun e => if w e = 0 then 0 else wr (Int.tdiv (acc e) (w e))))
      else .inr (a, acc)
    else if s a = 45 then rb (rp s f 5 dp (a + 1) e0f) (fun b v => .inr (b, fun e => wr (-(v e))))
    else if s a = 40 then (if dp < 4 then rb (rp s f 0 (dp + 1) (a + 1) e0f) (fun b v => if s b = 41 then .inr (b + 1, v) else .inl b) else .inl a)
    else if 48 ≤ s a ∧ s a ≤ 57 then .inr ((rNum s 3 a 0).1, fun _ => (rNum s 3 a 0).2)
    else if s a = 104 then .inr (a + 1, fun e => wr e.1)
    else if s a = 108 then .inr (a + 1, fun e => wr e.2.1)
    else if s a = 119 then .inr (a + 1, fun e => wr e.2.2.1)
    else if s a = 112 then .inr (a + 1, fun e => wr e.2.2.2.1)
    else if s a = 105 then .inr (a + 1, fun e => wr e.2.2.2.2)
    else .inl a
theorem wr_wr (a : Int) : wr (wr a) = wr a := wr_id (wrB a).1 (wrB a).2
/-- how many digits, and the number -/
theorem rNumP {s : Nat → Int} {L : Nat} (hs : ∀ a, L ≤ a → s a = -1) : ∀ (k a : Nat) (v : Int), a ≤ L → a ≤ (rNum s k a v).1 ∧ (rNum s k a v).1 ≤ L
  | 0, a, v, ha => ⟨Nat.le_refl a, ha⟩
  | k + 1, a, v, ha => by
    rw [rNum]
    split
    · rename_i h
      have hL : a < L := by
        rcases Nat.lt_or_ge a L with q | q
        · exact q
        · have := hs a q
          omega
      have := rNumP hs k (a + 1) (10 * v + (s a - 48)) (by omega)
      omega
    · exact ⟨Nat.le_refl a, ha⟩
theorem rNumV {s : Nat → Int} (a : Nat) : 0 ≤ (rNum s 3 a 0).2 ∧ (rNum s 3 a 0).2 ≤ 999 := by
  rw [rNum]
  split
  · rw [rNum]
    split
    · rw [rNum]
      split
      · rw [rNum]
        dsimp only
        omega
      · dsimp only
        omega
    · dsimp only
      omega
  · dsimp only
    omega
theorem rNum1 {s : Nat → Int} {L : Nat} (hs : ∀ a, L ≤ a → s a = -1) {a : Nat} (h : 48 ≤ s a ∧ s a ≤ 57) : a < (rNum s 3 a 0).1 ∧ (rNum s 3 a 0).1 ≤ L := by
  have hL : a < L := by
    rcases Nat.lt_or_ge a L with q | q
    · exact q
    · have := hs a q
      omega
  rw [rNum, if_pos h]
  have := rNumP hs 2 (a + 1) (10 * 0 + (s a - 48)) (by omega)
  omega
/-- what is said of a reading from a on -/
noncomputable def rOK (L kd a : Nat) (r : rP) : Prop := match r with
  | .inl x => a ≤ x ∧ x ≤ L
  | .inr q => (a ≤ q.1 ∧ q.1 ≤ L ∧ (kd ≠ 2 → kd ≠ 4 → a < q.1)) ∧ ∀ e, wr (q.2 e) = q.2 e
theorem rOK.bind {L kd kd2 a a2 : Nat} {x : rP} {k : Nat → (zEnv → Int) → rP} (hx : rOK L kd2 a2 x) (ha : a ≤ a2) (h : ∀ b v, x = .inr (b, v) → a2 ≤ b → b ≤ L → (kd2 ≠ 2 → kd2 ≠ 4 → a2 < b) → (∀ e, wr (v e) = v e) → rOK L kd a (k b v)) : rOK L kd a (rb x k) := by
  rcases x with x | ⟨b, v⟩
  · exact ⟨Nat.le_trans ha hx.1, hx.2⟩
  · exact h b v rfl hx.1.1 hx.1.2.1 hx.1.2.2 hx.2
theorem rOK.up {L kd a a2 : Nat} {r : rP} (hr : rOK L kd a2 r) (h : a < a2) : ∀ kd2, rOK L kd2 a r := by
  intro kd2
  rcases r with x | ⟨b, v⟩
  · exact ⟨by have := hr.1; omega, hr.2⟩
  · exact ⟨⟨by have := hr.1.1; omega, hr.1.2.1, fun _ _ => by have := hr.1.1; omega⟩, hr.2⟩
theorem rp_ok {s : Nat → Int} {L : Nat} (hs : ∀ a, L ≤ a → s a = -1) : ∀ (f kd dp a : Nat) (acc : zEnv → Int), a ≤ L → (∀ e, wr (acc e) = acc e) → rOK L kd a (rp s f kd dp a acc) := by
  have hlt : ∀ a, ¬ s a = -1 → a < L := fun a h => by
    rcases Nat.lt_or_ge a L with q | q
    · exact q
    · exact absurd (hs a q) h
  have h0 : ∀ e : zEnv, wr (e0f e) = e0f e := fun _ => rfl
  have hb01 : ∀ (P : Prop) [Decidable P], wr (if P then (1 : Int) else 0) = if P then 1 else 0 := fun P _ => by
    split <;> rfl
  intro f
  induction f with
  | zero => intro kd dp a acc ha _; exact ⟨Nat.le_refl a, ha⟩
  | succ f ih =>
    intro kd dp a acc ha hacc
    by_cases k0 : kd = 0
    · subst k0
      rw [rp, if_pos rfl]
      refine rOK.bind (ih 1 dp a e0f ha h0) (Nat.le_refl a) (fun b v _ h1 h2 h3 h4 => ?_)
      have h3 := h3 (by omega) (by omega)
      by_cases c1 : s b = 60
      · rw [if_pos c1]
        refine rOK.bind (ih 1 dp (b + 1) e0f (hlt b (by omega)) h0) (by omega) (fun c w _ g1 g2 g3 g4 => ?_)
        exact ⟨⟨by omega, g2, fun _ _ => by omega⟩, fun e => hb01 _⟩
      · rw [if_neg c1]
        by_cases c2 : s b = 62
        · rw [if_pos c2]
          refine rOK.bind (ih 1 dp (b + 1) e0f (hlt b (by omega)) h0) (by omega) (fun c w _ g1 g2 g3 g4 => ?_)
          exact ⟨⟨by omega, g2, fun _ _ => by omega⟩, fun e => hb01 _⟩
        · rw [if_neg c2]
          by_cases c3 : s b = 61
          · rw [if_pos c3]
            refine rOK.bind (ih 1 dp (b + 1) e0f (hlt b (by omega)) h0) (by omega) (fun c w _ g1 g2 g3 g4 => ?_)
            exact ⟨⟨by omega, g2, fun _ _ => by omega⟩, fun e => hb01 _⟩
          · rw [if_neg c3]
            exact ⟨⟨by omega, h2, fun _ _ => h3⟩, h4⟩
    by_cases k1 : kd = 1
    · subst k1
      rw [rp, if_neg k0, if_pos rfl]
      refine rOK.bind (ih 3 dp a e0f ha h0) (Nat.le_refl a) (fun b v _ h1 h2 h3 h4 => ?_)
      exact (ih 2 dp b v h2 h4).up (h3 (by omega) (by omega)) _
    by_cases k2 : kd = 2
    · subst k2
      rw [rp, if_neg k0, if_neg k1, if_pos rfl]
      by_cases c1 : s a = 43
      · rw [if_pos c1]
        refine rOK.bind (ih 3 dp (a + 1) e0f (hlt a (by omega)) h0) (by omega) (fun b w _ h1 h2 h3 h4 => ?_)
        exact (ih 2 dp b _ h2 (fun e => wr_wr _)).up (by omega) _
      · rw [if_neg c1]
        by_cases c2 : s a = 45
        · rw [if_pos c2]
          refine rOK.bind (ih 3 dp (a + 1) e0f (hlt a (by omega)) h0) (by omega) (fun b w _ h1 h2 h3 h4 => ?_)
          exact (ih 2 dp b _ h2 (fun e => wr_wr _)).up (by omega) _
        · rw [if_neg c2]
          exact ⟨⟨Nat.le_refl a, ha, fun q _ => absurd rfl q⟩, hacc⟩
    by_cases k3 : kd = 3
    · subst k3
      rw [rp, if_neg k0, if_neg k1, if_neg k2, if_pos rfl]
      refine rOK.bind (ih 5 dp a e0f ha h0) (Nat.le_refl a) (fun b v _ h1 h2 h3 h4 => ?_)
      exact (ih 4 dp b v h2 h4).up (h3 (by omega) (by omega)) _
    by_cases k4 : kd = 4
    · subst k4
      rw [rp, if_neg k0, if_neg k1, if_neg k2, if_neg k3, if_pos rfl]
      by_cases c1 : s a = 42
      · rw [if_pos c1]
        refine rOK.bind (ih 5 dp (a + 1) e0f (hlt a (by omega)) h0) (by omega) (fun b w _ h1 h2 h3 h4 => ?_)
        exact (ih 4 dp b _ h2 (fun e => wr_wr _)).up (by omega) _
      · rw [if_neg c1]
        by_cases c2 : s a = 47
        · rw [if_pos c2]
          refine rOK.bind (ih 5 dp (a + 1) e0f (hlt a (by omega)) h0) (by omega) (fun b w _ h1 h2 h3 h4 => ?_)
          refine (ih 4 dp b _ h2 (fun e => ?_)).up (by omega) _
          split
          · rfl
          · exact wr_wr _
        · rw [if_neg c2]
          exact ⟨⟨Nat.le_refl a, ha, fun _ q => absurd rfl q⟩, hacc⟩
    rw [rp, if_neg k0, if_neg k1, if_neg k2, if_neg k3, if_neg k4]
    by_cases c1 : s a = 45
    · rw [if_pos c1]
      refine rOK.bind (ih 5 dp (a + 1) e0f (hlt a (by omega)) h0) (by omega) (fun b v _ h1 h2 h3 h4 => ?_)
      exact ⟨⟨by omega, h2, fun _ _ => by omega⟩, fun e => wr_wr _⟩
    rw [if_neg c1]
    by_cases c2 : s a = 40
    · rw [if_pos c2]
      by_cases c3 : dp < 4
      · rw [if_pos c3]
        refine rOK.bind (ih 0 (dp + 1) (a + 1) e0f (hlt a (by omega)) h0) (by omega) (fun b v _ h1 h2 h3 h4 => ?_)
        by_cases c4 : s b = 41
        · rw [if_pos c4]
          exact ⟨⟨by omega, hlt b (by omega), fun _ _ => by omega⟩, h4⟩
        · rw [if_neg c4]
          exact ⟨by omega, h2⟩
      · rw [if_neg c3]
        exact ⟨Nat.le_refl a, ha⟩
    rw [if_neg c2]
    by_cases c3 : 48 ≤ s a ∧ s a ≤ 57
    · rw [if_pos c3]
      obtain ⟨g1, g2⟩ := rNum1 hs c3
      exact ⟨⟨by omega, g2, fun _ _ => g1⟩, fun e => by have := rNumV (s := s) a; show wr (rNum s 3 a 0).2 = (rNum s 3 a 0).2; exact wr_id (by omega) (by omega)⟩
    rw [if_neg c3]
    by_cases c4 : s a = 104
    · rw [if_pos c4]
      exact ⟨⟨by omega, hlt a (by omega), fun _ _ => by omega⟩, fun e => wr_wr _⟩
    rw [if_neg c4]
    by_cases c5 : s a = 108
    · rw [if_pos c5]
      exact ⟨⟨by omega, hlt a (by omega), fun _ _ => by omega⟩, fun e => wr_wr _⟩
    rw [if_neg c5]
    by_cases c6 : s a = 119
    · rw [if_pos c6]
      exact ⟨⟨by omega, hlt a (by omega), fun _ _ => by omega⟩, fun e => wr_wr _⟩
    rw [if_neg c6]
    by_cases c7 : s a = 112
    · rw [if_pos c7]
      exact ⟨⟨by omega, hlt a (by omega), fun _ _ => by omega⟩, fun e => wr_wr _⟩
    rw [if_neg c7]
    by_cases c8 : s a = 105
    · rw [if_pos c8]
      exact ⟨⟨by omega, hlt a (by omega), fun _ _ => by omega⟩, fun e => wr_wr _⟩
    rw [if_neg c8]
    exact ⟨Nat.le_refl a, ha⟩
end
-- 52.rr.lean.txt
section
/-! THE RULE read and valued by the reference. -/
theorem z_wrO (a : Int) : Int32.ofInt (wr a) = Int32.ofInt a := by rw [← wrE, z_ofN]
theorem wr_add2 {a b x y : Int} (h1 : wr a = wr x) (h2 : wr b = wr y) : wr (a + b) = wr (x + y) := by
  rw [← wrE, ← wrE, Int32.ofInt_add, Int32.ofInt_add, ← z_wrO a, ← z_wrO b, ← z_wrO x, ← z_wrO y, h1, h2]
theorem wr_sub2 {a b x y : Int} (h1 : wr a = wr x) (h2 : wr b = wr y) : wr (a - b) = wr (x - y) := by
  rw [← wrE, ← wrE, Int32.ofInt_sub, Int32.ofInt_sub, ← z_wrO a, ← z_wrO b, ← z_wrO x, ← z_wrO y, h1, h2]
theorem wr_mul2 {a b x y : Int} (h1 : wr a = wr x) (h2 : wr b = wr y) : wr (a * b) = wr (x * y) := by
  rw [← wrE, ← wrE, Int32.ofInt_mul, Int32.ofInt_mul, ← z_wrO a, ← z_wrO b, ← z_wrO x, ← z_wrO y, h1, h2]
theorem z_and255 (b : Int) : z_and b 255 = b % 256 := by
  have e1 : (Int32.ofInt b &&& Int32.ofInt 255).toBitVec.toNat = (Int32.ofInt b).toBitVec.toNat % 256 := by
    rw [Int32.toBitVec_and, BitVec.toNat_and, show (Int32.ofInt 255).toBitVec.toNat = 2 ^ 8 - 1 from by decide, Nat.and_two_pow_sub_one_eq_mod]
  have e2 := s_ofnat (z := (Int32.ofInt b &&& Int32.ofInt 255)) (by omega)
  have e3 := z_natS b
  unfold z_and
  omega
/-- the signs that the reference reads -/
noncomputable def sgR (m : zM) (q : Nat) (a : Nat) : Int := if (a : Int) < m 74 14 ∧ (a : Int) < m 74 15 then z_and (m q a) 255 else -1
noncomputable def pW (c j : Nat) : Bool := Nat.beq c 74 && (Nat.beq j 16 || Nat.beq j 17)
noncomputable def envR (m : zM) : zEnv := if m 74 26 = 0 then (0, 0, 0, 0, 0) else (m 74 28, m 76 (26 * m 74 29 + Int.tmod (m 74 30) (m 77 (m 74 29).toNat)).toNat, m 74 30, m 74 29, m 74 27)
noncomputable def okEnv (m : zM) : Prop := m 74 26 = 0 ∨ ((0 ≤ m 74 29 ∧ m 74 29 ≤ 3) ∧ (0 ≤ m 74 30 ∧ m 74 30 ≤ 500000) ∧ 1 ≤ m 77 (m 74 29).toNat)
noncomputable def RK (κ : Option zA → zM → Prop) (m : zM) (e : zEnv) (r : rP) : Prop := match r with
  | .inl x => ∀ (v : Int) (M : zM), (-2147483648 ≤ v ∧ v ≤ 2147483647) → zB M → zFr pW m M → M 74 17 = (x : Int) → κ (some (zi v)) M
  | .inr q => ∀ (M : zM), zB M → zFr pW m M → M 74 16 = (q.1 : Int) → M 74 17 = -1 → κ (some (zi (q.2 e))) M
noncomputable def Rs (T : Nat → Nat → zG → (Option zA → zM → Prop) → Prop) (m : zM) (s : Nat → Int) (L k kd c f : Nat) : Prop := ∀ (D dp a : Nat) (M : zM) (κ : Option zA → zM → Prop), dp ≤ 4 → zB M → zFr pW m M → M 74 16 = (a : Int) → M 74 17 = -1 → a ≤ L → 4 * (L - a) + c ≤ f → RK κ m (envR m) (rp s f kd dp a e0f) → T (D + f + 4) k (0, [(0, zr 74), (1, zi (dp : Int))], [], M) κ
noncomputable def Rl (T : Nat → Nat → zG → (Option zA → zM → Prop) → Prop) (m : zM) (s : Nat → Int) (L k kd f : Nat) : Prop := ∀ (D dp a : Nat) (M : zM) (κ : Option zA → zM → Prop) (v : Int) (acc : zEnv → Int), dp ≤ 4 → zB M → zFr pW m M → M 74 16 = (a : Int) → M 74 17 = -1 → a ≤ L → 4 * (L - a) + 1 ≤ f → (∀ e, wr (acc e) = acc e) → wr v = acc (envR m) → RK κ m (envR m) (rp s f kd dp a acc) → T (D + f + 4) k (6, [(0, zr 74), (1, zi (dp : Int)), (2, zi v)], [], M) κ
theorem wrR {v : Int} (h : wr v = v) : -2147483648 ≤ v ∧ v ≤ 2147483647 := by
  have := wrB v
  omega
theorem hr_s {m M : zM} {a q : Nat} (hq : q ≠ 74) (hF : zFr pW m M) (h16 : M 74 16 = (a : Int)) : hrR M q = sgR m q a := by
  have e14 : M 74 14 = m 74 14 := hF 74 14 rfl
  have e15 : M 74 15 = m 74 15 := hF 74 15 rfl
  have eq : M q a = m q a := hF q a (by
    simp only [pW, q_beqF hq, Bool.false_and])
  unfold hrR sgR
  rw [h16, e14, e15, Int.toNat_natCast, eq]
section ZRule
variable {T : Nat → Nat → zG → (Option zA → zM → Prop) → Prop} {m : zM} {s : Nat → Int} {L f : Nat}
theorem rr_held_80 (hT : zRules T) (hrd : m 74 13 = 80) (hsd : s = sgR m 80) (hL : L ≤ 80) (h15 : m 74 15 ≤ 80) (hs : ∀ a, L ≤ a → s a = -1) (h1 : Rs T m s L 209 1 3 f) : Rs T m s L 208 0 4 (f + 1) := by
  intro D dp a M κ hdp hBM hF h16 h17 ha hf hκ
  have hlt : ∀ a, ¬ s a = -1 → a < L := fun a h => by
    rcases Nat.lt_or_ge a L with q | q
    · exact q
    · exact absurd (hs a q) h
  refine zb208_0_80 hT hBM ((hF 74 13 rfl).trans hrd) hdp (by omega) (by omega) (by have e15 := hF 74 15 rfl; have b15 : 0 ≤ M 74 15 ∧ M 74 15 ≤ 80 := hBM 74 15; omega) ?_
  refine h1 D dp a M _ hdp hBM hF h16 h17 ha (by omega) ?_
  rw [rp, if_pos rfl] at hκ
  have hok := rp_ok hs f 1 dp a e0f ha (fun _ => rfl)
  revert hκ hok
  cases rp s f 1 dp a e0f with
  | inl x =>
    intro hκ hok v M1 hv hB1 hF1 hx
    have := hok.2
    exact zb208_5_80f hT rfl hB1 ((hF1 74 13 rfl).trans hrd) hdp hv (by omega) (hκ v M1 hv hB1 hF1 hx)
  | inr y =>
    obtain ⟨b, v⟩ := y
    intro hκ hok M1 hB1 hF1 g16 g17
    dsimp only [rb] at hκ
    dsimp only at g16
    obtain ⟨⟨o1, o2, o3⟩, o4⟩ := hok
    dsimp only at o1 o2 o3 o4
    have o3 := o3 (by omega) (by omega)
    have hv := wrR (o4 (envR m))
    have hr : hrR M1 80 = s b := by rw [hsd]; exact hr_s (by omega) hF1 g16
    have n16 : (zu M1 74 16 (M1 74 16 + 1)) 74 16 = ((b + 1 : Nat) : Int) := by rw [zu_sm rfl]; omega
    have n17 : (zu M1 74 16 (M1 74 16 + 1)) 74 17 = -1 := by rw [zu_off (by omega)]; exact g17
    refine zb208_5_80 hT rfl hB1 ((hF1 74 13 rfl).trans hrd) hdp hv (by omega) (by omega) (by have e15 := hF1 74 15 rfl; have b15 : 0 ≤ M1 74 15 ∧ M1 74 15 ≤ 80 := hB1 74 15; omega) (fun c1 hz => ?_) (fun c1 c2 hz => ?_) (fun c1 c2 c3 hz => ?_) (fun c1 c2 c3 => ?_)
    · rw [hr] at c1
      rw [if_pos c1] at hκ
      have hbL := hlt b (by omega)
      have hok2 := rp_ok hs f 1 dp (b + 1) e0f hbL (fun _ => rfl)
      refine h1 D dp (b + 1) _ _ hdp hz (hF1.set rfl) n16 n17 hbL (by omega) ?_
      revert hκ hok2
      cases rp s f 1 dp (b + 1) e0f with
      | inl x =>
        intro hκ hok2 w M2 hw hB2 hF2 hx
        exact zb208_21_80 hT rfl hv hw (fun _ => hκ 0 M2 (by omega) hB2 hF2 hx) (fun _ => hκ 1 M2 (by omega) hB2 hF2 hx)
      | inr y =>
        obtain ⟨c, w⟩ := y
        intro hκ hok2 M2 hB2 hF2 i16 i17
        have hw := wrR (hok2.2 (envR m))
        have hk := hκ M2 hB2 hF2 i16 i17
        dsimp only at hk
        refine zb208_21_80 hT rfl hv hw (fun q => ?_) (fun q => ?_)
        · rw [if_neg q] at hk; exact hk
        · rw [if_pos q] at hk; exact hk
    · rw [hr] at c1 c2
      rw [if_neg c1, if_pos c2] at hκ
      have hbL := hlt b (by omega)
      have hok2 := rp_ok hs f 1 dp (b + 1) e0f hbL (fun _ => rfl)
      refine h1 D dp (b + 1) _ _ hdp hz (hF1.set rfl) n16 n17 hbL (by omega) ?_
      revert hκ hok2
      cases rp s f 1 dp (b + 1) e0f with
      | inl x =>
        intro hκ hok2 w M2 hw hB2 hF2 hx
        exact zb208_45_80 hT rfl hv hw (fun _ => hκ 0 M2 (by omega) hB2 hF2 hx) (fun _ => hκ 1 M2 (by omega) hB2 hF2 hx)
      | inr y =>
        obtain ⟨c, w⟩ := y
        intro hκ hok2 M2 hB2 hF2 i16 i17
        have hw := wrR (hok2.2 (envR m))
        have hk := hκ M2 hB2 hF2 i16 i17
        dsimp only at hk
        refine zb208_45_80 hT rfl hv hw (fun q => ?_) (fun q => ?_)
        · rw [if_neg q] at hk; exact hk
        · rw [if_pos q] at hk; exact hk
    · rw [hr] at c1 c2 c3
      rw [if_neg c1, if_neg c2, if_pos c3] at hκ
      have hbL := hlt b (by omega)
      have hok2 := rp_ok hs f 1 dp (b + 1) e0f hbL (fun _ => rfl)
      refine h1 D dp (b + 1) _ _ hdp hz (hF1.set rfl) n16 n17 hbL (by omega) ?_
      revert hκ hok2
      cases rp s f 1 dp (b + 1) e0f with
      | inl x =>
        intro hκ hok2 w M2 hw hB2 hF2 hx
        exact zb208_69_80 hT rfl hv hw (fun _ => hκ 0 M2 (by omega) hB2 hF2 hx) (fun _ => hκ 1 M2 (by omega) hB2 hF2 hx)
      | inr y =>
        obtain ⟨c, w⟩ := y
        intro hκ hok2 M2 hB2 hF2 i16 i17
        have hw := wrR (hok2.2 (envR m))
        have hk := hκ M2 hB2 hF2 i16 i17
        dsimp only at hk
        refine zb208_69_80 hT rfl hv hw (fun q => ?_) (fun q => ?_)
        · rw [if_neg q] at hk; exact hk
        · rw [if_pos q] at hk; exact hk
    · rw [hr] at c1 c2 c3
      rw [if_neg c1, if_neg c2, if_neg c3] at hκ
      exact hκ M1 hB1 hF1 g16 g17
theorem rr_sum_80 (hT : zRules T) (hrd : m 74 13 = 80) (hL : L ≤ 80) (h15 : m 74 15 ≤ 80) (hs : ∀ a, L ≤ a → s a = -1) (h3 : Rs T m s L 210 3 2 f) (h2 : Rl T m s L 209 2 f) : Rs T m s L 209 1 3 (f + 1) := by
  intro D dp a M κ hdp hBM hF h16 h17 ha hf hκ
  refine zb209_0_80 hT hBM ((hF 74 13 rfl).trans hrd) hdp (by omega) (by omega) (by have e15 := hF 74 15 rfl; have b15 : 0 ≤ M 74 15 ∧ M 74 15 ≤ 80 := hBM 74 15; omega) ?_
  refine h3 D dp a M _ hdp hBM hF h16 h17 ha (by omega) ?_
  rw [rp, if_neg (by omega), if_pos rfl] at hκ
  have hok := rp_ok hs f 3 dp a e0f ha (fun _ => rfl)
  revert hκ hok
  cases rp s f 3 dp a e0f with
  | inl x =>
    intro hκ hok v M1 hv hB1 hF1 hx
    have := hok.2
    refine zb209_5_80 hT rfl hdp ?_
    refine zb209_6_80f hT rfl hB1 ((hF1 74 13 rfl).trans hrd) hdp (by omega) ?_
    rw [wr_id hv.1 hv.2]
    exact hκ v M1 hv hB1 hF1 hx
  | inr y =>
    obtain ⟨b, v⟩ := y
    intro hκ hok M1 hB1 hF1 g16 g17
    obtain ⟨⟨o1, o2, o3⟩, o4⟩ := hok
    have o3 := o3 (by omega) (by omega)
    dsimp only at o1 o2 o3 o4 g16
    refine zb209_5_80 hT rfl hdp ?_
    rw [show D + (f + 1) + 4 = D + 1 + f + 4 by omega]
    exact h2 (D + 1) dp b M1 κ _ v hdp hB1 hF1 g16 g17 o2 (by omega) o4 (o4 _) hκ
theorem rr_sumL_80 (hT : zRules T) (hrd : m 74 13 = 80) (hsd : s = sgR m 80) (hL : L ≤ 80) (h15 : m 74 15 ≤ 80) (hs : ∀ a, L ≤ a → s a = -1) (h3 : Rs T m s L 210 3 2 f) (h2 : Rl T m s L 209 2 f) : Rl T m s L 209 2 (f + 1) := by
  intro D dp a M κ v acc hdp hBM hF h16 h17 ha hf hacc hv hκ
  have hlt : ∀ a, ¬ s a = -1 → a < L := fun a h => by
    rcases Nat.lt_or_ge a L with q | q
    · exact q
    · exact absurd (hs a q) h
  have hr : hrR M 80 = s a := by rw [hsd]; exact hr_s (by omega) hF h16
  have n16 : (zu M 74 16 (M 74 16 + 1)) 74 16 = ((a + 1 : Nat) : Int) := by rw [zu_sm rfl]; omega
  have n17 : (zu M 74 16 (M 74 16 + 1)) 74 17 = -1 := by rw [zu_off (by omega)]; exact h17
  rw [rp, if_neg (by omega), if_neg (by omega), if_pos rfl] at hκ
  refine zb209_6_80 hT rfl hBM ((hF 74 13 rfl).trans hrd) hdp (by omega) (by omega) (by have e15 := hF 74 15 rfl; have b15 : 0 ≤ M 74 15 ∧ M 74 15 ≤ 80 := hBM 74 15; omega) (fun c1 hz => ?_) (fun c1 c2 => ?_) (fun c1 c2 hz => ?_)
  · rw [hr] at c1
    rw [if_pos c1] at hκ
    have haL := hlt a (by omega)
    have hok := rp_ok hs f 3 dp (a + 1) e0f haL (fun _ => rfl)
    refine h3 D dp (a + 1) _ _ hdp hz (hF.set rfl) n16 n17 haL (by omega) ?_
    revert hκ hok
    cases rp s f 3 dp (a + 1) e0f with
    | inl x =>
      intro hκ hok w M1 hw hB1 hF1 hx
      have := hok.2
      refine zb209_61_80 hT rfl hdp (by omega) (fun q => by omega) (fun _ => ?_)
      exact zb209_6_80f hT rfl hB1 ((hF1 74 13 rfl).trans hrd) hdp (by omega) (hκ _ M1 (wrB _) hB1 hF1 hx)
    | inr y =>
      obtain ⟨b, w⟩ := y
      intro hκ hok M1 hB1 hF1 g16 g17
      obtain ⟨⟨o1, o2, o3⟩, o4⟩ := hok
      dsimp only at o1 o2 o3 o4 g16
      refine zb209_61_80 hT rfl hdp (by omega) (fun q => by omega) (fun _ => ?_)
      rw [show D + (f + 1) + 4 = D + 1 + f + 4 by omega]
      refine h2 (D + 1) dp b M1 κ _ _ hdp hB1 hF1 g16 g17 o2 (by omega) (fun e => wr_wr _) ?_ hκ
      exact wr_add2 (by rw [hv, hacc]) rfl
  · rw [hr] at c1 c2
    rw [if_neg c1, if_neg c2] at hκ
    rw [hv]
    exact hκ M hBM hF h16 h17
  · rw [hr] at c1 c2
    rw [if_neg c1, if_pos c2] at hκ
    have haL := hlt a (by omega)
    have hok := rp_ok hs f 3 dp (a + 1) e0f haL (fun _ => rfl)
    refine h3 D dp (a + 1) _ _ hdp hz (hF.set rfl) n16 n17 haL (by omega) ?_
    revert hκ hok
    cases rp s f 3 dp (a + 1) e0f with
    | inl x =>
      intro hκ hok w M1 hw hB1 hF1 hx
      have := hok.2
      refine zb209_61_80 hT rfl hdp (by omega) (fun _ => ?_) (fun q => by omega)
      exact zb209_6_80f hT rfl hB1 ((hF1 74 13 rfl).trans hrd) hdp (by omega) (hκ _ M1 (wrB _) hB1 hF1 hx)
    | inr y =>
      obtain ⟨b, w⟩ := y
      intro hκ hok M1 hB1 hF1 g16 g17
      obtain ⟨⟨o1, o2, o3⟩, o4⟩ := hok
      dsimp only at o1 o2 o3 o4 g16
      refine zb209_61_80 hT rfl hdp (by omega) (fun _ => ?_) (fun q => by omega)
      rw [show D + (f + 1) + 4 = D + 1 + f + 4 by omega]
      refine h2 (D + 1) dp b M1 κ _ _ hdp hB1 hF1 g16 g17 o2 (by omega) (fun e => wr_wr _) ?_ hκ
      exact wr_sub2 (by rw [hv, hacc]) rfl
theorem rr_prod_80 (hT : zRules T) (hrd : m 74 13 = 80) (hL : L ≤ 80) (h15 : m 74 15 ≤ 80) (hs : ∀ a, L ≤ a → s a = -1) (h5 : Rs T m s L 211 5 1 f) (h4 : Rl T m s L 210 4 f) : Rs T m s L 210 3 2 (f + 1) := by
  intro D dp a M κ hdp hBM hF h16 h17 ha hf hκ
  refine zb210_0_80 hT hBM ((hF 74 13 rfl).trans hrd) hdp (by omega) (by omega) (by have e15 := hF 74 15 rfl; have b15 : 0 ≤ M 74 15 ∧ M 74 15 ≤ 80 := hBM 74 15; omega) ?_
  refine h5 D dp a M _ hdp hBM hF h16 h17 ha (by omega) ?_
  rw [rp, if_neg (by omega), if_neg (by omega), if_neg (by omega), if_pos rfl] at hκ
  have hok := rp_ok hs f 5 dp a e0f ha (fun _ => rfl)
  revert hκ hok
  cases rp s f 5 dp a e0f with
  | inl x =>
    intro hκ hok v M1 hv hB1 hF1 hx
    have := hok.2
    refine zb210_5_80 hT rfl hdp ?_
    refine zb210_6_80f hT rfl hB1 ((hF1 74 13 rfl).trans hrd) hdp (by omega) ?_
    rw [wr_id hv.1 hv.2]
    exact hκ v M1 hv hB1 hF1 hx
  | inr y =>
    obtain ⟨b, v⟩ := y
    intro hκ hok M1 hB1 hF1 g16 g17
    obtain ⟨⟨o1, o2, o3⟩, o4⟩ := hok
    have o3 := o3 (by omega) (by omega)
    dsimp only at o1 o2 o3 o4 g16
    refine zb210_5_80 hT rfl hdp ?_
    rw [show D + (f + 1) + 4 = D + 1 + f + 4 by omega]
    exact h4 (D + 1) dp b M1 κ _ v hdp hB1 hF1 g16 g17 o2 (by omega) o4 (o4 _) hκ
theorem rr_prodL_80 (hT : zRules T) (hrd : m 74 13 = 80) (hsd : s = sgR m 80) (hL : L ≤ 80) (h15 : m 74 15 ≤ 80) (hs : ∀ a, L ≤ a → s a = -1) (h5 : Rs T m s L 211 5 1 f) (h4 : Rl T m s L 210 4 f) : Rl T m s L 210 4 (f + 1) := by
  intro D dp a M κ v acc hdp hBM hF h16 h17 ha hf hacc hv hκ
  have hlt : ∀ a, ¬ s a = -1 → a < L := fun a h => by
    rcases Nat.lt_or_ge a L with q | q
    · exact q
    · exact absurd (hs a q) h
  have hr : hrR M 80 = s a := by rw [hsd]; exact hr_s (by omega) hF h16
  have n16 : (zu M 74 16 (M 74 16 + 1)) 74 16 = ((a + 1 : Nat) : Int) := by rw [zu_sm rfl]; omega
  have n17 : (zu M 74 16 (M 74 16 + 1)) 74 17 = -1 := by rw [zu_off (by omega)]; exact h17
  rw [rp, if_neg (by omega), if_neg (by omega), if_neg (by omega), if_neg (by omega), if_pos rfl] at hκ
  refine zb210_6_80 hT rfl hBM ((hF 74 13 rfl).trans hrd) hdp (by omega) (by omega) (by have e15 := hF 74 15 rfl; have b15 : 0 ≤ M 74 15 ∧ M 74 15 ≤ 80 := hBM 74 15; omega) (fun c1 hz => ?_) (fun c1 c2 => ?_) (fun c1 c2 hz => ?_)
  · rw [hr] at c1
    rw [if_pos c1] at hκ
    have haL := hlt a (by omega)
    have hok := rp_ok hs f 5 dp (a + 1) e0f haL (fun _ => rfl)
    refine h5 D dp (a + 1) _ _ hdp hz (hF.set rfl) n16 n17 haL (by omega) ?_
    revert hκ hok
    cases rp s f 5 dp (a + 1) e0f with
    | inl x =>
      intro hκ hok w M1 hw hB1 hF1 hx
      have := hok.2
      refine zb210_61_80 hT rfl hdp (by omega) (fun q => by omega) (fun q => by omega) (fun _ => ?_)
      exact zb210_6_80f hT rfl hB1 ((hF1 74 13 rfl).trans hrd) hdp (by omega) (hκ _ M1 (wrB _) hB1 hF1 hx)
    | inr y =>
      obtain ⟨b, w⟩ := y
      intro hκ hok M1 hB1 hF1 g16 g17
      obtain ⟨⟨o1, o2, o3⟩, o4⟩ := hok
      dsimp only at o1 o2 o3 o4 g16
      refine zb210_61_80 hT rfl hdp (by omega) (fun q => by omega) (fun q => by omega) (fun _ => ?_)
      rw [show D + (f + 1) + 4 = D + 1 + f + 4 by omega]
      refine h4 (D + 1) dp b M1 κ _ _ hdp hB1 hF1 g16 g17 o2 (by omega) (fun e => wr_wr _) ?_ hκ
      exact wr_mul2 (by rw [hv, hacc]) rfl
  · rw [hr] at c1 c2
    rw [if_neg c1, if_neg c2] at hκ
    rw [hv]
    exact hκ M hBM hF h16 h17
  · rw [hr] at c1 c2
    rw [if_neg c1, if_pos c2] at hκ
    have haL := hlt a (by omega)
    have hok := rp_ok hs f 5 dp (a + 1) e0f haL (fun _ => rfl)
    refine h5 D dp (a + 1) _ _ hdp hz (hF.set rfl) n16 n17 haL (by omega) ?_
    revert hκ hok
    cases rp s f 5 dp (a + 1) e0f with
    | inl x =>
      intro hκ hok w M1 hw hB1 hF1 hx
      have := hok.2
      refine zb210_61_80 hT rfl hdp (by omega) (fun _ _ => ?_) (fun _ _ => ?_) (fun q => by omega)
      · exact zb210_6_80f hT rfl hB1 ((hF1 74 13 rfl).trans hrd) hdp (by omega) (hκ _ M1 (wrB _) hB1 hF1 hx)
      · exact zb210_6_80f hT rfl hB1 ((hF1 74 13 rfl).trans hrd) hdp (by omega) (hκ _ M1 (wrB _) hB1 hF1 hx)
    | inr y =>
      obtain ⟨b, w⟩ := y
      intro hκ hok M1 hB1 hF1 g16 g17
      obtain ⟨⟨o1, o2, o3⟩, o4⟩ := hok
      dsimp only at o1 o2 o3 o4 g16
      have hn : ∀ e, wr (if w e = 0 then (0 : Int) else wr (Int.tdiv (acc e) (w e))) = if w e = 0 then 0 else wr (Int.tdiv (acc e) (w e)) := fun e => by
        split
        · rfl
        · exact wr_wr _
      refine zb210_61_80 hT rfl hdp (by omega) (fun _ hw0 => ?_) (fun _ hw0 => ?_) (fun q => by omega)
      · rw [show D + (f + 1) + 4 = D + 1 + f + 4 by omega]
        refine h4 (D + 1) dp b M1 κ _ _ hdp hB1 hF1 g16 g17 o2 (by omega) hn ?_ hκ
        rw [o4] at hw0
        dsimp only
        rw [if_neg hw0, hv, o4]
      · rw [show D + (f + 1) + 4 = D + 1 + f + 4 by omega]
        refine h4 (D + 1) dp b M1 κ _ _ hdp hB1 hF1 g16 g17 o2 (by omega) hn ?_ hκ
        rw [o4] at hw0
        rw [if_pos hw0]
        rfl
theorem rr_held_86 (hT : zRules T) (hrd : m 74 13 = 86) (hsd : s = sgR m 86) (hL : L ≤ 40) (h15 : m 74 15 ≤ 40) (hs : ∀ a, L ≤ a → s a = -1) (h1 : Rs T m s L 209 1 3 f) : Rs T m s L 208 0 4 (f + 1) := by
  intro D dp a M κ hdp hBM hF h16 h17 ha hf hκ
  have hlt : ∀ a, ¬ s a = -1 → a < L := fun a h => by
    rcases Nat.lt_or_ge a L with q | q
    · exact q
    · exact absurd (hs a q) h
  refine zb208_0_86 hT hBM ((hF 74 13 rfl).trans hrd) hdp (by omega) (by omega) (by have e15 := hF 74 15 rfl; have b15 : 0 ≤ M 74 15 ∧ M 74 15 ≤ 80 := hBM 74 15; omega) ?_
  refine h1 D dp a M _ hdp hBM hF h16 h17 ha (by omega) ?_
  rw [rp, if_pos rfl] at hκ
  have hok := rp_ok hs f 1 dp a e0f ha (fun _ => rfl)
  revert hκ hok
  cases rp s f 1 dp a e0f with
  | inl x =>
    intro hκ hok v M1 hv hB1 hF1 hx
    have := hok.2
    exact zb208_5_86f hT rfl hB1 ((hF1 74 13 rfl).trans hrd) hdp hv (by omega) (hκ v M1 hv hB1 hF1 hx)
  | inr y =>
    obtain ⟨b, v⟩ := y
    intro hκ hok M1 hB1 hF1 g16 g17
    dsimp only [rb] at hκ
    dsimp only at g16
    obtain ⟨⟨o1, o2, o3⟩, o4⟩ := hok
    dsimp only at o1 o2 o3 o4
    have o3 := o3 (by omega) (by omega)
    have hv := wrR (o4 (envR m))
    have hr : hrR M1 86 = s b := by rw [hsd]; exact hr_s (by omega) hF1 g16
    have n16 : (zu M1 74 16 (M1 74 16 + 1)) 74 16 = ((b + 1 : Nat) : Int) := by rw [zu_sm rfl]; omega
    have n17 : (zu M1 74 16 (M1 74 16 + 1)) 74 17 = -1 := by rw [zu_off (by omega)]; exact g17
    refine zb208_5_86 hT rfl hB1 ((hF1 74 13 rfl).trans hrd) hdp hv (by omega) (by omega) (by have e15 := hF1 74 15 rfl; have b15 : 0 ≤ M1 74 15 ∧ M1 74 15 ≤ 80 := hB1 74 15; omega) (fun c1 hz => ?_) (fun c1 c2 hz => ?_) (fun c1 c2 c3 hz => ?_) (fun c1 c2 c3 => ?_)
    · rw [hr] at c1
      rw [if_pos c1] at hκ
      have hbL := hlt b (by omega)
      have hok2 := rp_ok hs f 1 dp (b + 1) e0f hbL (fun _ => rfl)
      refine h1 D dp (b + 1) _ _ hdp hz (hF1.set rfl) n16 n17 hbL (by omega) ?_
      revert hκ hok2
      cases rp s f 1 dp (b + 1) e0f with
      | inl x =>
        intro hκ hok2 w M2 hw hB2 hF2 hx
        exact zb208_21_86 hT rfl hv hw (fun _ => hκ 0 M2 (by omega) hB2 hF2 hx) (fun _ => hκ 1 M2 (by omega) hB2 hF2 hx)
      | inr y =>
        obtain ⟨c, w⟩ := y
        intro hκ hok2 M2 hB2 hF2 i16 i17
        have hw := wrR (hok2.2 (envR m))
        have hk := hκ M2 hB2 hF2 i16 i17
        dsimp only at hk
        refine zb208_21_86 hT rfl hv hw (fun q => ?_) (fun q => ?_)
        · rw [if_neg q] at hk; exact hk
        · rw [if_pos q] at hk; exact hk
    · rw [hr] at c1 c2
      rw [if_neg c1, if_pos c2] at hκ
      have hbL := hlt b (by omega)
      have hok2 := rp_ok hs f 1 dp (b + 1) e0f hbL (fun _ => rfl)
      refine h1 D dp (b + 1) _ _ hdp hz (hF1.set rfl) n16 n17 hbL (by omega) ?_
      revert hκ hok2
      cases rp s f 1 dp (b + 1) e0f with
      | inl x =>
        intro hκ hok2 w M2 hw hB2 hF2 hx
        exact zb208_45_86 hT rfl hv hw (fun _ => hκ 0 M2 (by omega) hB2 hF2 hx) (fun _ => hκ 1 M2 (by omega) hB2 hF2 hx)
      | inr y =>
        obtain ⟨c, w⟩ := y
        intro hκ hok2 M2 hB2 hF2 i16 i17
        have hw := wrR (hok2.2 (envR m))
        have hk := hκ M2 hB2 hF2 i16 i17
        dsimp only at hk
        refine zb208_45_86 hT rfl hv hw (fun q => ?_) (fun q => ?_)
        · rw [if_neg q] at hk; exact hk
        · rw [if_pos q] at hk; exact hk
    · rw [hr] at c1 c2 c3
      rw [if_neg c1, if_neg c2, if_pos c3] at hκ
      have hbL := hlt b (by omega)
      have hok2 := rp_ok hs f 1 dp (b + 1) e0f hbL (fun _ => rfl)
      refine h1 D dp (b + 1) _ _ hdp hz (hF1.set rfl) n16 n17 hbL (by omega) ?_
      revert hκ hok2
      cases rp s f 1 dp (b + 1) e0f with
      | inl x =>
        intro hκ hok2 w M2 hw hB2 hF2 hx
        exact zb208_69_86 hT rfl hv hw (fun _ => hκ 0 M2 (by omega) hB2 hF2 hx) (fun _ => hκ 1 M2 (by omega) hB2 hF2 hx)
      | inr y =>
        obtain ⟨c, w⟩ := y
        intro hκ hok2 M2 hB2 hF2 i16 i17
        have hw := wrR (hok2.2 (envR m))
        have hk := hκ M2 hB2 hF2 i16 i17
        dsimp only at hk
        refine zb208_69_86 hT rfl hv hw (fun q => ?_) (fun q => ?_)
        · rw [if_neg q] at hk; exact hk
        · rw [if_pos q] at hk; exact hk
    · rw [hr] at c1 c2 c3
      rw [if_neg c1, if_neg c2, if_neg c3] at hκ
      exact hκ M1 hB1 hF1 g16 g17
theorem rr_sum_86 (hT : zRules T) (hrd : m 74 13 = 86) (hL : L ≤ 40) (h15 : m 74 15 ≤ 40) (hs : ∀ a, L ≤ a → s a = -1) (h3 : Rs T m s L 210 3 2 f) (h2 : Rl T m s L 209 2 f) : Rs T m s L 209 1 3 (f + 1) := by
  intro D dp a M κ hdp hBM hF h16 h17 ha hf hκ
  refine zb209_0_86 hT hBM ((hF 74 13 rfl).trans hrd) hdp (by omega) (by omega) (by have e15 := hF 74 15 rfl; have b15 : 0 ≤ M 74 15 ∧ M 74 15 ≤ 80 := hBM 74 15; omega) ?_
  refine h3 D dp a M _ hdp hBM hF h16 h17 ha (by omega) ?_
  rw [rp, if_neg (by omega), if_pos rfl] at hκ
  have hok := rp_ok hs f 3 dp a e0f ha (fun _ => rfl)
  revert hκ hok
  cases rp s f 3 dp a e0f with
  | inl x =>
    intro hκ hok v M1 hv hB1 hF1 hx
    have := hok.2
    refine zb209_5_86 hT rfl hdp ?_
    refine zb209_6_86f hT rfl hB1 ((hF1 74 13 rfl).trans hrd) hdp (by omega) ?_
    rw [wr_id hv.1 hv.2]
    exact hκ v M1 hv hB1 hF1 hx
  | inr y =>
    obtain ⟨b, v⟩ := y
    intro hκ hok M1 hB1 hF1 g16 g17
    obtain ⟨⟨o1, o2, o3⟩, o4⟩ := hok
    have o3 := o3 (by omega) (by omega)
    dsimp only at o1 o2 o3 o4 g16
    refine zb209_5_86 hT rfl hdp ?_
    rw [show D + (f + 1) + 4 = D + 1 + f + 4 by omega]
    exact h2 (D + 1) dp b M1 κ _ v hdp hB1 hF1 g16 g17 o2 (by omega) o4 (o4 _) hκ
theorem rr_sumL_86 (hT : zRules T) (hrd : m 74 13 = 86) (hsd : s = sgR m 86) (hL : L ≤ 40) (h15 : m 74 15 ≤ 40) (hs : ∀ a, L ≤ a → s a = -1) (h3 : Rs T m s L 210 3 2 f) (h2 : Rl T m s L 209 2 f) : Rl T m s L 209 2 (f + 1) := by
  intro D dp a M κ v acc hdp hBM hF h16 h17 ha hf hacc hv hκ
  have hlt : ∀ a, ¬ s a = -1 → a < L := fun a h => by
    rcases Nat.lt_or_ge a L with q | q
    · exact q
    · exact absurd (hs a q) h
  have hr : hrR M 86 = s a := by rw [hsd]; exact hr_s (by omega) hF h16
  have n16 : (zu M 74 16 (M 74 16 + 1)) 74 16 = ((a + 1 : Nat) : Int) := by rw [zu_sm rfl]; omega
  have n17 : (zu M 74 16 (M 74 16 + 1)) 74 17 = -1 := by rw [zu_off (by omega)]; exact h17
  rw [rp, if_neg (by omega), if_neg (by omega), if_pos rfl] at hκ
  refine zb209_6_86 hT rfl hBM ((hF 74 13 rfl).trans hrd) hdp (by omega) (by omega) (by have e15 := hF 74 15 rfl; have b15 : 0 ≤ M 74 15 ∧ M 74 15 ≤ 80 := hBM 74 15; omega) (fun c1 hz => ?_) (fun c1 c2 => ?_) (fun c1 c2 hz => ?_)
  · rw [hr] at c1
    rw [if_pos c1] at hκ
    have haL := hlt a (by omega)
    have hok := rp_ok hs f 3 dp (a + 1) e0f haL (fun _ => rfl)
    refine h3 D dp (a + 1) _ _ hdp hz (hF.set rfl) n16 n17 haL (by omega) ?_
    revert hκ hok
    cases rp s f 3 dp (a + 1) e0f with
    | inl x =>
      intro hκ hok w M1 hw hB1 hF1 hx
      have := hok.2
      refine zb209_61_86 hT rfl hdp (by omega) (fun q => by omega) (fun _ => ?_)
      exact zb209_6_86f hT rfl hB1 ((hF1 74 13 rfl).trans hrd) hdp (by omega) (hκ _ M1 (wrB _) hB1 hF1 hx)
    | inr y =>
      obtain ⟨b, w⟩ := y
      intro hκ hok M1 hB1 hF1 g16 g17
      obtain ⟨⟨o1, o2, o3⟩, o4⟩ := hok
      dsimp only at o1 o2 o3 o4 g16
      refine zb209_61_86 hT rfl hdp (by omega) (fun q => by omega) (fun _ => ?_)
      rw [show D + (f + 1) + 4 = D + 1 + f + 4 by omega]
      refine h2 (D + 1) dp b M1 κ _ _ hdp hB1 hF1 g16 g17 o2 (by omega) (fun e => wr_wr _) ?_ hκ
      exact wr_add2 (by rw [hv, hacc]) rfl
  · rw [hr] at c1 c2
    rw [if_neg c1, if_neg c2] at hκ
    rw [hv]
    exact hκ M hBM hF h16 h17
  · rw [hr] at c1 c2
    rw [if_neg c1, if_pos c2] at hκ
    have haL := hlt a (by omega)
    have hok := rp_ok hs f 3 dp (a + 1) e0f haL (fun _ => rfl)
    refine h3 D dp (a + 1) _ _ hdp hz (hF.set rfl) n16 n17 haL (by omega) ?_
    revert hκ hok
    cases rp s f 3 dp (a + 1) e0f with
    | inl x =>
      intro hκ hok w M1 hw hB1 hF1 hx
      have := hok.2
      refine zb209_61_86 hT rfl hdp (by omega) (fun _ => ?_) (fun q => by omega)
      exact zb209_6_86f hT rfl hB1 ((hF1 74 13 rfl).trans hrd) hdp (by omega) (hκ _ M1 (wrB _) hB1 hF1 hx)
    | inr y =>
      obtain ⟨b, w⟩ := y
      intro hκ hok M1 hB1 hF1 g16 g17
      obtain ⟨⟨o1, o2, o3⟩, o4⟩ := hok
      dsimp only at o1 o2 o3 o4 g16
      refine zb209_61_86 hT rfl hdp (by omega) (fun _ => ?_) (fun q => by omega)
      rw [show D + (f + 1) + 4 = D + 1 + f + 4 by omega]
      refine h2 (D + 1) dp b M1 κ _ _ hdp hB1 hF1 g16 g17 o2 (by omega) (fun e => wr_wr _) ?_ hκ
      exact wr_sub2 (by rw [hv, hacc]) rfl
theorem rr_prod_86 (hT : zRules T) (hrd : m 74 13 = 86) (hL : L ≤ 40) (h15 : m 74 15 ≤ 40) (hs : ∀ a, L ≤ a → s a = -1) (h5 : Rs T m s L 211 5 1 f) (h4 : Rl T m s L 210 4 f) : Rs T m s L 210 3 2 (f + 1) := by
  intro D dp a M κ hdp hBM hF h16 h17 ha hf hκ
  refine zb210_0_86 hT hBM ((hF 74 13 rfl).trans hrd) hdp (by omega) (by omega) (by have e15 := hF 74 15 rfl; have b15 : 0 ≤ M 74 15 ∧ M 74 15 ≤ 80 := hBM 74 15; omega) ?_
  refine h5 D dp a M _ hdp hBM hF h16 h17 ha (by omega) ?_
  rw [rp, if_neg (by omega), if_neg (by omega), if_neg (by omega), if_pos rfl] at hκ
  have hok := rp_ok hs f 5 dp a e0f ha (fun _ => rfl)
  revert hκ hok
  cases rp s f 5 dp a e0f with
  | inl x =>
    intro hκ hok v M1 hv hB1 hF1 hx
    have := hok.2
    refine zb210_5_86 hT rfl hdp ?_
    refine zb210_6_86f hT rfl hB1 ((hF1 74 13 rfl).trans hrd) hdp (by omega) ?_
    rw [wr_id hv.1 hv.2]
    exact hκ v M1 hv hB1 hF1 hx
  | inr y =>
    obtain ⟨b, v⟩ := y
    intro hκ hok M1 hB1 hF1 g16 g17
    obtain ⟨⟨o1, o2, o3⟩, o4⟩ := hok
    have o3 := o3 (by omega) (by omega)
    dsimp only at o1 o2 o3 o4 g16
    refine zb210_5_86 hT rfl hdp ?_
    rw [show D + (f + 1) + 4 = D + 1 + f + 4 by omega]
    exact h4 (D + 1) dp b M1 κ _ v hdp hB1 hF1 g16 g17 o2 (by omega) o4 (o4 _) hκ
theorem rr_prodL_86 (hT : zRules T) (hrd : m 74 13 = 86) (hsd : s = sgR m 86) (hL : L ≤ 40) (h15 : m 74 15 ≤ 40) (hs : ∀ a, L ≤ a → s a = -1) (h5 : Rs T m s L 211 5 1 f) (h4 : Rl T m s L 210 4 f) : Rl T m s L 210 4 (f + 1) := by
  intro D dp a M κ v acc hdp hBM hF h16 h17 ha hf hacc hv hκ
  have hlt : ∀ a, ¬ s a = -1 → a < L := fun a h => by
    rcases Nat.lt_or_ge a L with q | q
    · exact q
    · exact absurd (hs a q) h
  have hr : hrR M 86 = s a := by rw [hsd]; exact hr_s (by omega) hF h16
  have n16 : (zu M 74 16 (M 74 16 + 1)) 74 16 = ((a + 1 : Nat) : Int) := by rw [zu_sm rfl]; omega
  have n17 : (zu M 74 16 (M 74 16 + 1)) 74 17 = -1 := by rw [zu_off (by omega)]; exact h17
  rw [rp, if_neg (by omega), if_neg (by omega), if_neg (by omega), if_neg (by omega), if_pos rfl] at hκ
  refine zb210_6_86 hT rfl hBM ((hF 74 13 rfl).trans hrd) hdp (by omega) (by omega) (by have e15 := hF 74 15 rfl; have b15 : 0 ≤ M 74 15 ∧ M 74 15 ≤ 80 := hBM 74 15; omega) (fun c1 hz => ?_) (fun c1 c2 => ?_) (fun c1 c2 hz => ?_)
  · rw [hr] at c1
    rw [if_pos c1] at hκ
    have haL := hlt a (by omega)
    have hok := rp_ok hs f 5 dp (a + 1) e0f haL (fun _ => rfl)
    refine h5 D dp (a + 1) _ _ hdp hz (hF.set rfl) n16 n17 haL (by omega) ?_
    revert hκ hok
    cases rp s f 5 dp (a + 1) e0f with
    | inl x =>
      intro hκ hok w M1 hw hB1 hF1 hx
      have := hok.2
      refine zb210_61_86 hT rfl hdp (by omega) (fun q => by omega) (fun q => by omega) (fun _ => ?_)
      exact zb210_6_86f hT rfl hB1 ((hF1 74 13 rfl).trans hrd) hdp (by omega) (hκ _ M1 (wrB _) hB1 hF1 hx)
    | inr y =>
      obtain ⟨b, w⟩ := y
      intro hκ hok M1 hB1 hF1 g16 g17
      obtain ⟨⟨o1, o2, o3⟩, o4⟩ := hok
      dsimp only at o1 o2 o3 o4 g16
      refine zb210_61_86 hT rfl hdp (by omega) (fun q => by omega) (fun q => by omega) (fun _ => ?_)
      rw [show D + (f + 1) + 4 = D + 1 + f + 4 by omega]
      refine h4 (D + 1) dp b M1 κ _ _ hdp hB1 hF1 g16 g17 o2 (by omega) (fun e => wr_wr _) ?_ hκ
      exact wr_mul2 (by rw [hv, hacc]) rfl
  · rw [hr] at c1 c2
    rw [if_neg c1, if_neg c2] at hκ
    rw [hv]
    exact hκ M hBM hF h16 h17
  · rw [hr] at c1 c2
    rw [if_neg c1, if_pos c2] at hκ
    have haL := hlt a (by omega)
    have hok := rp_ok hs f 5 dp (a + 1) e0f haL (fun _ => rfl)
    refine h5 D dp (a + 1) _ _ hdp hz (hF.set rfl) n16 n17 haL (by omega) ?_
    revert hκ hok
    cases rp s f 5 dp (a + 1) e0f with
    | inl x =>
      intro hκ hok w M1 hw hB1 hF1 hx
      have := hok.2
      refine zb210_61_86 hT rfl hdp (by omega) (fun _ _ => ?_) (fun _ _ => ?_) (fun q => by omega)
      · exact zb210_6_86f hT rfl hB1 ((hF1 74 13 rfl).trans hrd) hdp (by omega) (hκ _ M1 (wrB _) hB1 hF1 hx)
      · exact zb210_6_86f hT rfl hB1 ((hF1 74 13 rfl).trans hrd) hdp (by omega) (hκ _ M1 (wrB _) hB1 hF1 hx)
    | inr y =>
      obtain ⟨b, w⟩ := y
      intro hκ hok M1 hB1 hF1 g16 g17
      obtain ⟨⟨o1, o2, o3⟩, o4⟩ := hok
      dsimp only at o1 o2 o3 o4 g16
      have hn : ∀ e, wr (if w e = 0 then (0 : Int) else wr (Int.tdiv (acc e) (w e))) = if w e = 0 then 0 else wr (Int.tdiv (acc e) (w e)) := fun e => by
        split
        · rfl
        · exact wr_wr _
      refine zb210_61_86 hT rfl hdp (by omega) (fun _ hw0 => ?_) (fun _ hw0 => ?_) (fun q => by omega)
      · rw [show D + (f + 1) + 4 = D + 1 + f + 4 by omega]
        refine h4 (D + 1) dp b M1 κ _ _ hdp hB1 hF1 g16 g17 o2 (by omega) hn ?_ hκ
        rw [o4] at hw0
        dsimp only
        rw [if_neg hw0, hv, o4]
      · rw [show D + (f + 1) + 4 = D + 1 + f + 4 by omega]
        refine h4 (D + 1) dp b M1 κ _ _ hdp hB1 hF1 g16 g17 o2 (by omega) hn ?_ hκ
        rw [o4] at hw0
        rw [if_pos hw0]
        rfl
end ZRule
end
-- 53.thing.lean.txt
section
/-! A thing of THE RULE; LAW by the reference. -/
section ZThing
variable {T : Nat → Nat → zG → (Option zA → zM → Prop) → Prop} {m : zM} {s : Nat → Int} {L f : Nat}
theorem byte_s {b x : Int} (hb : -128 ≤ b ∧ b ≤ 127) (h : z_and b 255 = x) (hx : x ≤ 127) : b = x := by
  rw [z_and255] at h
  omega
theorem rr_num_80 (hT : zRules T) (hrd : m 74 13 = 80) (hsd : s = sgR m 80) (hL : L ≤ 80) (h15 : m 74 15 ≤ 80) (hs : ∀ a, L ≤ a → s a = -1) {D : Nat} {κ : Option zA → zM → Prop} : ∀ (j k a : Nat) (v : Int) (M : zM) (lo : zL), k + j = 3 → (0 ≤ v ∧ (k = 0 → v ≤ 0) ∧ (k = 1 → v ≤ 9) ∧ (k = 2 → v ≤ 99) ∧ v ≤ 999) → zB M → zFr pW m M → M 74 16 = (a : Int) → M 74 17 = -1 → a ≤ L → z_keep [0, 3, 4] lo = [(0, zr 74), (3, zi v), (4, zi (k : Int))] →
    (∀ M1, zB M1 → zFr pW m M1 → M1 74 16 = ((rNum s j a v).1 : Int) → M1 74 17 = -1 → κ (some (zi (rNum s j a v).2)) M1) → T (D + 4) 211 (83, lo, [], M) κ := by
  have hlt : ∀ a, ¬ s a = -1 → a < L := fun a h => by
    rcases Nat.lt_or_ge a L with q | q
    · exact q
    · exact absurd (hs a q) h
  intro j
  induction j with
  | zero =>
    intro k a v M lo hk hv hBM hF h16 h17 ha hlo hκ
    refine zb211_83_80 hT hlo hBM ((hF 74 13 rfl).trans hrd) (by omega) (by omega) (by omega) (by omega) (by have e15 := hF 74 15 rfl; have b15 : 0 ≤ M 74 15 ∧ M 74 15 ≤ 80 := hBM 74 15; omega) (fun _ => hκ M hBM hF h16 h17) (fun q => by omega) (fun q => by omega) (fun q => by omega) (fun q => by omega)
  | succ j ih =>
    intro k a v M lo hk hv hBM hF h16 h17 ha hlo hκ
    have hr : hrR M 80 = s a := by rw [hsd]; exact hr_s (by omega) hF h16
    rw [rNum] at hκ
    refine zb211_83_80 hT hlo hBM ((hF 74 13 rfl).trans hrd) (by omega) (by omega) (by omega) (by omega) (by have e15 := hF 74 15 rfl; have b15 : 0 ≤ M 74 15 ∧ M 74 15 ≤ 80 := hBM 74 15; omega) (fun q => by omega) (fun _ q => ?_) (fun _ q1 q2 => ?_) (fun _ q1 q2 => ?_) (fun _ q1 q2 hz => ?_)
    · rw [hr] at q
      rw [if_neg (by omega)] at hκ
      exact hκ M hBM hF h16 h17
    · rw [hr] at q1 q2
      rw [if_neg (by omega)] at hκ
      exact hκ M hBM hF h16 h17
    · rw [hr] at q1 q2
      have := hlt a (by omega)
      omega
    · rw [hr] at q1 q2
      have haL := hlt a (by omega)
      rw [if_pos (by omega)] at hκ
      have e9 : ((M 74 16 + 1) - 1).toNat = a := by omega
      have hb : -128 ≤ M 80 a ∧ M 80 a ≤ 127 := hBM 80 a
      have hsa : z_and (M 80 a) 255 = s a := by
        have h2 := hr
        unfold hrR at h2
        rw [h16, Int.toNat_natCast] at h2
        split at h2
        · exact h2
        · omega
      have hd := byte_s hb hsa (by omega)
      rw [e9, hd]
      refine ih (k + 1) (a + 1) (10 * v + (s a - 48)) _ _ (by omega) (by omega) hz (hF.set rfl) ?_ ?_ haL rfl hκ
      · rw [zu_sm rfl]
        omega
      · rw [zu_off (by omega)]
        exact h17
theorem rr_thing_80 (hT : zRules T) (hrd : m 74 13 = 80) (hsd : s = sgR m 80) (hL : L ≤ 80) (h15 : m 74 15 ≤ 80) (hs : ∀ a, L ≤ a → s a = -1) (hE : okEnv m) (h5 : Rs T m s L 211 5 1 f) (h0 : Rs T m s L 208 0 4 f) : Rs T m s L 211 5 1 (f + 1) := by
  intro D dp a M κ hdp hBM hF h16 h17 ha hf hκ
  have hlt : ∀ a, ¬ s a = -1 → a < L := fun a h => by
    rcases Nat.lt_or_ge a L with q | q
    · exact q
    · exact absurd (hs a q) h
  have hr : hrR M 80 = s a := by rw [hsd]; exact hr_s (by omega) hF h16
  have n16 : (zu M 74 16 (M 74 16 + 1)) 74 16 = ((a + 1 : Nat) : Int) := by rw [zu_sm rfl]; omega
  have n17 : (zu M 74 16 (M 74 16 + 1)) 74 17 = -1 := by rw [zu_off (by omega)]; exact h17
  have f17 : (zu M 74 17 (M 74 16)) 74 17 = (a : Int) := by rw [zu_sm rfl]; exact h16
  have e26 : M 74 26 = m 74 26 := hF 74 26 rfl
  have e27 : M 74 27 = m 74 27 := hF 74 27 rfl
  have e28 : M 74 28 = m 74 28 := hF 74 28 rfl
  have e29 : M 74 29 = m 74 29 := hF 74 29 rfl
  have e30 : M 74 30 = m 74 30 := hF 74 30 rfl
  have e77 : ∀ j, M 77 j = m 77 j := fun j => hF 77 j rfl
  have e76 : ∀ j, M 76 j = m 76 j := fun j => hF 76 j rfl
  have b77 : 0 ≤ m 77 (m 74 29).toNat ∧ m 77 (m 74 29).toNat ≤ 26 := by
    have := hBM 77 (m 74 29).toNat
    rw [e77] at this
    exact this
  have okl : ¬ m 74 26 = 0 → (0 ≤ m 74 29 ∧ m 74 29 ≤ 3) ∧ (0 ≤ m 74 30 ∧ m 74 30 ≤ 500000) ∧ 1 ≤ m 77 (m 74 29).toNat := fun q => hE.resolve_left q
  have okm : ¬ m 74 26 = 0 → 0 ≤ Int.tmod (m 74 30) (m 77 (m 74 29).toNat) ∧ Int.tmod (m 74 30) (m 77 (m 74 29).toNat) ≤ 25 := fun q => by
    obtain ⟨q1, q2, q3⟩ := okl q
    exact z_tmodB _ _ _ q2.1 q3 (by omega)
  rw [rp, if_neg (by omega), if_neg (by omega), if_neg (by omega), if_neg (by omega), if_neg (by omega)] at hκ
  refine zb211_0_80 hT hBM ((hF 74 13 rfl).trans hrd) hdp (by omega) (by omega) (by have e15 := hF 74 15 rfl; have b15 : 0 ≤ M 74 15 ∧ M 74 15 ≤ 80 := hBM 74 15; omega) ?_ ?_ ?_ ?_ ?_ ?_ ?_ ?_ ?_ ?_ ?_ ?_ ?_ ?_ ?_ ?_ ?_ ?_ ?_
  all_goals rw [hr]
  · intro c1 hz
    rw [if_pos c1] at hκ
    have haL := hlt a (by omega)
    have hok := rp_ok hs f 5 dp (a + 1) e0f haL (fun _ => rfl)
    refine h5 D dp (a + 1) _ _ hdp hz (hF.set rfl) n16 n17 haL (by omega) ?_
    revert hκ hok
    cases rp s f 5 dp (a + 1) e0f with
    | inl x =>
      intro hκ hok w M1 hw hB1 hF1 hx
      exact zb211_14_80 hT rfl (hκ _ M1 (wrB _) hB1 hF1 hx)
    | inr y =>
      obtain ⟨b, w⟩ := y
      intro hκ hok M1 hB1 hF1 g16 g17
      exact zb211_14_80 hT rfl (hκ M1 hB1 hF1 g16 g17)
  · intro c1 c2 c3 hz
    simp (disch := omega) only [if_neg] at hκ
    exact hκ 0 _ (by omega) hz (hF.set rfl) f17
  · intro c1 c2 c3 c4 c5 c6 hz
    simp (disch := omega) only [if_neg, if_pos] at hκ
    rw [e26] at c6
    have := hκ _ hz (hF.set rfl) n16 n17
    unfold envR at this
    rw [if_neg c6] at this
    rw [e28]
    exact this
  · intro c1 c2 c3 c4 c5 c6 hz
    simp (disch := omega) only [if_neg, if_pos] at hκ
    rw [e26] at c6
    have := hκ _ hz (hF.set rfl) n16 n17
    unfold envR at this
    rw [if_pos c6] at this
    exact this
  · intro c1 c2 c3 c4 c5 c6 c7
    rw [e26] at c7
    have h9 := okl c7
    rw [e29, wr_id (by omega) (by omega)]
    omega
  · intro c1 c2 c3 c4 c5 c6 c7
    rw [e26] at c7
    have h9 := okl c7
    rw [e29, wr_id (by omega) (by omega), e77]
    omega
  · intro c1 c2 c3 c4 c5 c6 c7
    rw [e26] at c7
    have h9 := okl c7
    have h8 := okm c7
    rw [e29, e30, wr_id (a := m 74 29) (by omega) (by omega), wr_id (a := m 74 30) (by omega) (by omega), e77, wr_id (by omega) (by omega)]
    omega
  · intro c1 c2 c3 c4 c5 c6 c7 hz
    rw [e26] at c7
    have h9 := okl c7
    have h8 := okm c7
    simp (disch := omega) only [if_neg, if_pos] at hκ
    have := hκ _ hz (hF.set rfl) n16 n17
    unfold envR at this
    rw [if_neg c7] at this
    dsimp only at this
    have b76 : ∀ j, 0 ≤ m 76 j ∧ m 76 j ≤ 9 := fun j => by
      have q := hBM 76 j
      rw [e76] at q
      exact q
    have b9 := b76 (26 * m 74 29 + Int.tmod (m 74 30) (m 77 (m 74 29).toNat)).toNat
    rw [wr_id (a := m 76 _) (by omega) (by omega)] at this
    rw [e29, e30, wr_id (a := m 74 29) (by omega) (by omega), wr_id (a := m 74 30) (by omega) (by omega), e77, wr_id (by omega) (by omega), e76]
    exact this
  · intro c1 c2 c3 c4 c5 c6 c7 hz
    simp (disch := omega) only [if_neg, if_pos] at hκ
    rw [e26] at c7
    have := hκ _ hz (hF.set rfl) n16 n17
    unfold envR at this
    rw [if_pos c7] at this
    exact this
  · intro c1 c2 c3 c4 c5 c6 c7 c8 hz
    simp (disch := omega) only [if_neg, if_pos] at hκ
    rw [e26] at c8
    have := hκ _ hz (hF.set rfl) n16 n17
    unfold envR at this
    rw [if_neg c8] at this
    rw [e30]
    exact this
  · intro c1 c2 c3 c4 c5 c6 c7 c8 hz
    simp (disch := omega) only [if_neg, if_pos] at hκ
    rw [e26] at c8
    have := hκ _ hz (hF.set rfl) n16 n17
    unfold envR at this
    rw [if_pos c8] at this
    exact this
  · intro c1 c2 c3 c4 c5 c6 c7 c8 c9 hz
    simp (disch := omega) only [if_neg, if_pos] at hκ
    rw [e26] at c9
    have := hκ _ hz (hF.set rfl) n16 n17
    unfold envR at this
    rw [if_neg c9] at this
    rw [e29]
    exact this
  · intro c1 c2 c3 c4 c5 c6 c7 c8 c9 hz
    simp (disch := omega) only [if_neg, if_pos] at hκ
    rw [e26] at c9
    have := hκ _ hz (hF.set rfl) n16 n17
    unfold envR at this
    rw [if_pos c9] at this
    exact this
  · intro c1 c2 c3 c4 c5 c6 c7 c8 c9 c10 hz
    simp (disch := omega) only [if_neg, if_pos] at hκ
    rw [e26] at c10
    have := hκ _ hz (hF.set rfl) n16 n17
    unfold envR at this
    rw [if_neg c10] at this
    rw [e27]
    exact this
  · intro c1 c2 c3 c4 c5 c6 c7 c8 c9 c10 hz
    simp (disch := omega) only [if_neg, if_pos] at hκ
    rw [e26] at c10
    have := hκ _ hz (hF.set rfl) n16 n17
    unfold envR at this
    rw [if_pos c10] at this
    exact this
  · intro c1 c2 c3 c4 c5 c6 c7 c8 c9 hz
    simp (disch := omega) only [if_neg] at hκ
    exact hκ 0 _ (by omega) hz (hF.set rfl) f17
  · intro c1 c2 c3 c4
    rw [if_neg c1, if_neg c2, if_pos (by omega)] at hκ
    exact rr_num_80 hT hrd hsd hL h15 hs 3 0 a 0 M _ (by omega) (by omega) hBM hF h16 h17 ha rfl (fun M1 h1 h2 h3 h4 => hκ M1 h1 h2 h3 h4)
  · intro c1 c2 c3 hz
    rw [if_neg c1, if_pos c2, if_neg (by omega)] at hκ
    exact hκ 0 _ (by omega) hz (hF.set rfl) f17
  · intro c1 c2 c3 hz
    rw [if_neg c1, if_pos c2, if_pos (by omega)] at hκ
    have haL := hlt a (by omega)
    have hok := rp_ok hs f 0 (dp + 1) (a + 1) e0f haL (fun _ => rfl)
    refine h0 D (dp + 1) (a + 1) _ _ (by omega) hz (hF.set rfl) n16 n17 haL (by omega) ?_
    revert hκ hok
    cases rp s f 0 (dp + 1) (a + 1) e0f with
    | inl x =>
      intro hκ hok w M1 hw hB1 hF1 hx
      have := hok.2
      refine zb211_58_80f hT rfl hB1 ((hF1 74 13 rfl).trans hrd) (by omega) ?_
      rw [wr_id hw.1 hw.2]
      exact hκ w M1 hw hB1 hF1 hx
    | inr y =>
      obtain ⟨b, w⟩ := y
      intro hκ hok M1 hB1 hF1 g16 g17
      obtain ⟨⟨o1, o2, o3⟩, o4⟩ := hok
      dsimp only [rb] at hκ
      dsimp only at o1 o2 o3 o4 g16
      have hr1 : hrR M1 80 = s b := by rw [hsd]; exact hr_s (by omega) hF1 g16
      have hw := wrR (o4 (envR m))
      refine zb211_58_80 hT rfl hB1 ((hF1 74 13 rfl).trans hrd) (by omega) (by omega) (by have e15 := hF1 74 15 rfl; have b15 : 0 ≤ M1 74 15 ∧ M1 74 15 ≤ 80 := hB1 74 15; omega) (fun q hz1 => ?_) (fun q hz1 => ?_)
      · rw [hr1] at q
        rw [if_pos q] at hκ
        rw [o4]
        refine hκ _ hz1 (hF1.set rfl) ?_ ?_
        · rw [zu_sm rfl]
          dsimp only
          omega
        · rw [zu_off (by omega)]
          exact g17
      · rw [hr1] at q
        rw [if_neg q] at hκ
        rw [o4]
        refine hκ _ _ hw hz1 (hF1.set rfl) ?_
        rw [zu_sm rfl]
        exact g16
theorem rr_all_80 (hT : zRules T) (hrd : m 74 13 = 80) (hsd : s = sgR m 80) (hL : L ≤ 80) (h15 : m 74 15 ≤ 80) (hs : ∀ a, L ≤ a → s a = -1) (hE : okEnv m) : ∀ f, Rs T m s L 208 0 4 f ∧ Rs T m s L 209 1 3 f ∧ Rl T m s L 209 2 f ∧ Rs T m s L 210 3 2 f ∧ Rl T m s L 210 4 f ∧ Rs T m s L 211 5 1 f := by
  intro f
  induction f with
  | zero => exact ⟨fun D dp a M κ _ _ _ _ _ _ h => by omega, fun D dp a M κ _ _ _ _ _ _ h => by omega, fun D dp a M κ v acc _ _ _ _ _ _ h => by omega, fun D dp a M κ _ _ _ _ _ _ h => by omega, fun D dp a M κ v acc _ _ _ _ _ _ h => by omega, fun D dp a M κ _ _ _ _ _ _ h => by omega⟩
  | succ f ih =>
    obtain ⟨i0, i1, i2, i3, i4, i5⟩ := ih
    exact ⟨rr_held_80 hT hrd hsd hL h15 hs i1, rr_sum_80 hT hrd hL h15 hs i3 i2, rr_sumL_80 hT hrd hsd hL h15 hs i3 i2, rr_prod_80 hT hrd hL h15 hs i5 i4, rr_prodL_80 hT hrd hsd hL h15 hs i5 i4, rr_thing_80 hT hrd hsd hL h15 hs hE i5 i0⟩
theorem rr_num_86 (hT : zRules T) (hrd : m 74 13 = 86) (hsd : s = sgR m 86) (hL : L ≤ 40) (h15 : m 74 15 ≤ 40) (hs : ∀ a, L ≤ a → s a = -1) {D : Nat} {κ : Option zA → zM → Prop} : ∀ (j k a : Nat) (v : Int) (M : zM) (lo : zL), k + j = 3 → (0 ≤ v ∧ (k = 0 → v ≤ 0) ∧ (k = 1 → v ≤ 9) ∧ (k = 2 → v ≤ 99) ∧ v ≤ 999) → zB M → zFr pW m M → M 74 16 = (a : Int) → M 74 17 = -1 → a ≤ L → z_keep [0, 3, 4] lo = [(0, zr 74), (3, zi v), (4, zi (k : Int))] →
    (∀ M1, zB M1 → zFr pW m M1 → M1 74 16 = ((rNum s j a v).1 : Int) → M1 74 17 = -1 → κ (some (zi (rNum s j a v).2)) M1) → T (D + 4) 211 (83, lo, [], M) κ := by
  have hlt : ∀ a, ¬ s a = -1 → a < L := fun a h => by
    rcases Nat.lt_or_ge a L with q | q
    · exact q
    · exact absurd (hs a q) h
  intro j
  induction j with
  | zero =>
    intro k a v M lo hk hv hBM hF h16 h17 ha hlo hκ
    refine zb211_83_86 hT hlo hBM ((hF 74 13 rfl).trans hrd) (by omega) (by omega) (by omega) (by omega) (by have e15 := hF 74 15 rfl; have b15 : 0 ≤ M 74 15 ∧ M 74 15 ≤ 80 := hBM 74 15; omega) (fun _ => hκ M hBM hF h16 h17) (fun q => by omega) (fun q => by omega) (fun q => by omega) (fun q => by omega)
  | succ j ih =>
    intro k a v M lo hk hv hBM hF h16 h17 ha hlo hκ
    have hr : hrR M 86 = s a := by rw [hsd]; exact hr_s (by omega) hF h16
    rw [rNum] at hκ
    refine zb211_83_86 hT hlo hBM ((hF 74 13 rfl).trans hrd) (by omega) (by omega) (by omega) (by omega) (by have e15 := hF 74 15 rfl; have b15 : 0 ≤ M 74 15 ∧ M 74 15 ≤ 80 := hBM 74 15; omega) (fun q => by omega) (fun _ q => ?_) (fun _ q1 q2 => ?_) (fun _ q1 q2 => ?_) (fun _ q1 q2 hz => ?_)
    · rw [hr] at q
      rw [if_neg (by omega)] at hκ
      exact hκ M hBM hF h16 h17
    · rw [hr] at q1 q2
      rw [if_neg (by omega)] at hκ
      exact hκ M hBM hF h16 h17
    · rw [hr] at q1 q2
      have := hlt a (by omega)
      omega
    · rw [hr] at q1 q2
      have haL := hlt a (by omega)
      rw [if_pos (by omega)] at hκ
      have e9 : ((M 74 16 + 1) - 1).toNat = a := by omega
      have hb : -128 ≤ M 86 a ∧ M 86 a ≤ 127 := hBM 86 a
      have hsa : z_and (M 86 a) 255 = s a := by
        have h2 := hr
        unfold hrR at h2
        rw [h16, Int.toNat_natCast] at h2
        split at h2
        · exact h2
        · omega
      have hd := byte_s hb hsa (by omega)
      rw [e9, hd]
      refine ih (k + 1) (a + 1) (10 * v + (s a - 48)) _ _ (by omega) (by omega) hz (hF.set rfl) ?_ ?_ haL rfl hκ
      · rw [zu_sm rfl]
        omega
      · rw [zu_off (by omega)]
        exact h17
theorem rr_thing_86 (hT : zRules T) (hrd : m 74 13 = 86) (hsd : s = sgR m 86) (hL : L ≤ 40) (h15 : m 74 15 ≤ 40) (hs : ∀ a, L ≤ a → s a = -1) (hE : okEnv m) (h5 : Rs T m s L 211 5 1 f) (h0 : Rs T m s L 208 0 4 f) : Rs T m s L 211 5 1 (f + 1) := by
  intro D dp a M κ hdp hBM hF h16 h17 ha hf hκ
  have hlt : ∀ a, ¬ s a = -1 → a < L := fun a h => by
    rcases Nat.lt_or_ge a L with q | q
    · exact q
    · exact absurd (hs a q) h
  have hr : hrR M 86 = s a := by rw [hsd]; exact hr_s (by omega) hF h16
  have n16 : (zu M 74 16 (M 74 16 + 1)) 74 16 = ((a + 1 : Nat) : Int) := by rw [zu_sm rfl]; omega
  have n17 : (zu M 74 16 (M 74 16 + 1)) 74 17 = -1 := by rw [zu_off (by omega)]; exact h17
  have f17 : (zu M 74 17 (M 74 16)) 74 17 = (a : Int) := by rw [zu_sm rfl]; exact h16
  have e26 : M 74 26 = m 74 26 := hF 74 26 rfl
  have e27 : M 74 27 = m 74 27 := hF 74 27 rfl
  have e28 : M 74 28 = m 74 28 := hF 74 28 rfl
  have e29 : M 74 29 = m 74 29 := hF 74 29 rfl
  have e30 : M 74 30 = m 74 30 := hF 74 30 rfl
  have e77 : ∀ j, M 77 j = m 77 j := fun j => hF 77 j rfl
  have e76 : ∀ j, M 76 j = m 76 j := fun j => hF 76 j rfl
  have b77 : 0 ≤ m 77 (m 74 29).toNat ∧ m 77 (m 74 29).toNat ≤ 26 := by
    have := hBM 77 (m 74 29).toNat
    rw [e77] at this
    exact this
  have okl : ¬ m 74 26 = 0 → (0 ≤ m 74 29 ∧ m 74 29 ≤ 3) ∧ (0 ≤ m 74 30 ∧ m 74 30 ≤ 500000) ∧ 1 ≤ m 77 (m 74 29).toNat := fun q => hE.resolve_left q
  have okm : ¬ m 74 26 = 0 → 0 ≤ Int.tmod (m 74 30) (m 77 (m 74 29).toNat) ∧ Int.tmod (m 74 30) (m 77 (m 74 29).toNat) ≤ 25 := fun q => by
    obtain ⟨q1, q2, q3⟩ := okl q
    exact z_tmodB _ _ _ q2.1 q3 (by omega)
  rw [rp, if_neg (by omega), if_neg (by omega), if_neg (by omega), if_neg (by omega), if_neg (by omega)] at hκ
  refine zb211_0_86 hT hBM ((hF 74 13 rfl).trans hrd) hdp (by omega) (by omega) (by have e15 := hF 74 15 rfl; have b15 : 0 ≤ M 74 15 ∧ M 74 15 ≤ 80 := hBM 74 15; omega) ?_ ?_ ?_ ?_ ?_ ?_ ?_ ?_ ?_ ?_ ?_ ?_ ?_ ?_ ?_ ?_ ?_ ?_ ?_
  all_goals rw [hr]
  · intro c1 hz
    rw [if_pos c1] at hκ
    have haL := hlt a (by omega)
    have hok := rp_ok hs f 5 dp (a + 1) e0f haL (fun _ => rfl)
    refine h5 D dp (a + 1) _ _ hdp hz (hF.set rfl) n16 n17 haL (by omega) ?_
    revert hκ hok
    cases rp s f 5 dp (a + 1) e0f with
    | inl x =>
      intro hκ hok w M1 hw hB1 hF1 hx
      exact zb211_14_86 hT rfl (hκ _ M1 (wrB _) hB1 hF1 hx)
    | inr y =>
      obtain ⟨b, w⟩ := y
      intro hκ hok M1 hB1 hF1 g16 g17
      exact zb211_14_86 hT rfl (hκ M1 hB1 hF1 g16 g17)
  · intro c1 c2 c3 hz
    simp (disch := omega) only [if_neg] at hκ
    exact hκ 0 _ (by omega) hz (hF.set rfl) f17
  · intro c1 c2 c3 c4 c5 c6 hz
    simp (disch := omega) only [if_neg, if_pos] at hκ
    rw [e26] at c6
    have := hκ _ hz (hF.set rfl) n16 n17
    unfold envR at this
    rw [if_neg c6] at this
    rw [e28]
    exact this
  · intro c1 c2 c3 c4 c5 c6 hz
    simp (disch := omega) only [if_neg, if_pos] at hκ
    rw [e26] at c6
    have := hκ _ hz (hF.set rfl) n16 n17
    unfold envR at this
    rw [if_pos c6] at this
    exact this
  · intro c1 c2 c3 c4 c5 c6 c7
    rw [e26] at c7
    have h9 := okl c7
    rw [e29, wr_id (by omega) (by omega)]
    omega
  · intro c1 c2 c3 c4 c5 c6 c7
    rw [e26] at c7
    have h9 := okl c7
    rw [e29, wr_id (by omega) (by omega), e77]
    omega
  · intro c1 c2 c3 c4 c5 c6 c7
    rw [e26] at c7
    have h9 := okl c7
    have h8 := okm c7
    rw [e29, e30, wr_id (a := m 74 29) (by omega) (by omega), wr_id (a := m 74 30) (by omega) (by omega), e77, wr_id (by omega) (by omega)]
    omega
  · intro c1 c2 c3 c4 c5 c6 c7 hz
    rw [e26] at c7
    have h9 := okl c7
    have h8 := okm c7
    simp (disch := omega) only [if_neg, if_pos] at hκ
    have := hκ _ hz (hF.set rfl) n16 n17
    unfold envR at this
    rw [if_neg c7] at this
    dsimp only at this
    have b76 : ∀ j, 0 ≤ m 76 j ∧ m 76 j ≤ 9 := fun j => by
      have q := hBM 76 j
      rw [e76] at q
      exact q
    have b9 := b76 (26 * m 74 29 + Int.tmod (m 74 30) (m 77 (m 74 29).toNat)).toNat
    rw [wr_id (a := m 76 _) (by omega) (by omega)] at this
    rw [e29, e30, wr_id (a := m 74 29) (by omega) (by omega), wr_id (a := m 74 30) (by omega) (by omega), e77, wr_id (by omega) (by omega), e76]
    exact this
  · intro c1 c2 c3 c4 c5 c6 c7 hz
    simp (disch := omega) only [if_neg, if_pos] at hκ
    rw [e26] at c7
    have := hκ _ hz (hF.set rfl) n16 n17
    unfold envR at this
    rw [if_pos c7] at this
    exact this
  · intro c1 c2 c3 c4 c5 c6 c7 c8 hz
    simp (disch := omega) only [if_neg, if_pos] at hκ
    rw [e26] at c8
    have := hκ _ hz (hF.set rfl) n16 n17
    unfold envR at this
    rw [if_neg c8] at this
    rw [e30]
    exact this
  · intro c1 c2 c3 c4 c5 c6 c7 c8 hz
    simp (disch := omega) only [if_neg, if_pos] at hκ
    rw [e26] at c8
    have := hκ _ hz (hF.set rfl) n16 n17
    unfold envR at this
    rw [if_pos c8] at this
    exact this
  · intro c1 c2 c3 c4 c5 c6 c7 c8 c9 hz
    simp (disch := omega) only [if_neg, if_pos] at hκ
    rw [e26] at c9
    have := hκ _ hz (hF.set rfl) n16 n17
    unfold envR at this
    rw [if_neg c9] at this
    rw [e29]
    exact this
  · intro c1 c2 c3 c4 c5 c6 c7 c8 c9 hz
    simp (disch := omega) only [if_neg, if_pos] at hκ
    rw [e26] at c9
    have := hκ _ hz (hF.set rfl) n16 n17
    unfold envR at this
    rw [if_pos c9] at this
    exact this
  · intro c1 c2 c3 c4 c5 c6 c7 c8 c9 c10 hz
    simp (disch := omega) only [if_neg, if_pos] at hκ
    rw [e26] at c10
    have := hκ _ hz (hF.set rfl) n16 n17
    unfold envR at this
    rw [if_neg c10] at this
    rw [e27]
    exact this
  · intro c1 c2 c3 c4 c5 c6 c7 c8 c9 c10 hz
    simp (disch := omega) only [if_neg, if_pos] at hκ
    rw [e26] at c10
    have := hκ _ hz (hF.set rfl) n16 n17
    unfold envR at this
    rw [if_pos c10] at this
    exact this
  · intro c1 c2 c3 c4 c5 c6 c7 c8 c9 hz
    simp (disch := omega) only [if_neg] at hκ
    exact hκ 0 _ (by omega) hz (hF.set rfl) f17
  · intro c1 c2 c3 c4
    rw [if_neg c1, if_neg c2, if_pos (by omega)] at hκ
    exact rr_num_86 hT hrd hsd hL h15 hs 3 0 a 0 M _ (by omega) (by omega) hBM hF h16 h17 ha rfl (fun M1 h1 h2 h3 h4 => hκ M1 h1 h2 h3 h4)
  · intro c1 c2 c3 hz
    rw [if_neg c1, if_pos c2, if_neg (by omega)] at hκ
    exact hκ 0 _ (by omega) hz (hF.set rfl) f17
  · intro c1 c2 c3 hz
    rw [if_neg c1, if_pos c2, if_pos (by omega)] at hκ
    have haL := hlt a (by omega)
    have hok := rp_ok hs f 0 (dp + 1) (a + 1) e0f haL (fun _ => rfl)
    refine h0 D (dp + 1) (a + 1) _ _ (by omega) hz (hF.set rfl) n16 n17 haL (by omega) ?_
    revert hκ hok
    cases rp s f 0 (dp + 1) (a + 1) e0f with
    | inl x =>
      intro hκ hok w M1 hw hB1 hF1 hx
      have := hok.2
      refine zb211_58_86f hT rfl hB1 ((hF1 74 13 rfl).trans hrd) (by omega) ?_
      rw [wr_id hw.1 hw.2]
      exact hκ w M1 hw hB1 hF1 hx
    | inr y =>
      obtain ⟨b, w⟩ := y
      intro hκ hok M1 hB1 hF1 g16 g17
      obtain ⟨⟨o1, o2, o3⟩, o4⟩ := hok
      dsimp only [rb] at hκ
      dsimp only at o1 o2 o3 o4 g16
      have hr1 : hrR M1 86 = s b := by rw [hsd]; exact hr_s (by omega) hF1 g16
      have hw := wrR (o4 (envR m))
      refine zb211_58_86 hT rfl hB1 ((hF1 74 13 rfl).trans hrd) (by omega) (by omega) (by have e15 := hF1 74 15 rfl; have b15 : 0 ≤ M1 74 15 ∧ M1 74 15 ≤ 80 := hB1 74 15; omega) (fun q hz1 => ?_) (fun q hz1 => ?_)
      · rw [hr1] at q
        rw [if_pos q] at hκ
        rw [o4]
        refine hκ _ hz1 (hF1.set rfl) ?_ ?_
        · rw [zu_sm rfl]
          dsimp only
          omega
        · rw [zu_off (by omega)]
          exact g17
      · rw [hr1] at q
        rw [if_neg q] at hκ
        rw [o4]
        refine hκ _ _ hw hz1 (hF1.set rfl) ?_
        rw [zu_sm rfl]
        exact g16
theorem rr_all_86 (hT : zRules T) (hrd : m 74 13 = 86) (hsd : s = sgR m 86) (hL : L ≤ 40) (h15 : m 74 15 ≤ 40) (hs : ∀ a, L ≤ a → s a = -1) (hE : okEnv m) : ∀ f, Rs T m s L 208 0 4 f ∧ Rs T m s L 209 1 3 f ∧ Rl T m s L 209 2 f ∧ Rs T m s L 210 3 2 f ∧ Rl T m s L 210 4 f ∧ Rs T m s L 211 5 1 f := by
  intro f
  induction f with
  | zero => exact ⟨fun D dp a M κ _ _ _ _ _ _ h => by omega, fun D dp a M κ _ _ _ _ _ _ h => by omega, fun D dp a M κ v acc _ _ _ _ _ _ h => by omega, fun D dp a M κ _ _ _ _ _ _ h => by omega, fun D dp a M κ v acc _ _ _ _ _ _ h => by omega, fun D dp a M κ _ _ _ _ _ _ h => by omega⟩
  | succ f ih =>
    obtain ⟨i0, i1, i2, i3, i4, i5⟩ := ih
    exact ⟨rr_held_86 hT hrd hsd hL h15 hs i1, rr_sum_86 hT hrd hL h15 hs i3 i2, rr_sumL_86 hT hrd hsd hL h15 hs i3 i2, rr_prod_86 hT hrd hL h15 hs i5 i4, rr_prodL_86 hT hrd hsd hL h15 hs i5 i4, rr_thing_86 hT hrd hsd hL h15 hs hE i5 i0⟩
end ZThing
end
-- 54.lawr.lean.txt
section
/-! LAW by the reference is LAW by the class. -/
noncomputable def okE (e : zEnv) : Prop := wr e.1 = e.1 ∧ wr e.2.1 = e.2.1 ∧ wr e.2.2.1 = e.2.2.1 ∧ wr e.2.2.2.1 = e.2.2.2.1 ∧ wr e.2.2.2.2 = e.2.2.2.2
/-- THE RULE as the reference keeps it -/
noncomputable def sQ (m : zM) (a : Nat) : Int := if (a : Int) < m 74 25 then z_and (m 86 a) 255 else -1
noncomputable def RuleRel (m : zM) : Prop := (m 9 4 < 1 ∧ m 74 25 = 0) ∨ (¬ m 9 4 < 1 ∧ ¬ m 74 25 = 0 ∧ ∃ v, rp (sQ m) 164 0 0 0 e0f = .inr ((m 74 25).toNat, v) ∧ ∀ e, okE e → ruleV m e = v e)
noncomputable def AlmRel (m : zM) : Prop := m 74 1 = m 4 4 ∧ ∀ p : Nat, (p : Int) < m 4 4 → m 77 p = m 6 p ∧ ∀ k : Nat, (k : Int) < m 6 p → m 76 (26 * p + k) = m 5 (26 * p + k)
noncomputable def LawRel (m : zM) : Prop := WFr m ∧ AlmRel m ∧ RuleRel m
noncomputable def lbW (c j : Nat) : Bool := Nat.beq c 74 && (Nat.ble 13 j && Nat.blt j 18 || Nat.ble 26 j && Nat.blt j 31)
theorem lgt_R {m : zM} {p : Nat} {w : Int} (hB : zB m) (hA : LawRel m) (hp : (p : Int) < m 4 4) (hw : 0 ≤ w) : m 76 (26 * (p : Int) + Int.tmod w (m 77 p)).toNat = lgt m p w ∧ 1 ≤ m 77 p ∧ m 77 p ≤ 26 := by
  obtain ⟨h1, h2, h3⟩ := hA
  obtain ⟨g1, g2⟩ := h2.2 p hp
  have g3 := h1.1 p hp
  have b6 : 0 ≤ m 6 p ∧ m 6 p ≤ 26 := hB 6 p
  have hm := z_tmodB w (m 6 p) (m 6 p - 1) hw g3 (by omega)
  unfold lgt
  rw [g1]
  refine ⟨?_, by omega, by omega⟩
  have e1 : (26 * (p : Int) + Int.tmod w (m 6 p)).toNat = 26 * p + (Int.tmod w (m 6 p)).toNat := by omega
  have e2 : ((p : Int) * 26 + Int.tmod w (m 6 p)).toNat = 26 * p + (Int.tmod w (m 6 p)).toNat := by omega
  rw [e1, e2]
  exact g2 _ (by omega)
noncomputable def lawSR (S : Nat → Nat → Bool) : Prop := lawS S ∧ S 74 1 = false ∧ S 74 25 = false ∧ (∀ j, S 76 j = false) ∧ (∀ j, S 77 j = false) ∧ (∀ j, S 86 j = false)
theorem LawRel_fr {S : Nat → Nat → Bool} {m m1 : zM} (h : zFr S m m1) (hS : lawSR S) (hR : LawRel m) : LawRel m1 := by
  obtain ⟨⟨s1, s2, s3, s4, s5, s6, s7⟩, t1, t2, t3, t4, t5⟩ := hS
  have e1 := h 4 4 s1
  have e2 : m1 5 = m 5 := funext fun j => h 5 j (s2 j)
  have e3 : m1 6 = m 6 := funext fun j => h 6 j (s3 j)
  have e4 := h 9 4 s4
  have e5 : m1 10 = m 10 := funext fun j => h 10 j (s5 j)
  have e6 : m1 11 = m 11 := funext fun j => h 11 j (s6 j)
  have e7 : m1 12 = m 12 := funext fun j => h 12 j (s7 j)
  have e8 := h 74 1 t1
  have e9 := h 74 25 t2
  have ea : m1 76 = m 76 := funext fun j => h 76 j (t3 j)
  have eb : m1 77 = m 77 := funext fun j => h 77 j (t4 j)
  have ec : m1 86 = m 86 := funext fun j => h 86 j (t5 j)
  have es : sQ m1 = sQ m := by
    funext a
    unfold sQ
    rw [e9, ec]
  have er : ruleV m1 = ruleV m := by
    funext e
    unfold ruleV
    rw [e4, e5, e6, e7]
  unfold LawRel WFr AlmRel RuleRel at *
  rw [e1, e2, e3, e4, e5, e6, e7, e8, e9, ea, eb, es, er]
  exact hR
section ZLawR
variable {T : Nat → Nat → zG → (Option zA → zM → Prop) → Prop} {D : Nat} {κ : Option zA → zM → Prop} {m : zM}
theorem z_lawBy (hT : zRules T) {h i w : Int} {p : Nat} (hB : zB m) (hh : 0 ≤ h ∧ h ≤ 99) (hi : 0 ≤ i ∧ i ≤ 5) (hp : p ≤ 3) (hw : 0 ≤ w ∧ w ≤ 500000) (hR : LawRel m)
    (hk : ∀ m1, zB m1 → zFr lbW m m1 → κ (some (zi (LW m h i p w))) m1) : T (D + 169) 214 (0, [(0, zr 74), (1, zi i), (2, zi h), (3, zi (p : Int)), (4, zi w)], [], m) κ := by
  have hA := hR.2.1.1
  by_cases hpl : (p : Int) < m 4 4
  · obtain ⟨eL, q1, q2⟩ := lgt_R hB hR hpl hw.1
    have bL : 0 ≤ lgt m p w ∧ lgt m p w ≤ 9 := hB 5 _
    have e : LW m h i p w = cl99 (ruleV m (h, lgt m p w, w, (p : Int), i)) := if_pos hpl
    have okv : okE (h, lgt m p w, w, (p : Int), i) := ⟨wr_id (by omega) (by omega), wr_id (by dsimp only; omega) (by dsimp only; omega), wr_id (by dsimp only; omega) (by dsimp only; omega), wr_id (by dsimp only; omega) (by dsimp only; omega), wr_id (by dsimp only; omega) (by dsimp only; omega)⟩
    rw [e] at hk
    have b25 : 0 ≤ m 74 25 ∧ m 74 25 ≤ 40 := hB 74 25
    refine zb214_0a (D := D + 167) hT hB hi hh hp hw ⟨q1, q2⟩ ?_ ?_ ?_ ?_ ?_
    · intro _ hne hz
      obtain ⟨g1, g2, v, hv, hve⟩ := (hR.2.2).resolve_left (fun q => hne q.2)
      -- the state in which it is valued
      generalize hM : (zu (zu (zu (zu (zu (zu (zu (zu (zu (zu m 74 13 86) 74 14 (m 74 25)) 74 15 40) 74 16 0) 74 17 (-1)) 74 26 1) 74 27 i) 74 28 h) 74 29 (p : Int)) 74 30 w) = M at hz ⊢
      have f13 : M 74 13 = 86 := by rw [← hM]; simp (disch := omega) only [zu_off, zu_sm]
      have f14 : M 74 14 = m 74 25 := by rw [← hM]; simp (disch := omega) only [zu_off, zu_sm]
      have f15 : M 74 15 = 40 := by rw [← hM]; simp (disch := omega) only [zu_off, zu_sm]
      have f16 : M 74 16 = 0 := by rw [← hM]; simp (disch := omega) only [zu_off, zu_sm]
      have f17 : M 74 17 = -1 := by rw [← hM]; simp (disch := omega) only [zu_off, zu_sm]
      have f26 : M 74 26 = 1 := by rw [← hM]; simp (disch := omega) only [zu_off, zu_sm]
      have f27 : M 74 27 = i := by rw [← hM]; simp (disch := omega) only [zu_off, zu_sm]
      have f28 : M 74 28 = h := by rw [← hM]; simp (disch := omega) only [zu_off, zu_sm]
      have f29 : M 74 29 = (p : Int) := by rw [← hM]; simp (disch := omega) only [zu_off, zu_sm]
      have f30 : M 74 30 = w := by rw [← hM]; simp (disch := omega) only [zu_sm]
      have f76 : ∀ j, M 76 j = m 76 j := fun j => by rw [← hM]; simp (disch := omega) only [zu_dn]
      have f77 : ∀ j, M 77 j = m 77 j := fun j => by rw [← hM]; simp (disch := omega) only [zu_dn]
      have f86 : ∀ j, M 86 j = m 86 j := fun j => by rw [← hM]; simp (disch := omega) only [zu_dn]
      have fF : zFr lbW m M := by
        rw [← hM]
        exact ((((((((((zFr.refl.set rfl).set rfl).set rfl).set rfl).set rfl).set rfl).set rfl).set rfl).set rfl).set rfl)
      have hs : sgR M 86 = sQ m := by
        funext a
        unfold sgR sQ
        rw [f14, f15, f86]
        by_cases q : (a : Int) < m 74 25
        · rw [if_pos ⟨q, by omega⟩, if_pos q]
        · rw [if_neg (fun x => q x.1), if_neg q]
      have hL : ∀ a, (m 74 25).toNat ≤ a → sQ m a = -1 := fun a ha => by
        unfold sQ
        rw [if_neg (by omega)]
      have hE : okEnv M := Or.inr ⟨by rw [f29]; omega, by rw [f30]; omega, by rw [f29, Int.toNat_natCast, f77]; exact q1⟩
      have hen : envR M = (h, lgt m p w, w, (p : Int), i) := by
        unfold envR
        rw [f26, if_neg (by omega), f27, f28, f29, f30, Int.toNat_natCast, f77, f76, eL]
      have key := (rr_all_86 (L := (m 74 25).toNat) hT f13 hs.symm (by omega) (by omega) hL hE 164).1
      refine key D 0 0 M _ (by omega) hz zFr.refl f16 f17 (by omega) (by omega) ?_
      rw [hv]
      intro M1 hB1 hF1 _ _
      rw [hen]
      dsimp only
      have hrv : ruleV m (h, lgt m p w, w, (p : Int), i) = v (h, lgt m p w, w, (p : Int), i) := hve _ okv
      rw [hrv] at hk
      have hF2 : zFr lbW m (zu M1 74 26 0) := (fF.trans (hF1.mono (fun c j q => by
        simp only [lbW, pW, Bool.and_eq_false_iff] at q ⊢
        rcases q with q | q
        · exact Or.inl q
        · refine Or.inr ?_
          by_cases j16 : j = 16
          · subst j16; cases q
          · by_cases j17 : j = 17
            · subst j17; cases q
            · rw [q_beqF j16, q_beqF j17]; rfl))).set rfl
      refine zb214_79 hT rfl hB1 (fun x1 x2 hz2 => ?_) (fun x1 x2 hz2 => ?_) (fun x1 hz2 => ?_)
      · have := hk _ hz2 hF2
        unfold cl99 at this
        rw [if_pos x1, if_pos x2] at this
        exact this
      · have := hk _ hz2 hF2
        unfold cl99 at this
        rw [if_pos x1, if_neg x2] at this
        exact this
      · have := hk _ hz2 hF2
        unfold cl99 at this
        rw [if_neg x1] at this
        exact this
    all_goals
      try rw [eL]
      have bd := z_tdivB (h * lgt m p w) 10 891 (Int.mul_nonneg hh.1 bL.1) (by omega) (z_mulB h (lgt m p w) 99 9 891 hh.1 bL.1 hh.2 bL.2 rfl).2
      have hw9 : wr (Int.tdiv (h * lgt m p w) 10) = Int.tdiv (h * lgt m p w) 10 := wr_id (by omega) (by omega)
    · intro _ h0 x1 x2
      have h94 : m 9 4 < 1 := by
        rcases hR.2.2 with q | q
        · exact q.1
        · exact absurd h0 q.2.1
      have := hk m hB zFr.refl
      unfold cl99 ruleV at this
      rw [if_pos h94] at this
      dsimp only at this
      rw [hw9, if_pos x1, if_pos x2] at this
      exact this
    · intro _ h0 x1 x2
      have h94 : m 9 4 < 1 := by
        rcases hR.2.2 with q | q
        · exact q.1
        · exact absurd h0 q.2.1
      have := hk m hB zFr.refl
      unfold cl99 ruleV at this
      rw [if_pos h94] at this
      dsimp only at this
      rw [hw9, if_pos x1, if_neg x2] at this
      exact this
    · intro _ h0 x1
      have h94 : m 9 4 < 1 := by
        rcases hR.2.2 with q | q
        · exact q.1
        · exact absurd h0 q.2.1
      have := hk m hB zFr.refl
      unfold cl99 ruleV at this
      rw [if_pos h94] at this
      dsimp only at this
      rw [hw9, if_neg x1] at this
      exact this
    · intro x
      omega
  · have e : LW m h i p w = 0 := if_neg hpl
    rw [e] at hk
    exact zb214_0b (D := D + 167) hT hB hi hh hp hw (fun q => by omega) (fun q => by omega) (fun q => by omega) (fun q => by omega) (fun q => by omega) (fun q => by omega) (fun _ => hk m hB zFr.refl)
theorem z_lawOf (hT : zRules T) {w : Int} {p pl : Nat} (hB : zB m) (hp : p ≤ 5) (hpl : pl ≤ 3) (hw : 0 ≤ w ∧ w ≤ 500000) (hR : LawRel m)
    (hk : ∀ m1, zB m1 → zFr lbW m m1 → κ (some (zi (LW m (m 78 p) (p : Int) pl w))) m1) : T (D + 170) 215 (0, [(0, zr 74), (1, zi (p : Int)), (2, zi (pl : Int)), (3, zi w)], [], m) κ := by
  have h78 : 0 ≤ m 78 p ∧ m 78 p ≤ 99 := hB 78 p
  refine zb215_0 (D := D + 167) hT hB hp ?_
  exact z_lawBy hT hB h78 (by omega) hpl hw hR (fun m1 h1 h2 => zb215_13 (D := D + 167) hT rfl LWB (hk m1 h1 h2))
theorem z_lawIn (hT : zRules T) {d : Int} {p pl : Nat} (hB : zB m) (hp : p ≤ 5) (hpl : m 75 p = (pl : Int)) (hd : 0 ≤ d ∧ d ≤ 200) (hR : LawRel m)
    (hk : ∀ m1, zB m1 → zFr lbW m m1 → κ (some (zi (LW m (m 78 p) (p : Int) pl (m 75 57 + d)))) m1) : T (D + 171) 216 (0, [(0, zr 74), (1, zi (p : Int)), (2, zi d)], [], m) κ := by
  have b1 := zSg hB 75 0 6 0 3 rfl p (by omega) (by omega)
  have b2 : 0 ≤ m 75 57 ∧ m 75 57 ≤ 400000 := hB 75 57
  refine zb216_0 (D := D + 167) hT hB hp hd ?_
  rw [hpl]
  exact z_lawOf hT hB hp (by omega) (by omega) hR (fun m1 h1 h2 => zb216_20 (D := D + 167) hT rfl LWB (hk m1 h1 h2))
end ZLawR
end
-- 55.weeksr.lean.txt
section
/-! A WEEK on the reference's rows. -/
noncomputable def gwW (q c j : Nat) : Bool := mkW q c j || lbW c j
noncomputable def lawR (m : zM) (p : Nat) (pl w : Int) : Int := LW m (m 78 p) (p : Int) pl.toNat w
theorem wkP_okR {L : Nat → Int → Int → Int} {h : Int} {n k : Nat} (hn : n ≤ 6) (hk : k ≤ 8) (hh : 0 ≤ h) : ∀ (j p : Nat) (b : zS), okRow n k b.1 → p + j = n → okRow n k (wkP L h b p j).1 ∧ (wkP L h b p j).1 57 = b.1 57 := by
  intro j
  induction j with
  | zero => intro p b hb _; exact ⟨hb, rfl⟩
  | succ j ih =>
    intro p b hb hp
    rw [wkP]
    split
    · exact ih (p + 1) b hb (by omega)
    · rename_i hne
      have hw := (hb.1 p (by omega)).2
      have h1 := ih (p + 1) _ (hb.mk (h := h) (c := (b.1 (p + 6)).toNat) (v := L p (b.1 p) (b.1 57)) hn hk hh (by omega)) (by omega)
      exact ⟨h1.1, h1.2.trans (mkA_keep (by omega) hb.2.1 (by omega))⟩
theorem wkA_ok {L : Nat → Int → Int → Int} {h : Int} {n k : Nat} {b : zS} (hn : n ≤ 6) (hk : k ≤ 8) (hh : 0 ≤ h) (hb : okRow n k b.1) : okRow n k (wkA L h n b).1 ∧ (wkA L h n b).1 57 = b.1 57 + 1 := by
  obtain ⟨⟨o1, o2, o3, o4⟩, e2⟩ := wkP_okR (L := L) (h := h) hn hk hh n 0 b hb (by omega)
  refine ⟨⟨fun p hp => ?_, ?_, ?_, fun c hc => ?_⟩, ?_⟩
  · unfold wkA
    simp (disch := omega) only [fu_ne]
    exact o1 p hp
  · unfold wkA
    simp (disch := omega) only [fu_ne]
    exact o2
  · unfold wkA
    simp (disch := omega) only [fu_eq]
    omega
  · unfold wkA
    simp (disch := omega) only [fu_ne]
    exact o4 c hc
  · unfold wkA
    simp (disch := omega) only [fu_eq]
    omega
section ZWeekR
variable {T : Nat → Nat → zG → (Option zA → zM → Prop) → Prop} {D : Nat} {κ : Option zA → zM → Prop} {m : zM}
theorem gwL_75 : lawSR (gwW 75) := ⟨⟨rfl, fun _ => rfl, fun _ => rfl, rfl, fun _ => rfl, fun _ => rfl, fun _ => rfl⟩, rfl, rfl, fun _ => rfl, fun _ => rfl, fun _ => rfl⟩
theorem z_goWeek_75 (hT : zRules T) {n k : Nat} {a : zS} (hB : zB m) (hn : m 74 4 = (n : Int)) (hk8 : k ≤ 8) (hLR : LawRel m) (hR : RelR 75 m a) (ho : okRow n k a.1) (hnow : a.1 57 + 1 ≤ 400000)
    (hk : ∀ m1, zB m1 → zFr (gwW 75) m m1 → RelR 75 m1 (wkA (lawR m) (m 79 0) n a) → κ none m1) : T (D + 171) 235 (0, [(0, zr 74), (1, zr 75)], [], m) κ := by
  have h744 : 0 ≤ m 74 4 ∧ m 74 4 ≤ 6 := hB 74 4
  have inner : ∀ (j p : Nat) (M : zM) (b : zS), p + j = n → zB M → zFr (gwW 75) m M → RelR 75 M b → okRow n k b.1 → b.1 57 + 1 ≤ 400000 →
      (∀ M2, zB M2 → zFr (gwW 75) m M2 → RelR 75 M2 (fu (wkP (lawR m) (m 79 0) b p j).1 57 ((wkP (lawR m) (m 79 0) b p j).1 57 + 1), (wkP (lawR m) (m 79 0) b p j).2) → κ none M2) →
      T (D + 171) 235 (2, [(0, zr 74), (1, zr 75), (2, zi (p : Int))], [], M) κ := by
    intro j
    induction j with
    | zero =>
      intro p M b hp hBM hF hRM hb hnw hnx
      have e0 : M 74 4 = m 74 4 := hF 74 4 rfl
      have e57 : M 75 57 = b.1 57 := by rw [hRM.1]
      refine zb235_2_75 (D := D + 167) hT rfl hBM (by omega) (fun _ => ?_) (fun q1 => by omega) (fun q1 => by omega)
      refine hnx _ (zB_u hBM (show 0 ≤ M 75 57 + 1 ∧ M 75 57 + 1 ≤ 400000 by have := hb.2.2; omega)) (hF.set rfl) ⟨?_, ?_, ?_, ?_⟩
      · rw [zu_row, hRM.1]
        rfl
      · rw [zu_dn (by omega)]
        exact hRM.2.1
      · rw [zu_dn (by omega)]
        exact hRM.2.2.1
      · rw [zu_dn (by omega)]
        exact hRM.2.2.2
    | succ j ih =>
      intro p M b hp hBM hF hRM hb hnw hnx
      have e0 : M 74 4 = m 74 4 := hF 74 4 rfl
      have e78 : M 78 p = m 78 p := hF 78 p rfl
      have e79 : M 79 0 = m 79 0 := hF 79 0 rfl
      have g1 : M 75 p = b.1 p := by rw [hRM.1]
      have g2 : M 75 (p + 6) = b.1 (p + 6) := by rw [hRM.1]
      have g3 : M 75 57 = b.1 57 := by rw [hRM.1]
      obtain ⟨w1, w2⟩ := hb.1 p (by omega)
      have w3 := hb.2.2
      rw [wkP] at hnx
      refine zb235_2_75 (D := D + 167) hT rfl hBM (by omega) (fun q1 => by omega) (fun q1 q2 => ?_) (fun q1 q2 => ?_)
      · rw [if_pos (by omega)] at hnx
        exact ih (p + 1) M b (by omega) hBM hF hRM hb hnw hnx
      · rw [if_neg (by omega)] at hnx
        obtain ⟨pl, hpl⟩ : ∃ pl : Nat, M 75 p = (pl : Int) := ⟨(M 75 p).toNat, by omega⟩
        obtain ⟨c, hc⟩ : ∃ c : Nat, M 75 (p + 6) = (c : Int) := ⟨(M 75 (p + 6)).toNat, by omega⟩
        rw [hpl, hc]
        refine z_lawOf hT hBM (by omega) (by omega) (by omega) (LawRel_fr hF gwL_75 hLR) (fun m1 hB1 hF1 => ?_)
        have hF2 : zFr (gwW 75) m m1 := hF.trans (hF1.mono (fun c j q => by
          simp only [gwW, Bool.or_eq_false_iff] at q
          exact q.2))
        have f1 : ∀ j, m1 75 j = M 75 j := fun j => hF1 75 j rfl
        have hR1 : RelR 75 m1 b := by
          refine ⟨?_, ?_, ?_, ?_⟩
          · rw [← hRM.1]
            exact funext f1
          · rw [hF1 74 31 rfl]
            exact hRM.2.1
          · rw [hF1 74 32 rfl]
            exact hRM.2.2.1
          · rw [hF1 74 33 rfl]
            exact hRM.2.2.2
        refine zb235_40_75 (D := D + 167) hT rfl (by omega) LWB (by omega) ?_
        refine z_makes_75 (D := D + 168) hT hB1 (by omega) LWB hR1 (fun m2 hB2 hFt hR2 => ?_)
        refine zb235_43_75 (D := D + 167) hT rfl (by omega) ?_
        have eL : LW M (M 78 p) (p : Int) pl (M 75 57) = lawR m p (b.1 p) (b.1 57) := by
          unfold lawR
          rw [(LW_fr hF gwL_75.1).1, e78, g3, ← g1, hpl]
          rfl
        have ec : (b.1 (p + 6)).toNat = c := by omega
        rw [eL, hF1 79 0 rfl, e79] at hR2
        rw [ec] at hnx
        have hFr2 : zFr (gwW 75) m m2 := hF2.trans (hFt.mono (fun c j q => by
          simp only [gwW, Bool.or_eq_false_iff] at q
          exact q.1))
        have en2 : (mkA (m 79 0) b c (lawR m p (b.1 p) (b.1 57))).1 57 = b.1 57 := mkA_keep (by omega) hb.2.1 (by omega)
        exact ih (p + 1) m2 _ (by omega) hB2 hFr2 hR2 (hb.mk (by omega) (by omega) (hB 79 0).1 (by omega)) (by omega) hnx
  exact zb235_0_75 (D := D + 167) hT (inner n 0 m a (by omega) hB zFr.refl hR ho hnow hk)
theorem gwL_91 : lawSR (gwW 91) := ⟨⟨rfl, fun _ => rfl, fun _ => rfl, rfl, fun _ => rfl, fun _ => rfl, fun _ => rfl⟩, rfl, rfl, fun _ => rfl, fun _ => rfl, fun _ => rfl⟩
theorem z_goWeek_91 (hT : zRules T) {n k : Nat} {a : zS} (hB : zB m) (hn : m 74 4 = (n : Int)) (hk8 : k ≤ 8) (hLR : LawRel m) (hR : RelR 91 m a) (ho : okRow n k a.1) (hnow : a.1 57 + 1 ≤ 400000)
    (hk : ∀ m1, zB m1 → zFr (gwW 91) m m1 → RelR 91 m1 (wkA (lawR m) (m 79 0) n a) → κ none m1) : T (D + 171) 235 (0, [(0, zr 74), (1, zr 91)], [], m) κ := by
  have h744 : 0 ≤ m 74 4 ∧ m 74 4 ≤ 6 := hB 74 4
  have inner : ∀ (j p : Nat) (M : zM) (b : zS), p + j = n → zB M → zFr (gwW 91) m M → RelR 91 M b → okRow n k b.1 → b.1 57 + 1 ≤ 400000 →
      (∀ M2, zB M2 → zFr (gwW 91) m M2 → RelR 91 M2 (fu (wkP (lawR m) (m 79 0) b p j).1 57 ((wkP (lawR m) (m 79 0) b p j).1 57 + 1), (wkP (lawR m) (m 79 0) b p j).2) → κ none M2) →
      T (D + 171) 235 (2, [(0, zr 74), (1, zr 91), (2, zi (p : Int))], [], M) κ := by
    intro j
    induction j with
    | zero =>
      intro p M b hp hBM hF hRM hb hnw hnx
      have e0 : M 74 4 = m 74 4 := hF 74 4 rfl
      have e57 : M 91 57 = b.1 57 := by rw [hRM.1]
      refine zb235_2_91 (D := D + 167) hT rfl hBM (by omega) (fun _ => ?_) (fun q1 => by omega) (fun q1 => by omega)
      refine hnx _ (zB_u hBM (show 0 ≤ M 91 57 + 1 ∧ M 91 57 + 1 ≤ 400000 by have := hb.2.2; omega)) (hF.set rfl) ⟨?_, ?_, ?_, ?_⟩
      · rw [zu_row, hRM.1]
        rfl
      · rw [zu_dn (by omega)]
        exact hRM.2.1
      · rw [zu_dn (by omega)]
        exact hRM.2.2.1
      · rw [zu_dn (by omega)]
        exact hRM.2.2.2
    | succ j ih =>
      intro p M b hp hBM hF hRM hb hnw hnx
      have e0 : M 74 4 = m 74 4 := hF 74 4 rfl
      have e78 : M 78 p = m 78 p := hF 78 p rfl
      have e79 : M 79 0 = m 79 0 := hF 79 0 rfl
      have g1 : M 91 p = b.1 p := by rw [hRM.1]
      have g2 : M 91 (p + 6) = b.1 (p + 6) := by rw [hRM.1]
      have g3 : M 91 57 = b.1 57 := by rw [hRM.1]
      obtain ⟨w1, w2⟩ := hb.1 p (by omega)
      have w3 := hb.2.2
      rw [wkP] at hnx
      refine zb235_2_91 (D := D + 167) hT rfl hBM (by omega) (fun q1 => by omega) (fun q1 q2 => ?_) (fun q1 q2 => ?_)
      · rw [if_pos (by omega)] at hnx
        exact ih (p + 1) M b (by omega) hBM hF hRM hb hnw hnx
      · rw [if_neg (by omega)] at hnx
        obtain ⟨pl, hpl⟩ : ∃ pl : Nat, M 91 p = (pl : Int) := ⟨(M 91 p).toNat, by omega⟩
        obtain ⟨c, hc⟩ : ∃ c : Nat, M 91 (p + 6) = (c : Int) := ⟨(M 91 (p + 6)).toNat, by omega⟩
        rw [hpl, hc]
        refine z_lawOf hT hBM (by omega) (by omega) (by omega) (LawRel_fr hF gwL_91 hLR) (fun m1 hB1 hF1 => ?_)
        have hF2 : zFr (gwW 91) m m1 := hF.trans (hF1.mono (fun c j q => by
          simp only [gwW, Bool.or_eq_false_iff] at q
          exact q.2))
        have f1 : ∀ j, m1 91 j = M 91 j := fun j => hF1 91 j rfl
        have hR1 : RelR 91 m1 b := by
          refine ⟨?_, ?_, ?_, ?_⟩
          · rw [← hRM.1]
            exact funext f1
          · rw [hF1 74 31 rfl]
            exact hRM.2.1
          · rw [hF1 74 32 rfl]
            exact hRM.2.2.1
          · rw [hF1 74 33 rfl]
            exact hRM.2.2.2
        refine zb235_40_91 (D := D + 167) hT rfl (by omega) LWB (by omega) ?_
        refine z_makes_91 (D := D + 168) hT hB1 (by omega) LWB hR1 (fun m2 hB2 hFt hR2 => ?_)
        refine zb235_43_91 (D := D + 167) hT rfl (by omega) ?_
        have eL : LW M (M 78 p) (p : Int) pl (M 91 57) = lawR m p (b.1 p) (b.1 57) := by
          unfold lawR
          rw [(LW_fr hF gwL_91.1).1, e78, g3, ← g1, hpl]
          rfl
        have ec : (b.1 (p + 6)).toNat = c := by omega
        rw [eL, hF1 79 0 rfl, e79] at hR2
        rw [ec] at hnx
        have hFr2 : zFr (gwW 91) m m2 := hF2.trans (hFt.mono (fun c j q => by
          simp only [gwW, Bool.or_eq_false_iff] at q
          exact q.1))
        have en2 : (mkA (m 79 0) b c (lawR m p (b.1 p) (b.1 57))).1 57 = b.1 57 := mkA_keep (by omega) hb.2.1 (by omega)
        exact ih (p + 1) m2 _ (by omega) hB2 hFr2 hR2 (hb.mk (by omega) (by omega) (hB 79 0).1 (by omega)) (by omega) hnx
  exact zb235_0_91 (D := D + 167) hT (inner n 0 m a (by omega) hB zFr.refl hR ho hnow hk)
end ZWeekR
end
-- 56.b6.lean.txt
section
section ZBlocks
variable {T : Nat → Nat → zG → (Option zA → zM → Prop) → Prop}
theorem zb72_0_2r (hT : zRules T) {D : Nat} {κ : Option zA → zM → Prop} {m : zM} 
    (o1 : ∀ j, zbd 3 j (m 3 j))
    (o2 : (0 ≤ (m 2 3) ∧ (m 2 3) ≤ 1000))
    (o3 : (0 ≤ (m 2 2) ∧ (m 2 2) ≤ 80))
    (o4 : wr (nxC m) < 48 → T (D + 3) 72 (10, [(0, zr 2), (1, zi 2), (2, zi (-1)), (3, zi 1)], [], m) κ)
    (o5 : ¬ wr (nxC m) < 48 → ¬ 57 < wr (nxC m) → T (D + 3) 72 (10, [(0, zr 2), (1, zi 2), (2, zi (wr ((nxC m) - 48))), (3, zi 1)], [], (zu m 2 3 ((m 2 3) + 1))) κ)
    (o6 : ¬ wr (nxC m) < 48 → 57 < wr (nxC m) → T (D + 3) 72 (10, [(0, zr 2), (1, zi 2), (2, zi (-1)), (3, zi 1)], [], m) κ) :
    T (D + 3) 72 (0, [(0, zr 2), (1, zi 2)], [], m) κ :=
  hT.1 [(10, [0, 1, 2, 3])] 6 (D + 3) 72 _ κ (hT.1 [] 6 (D + 2) 71 _ _ (z_next hT (o1) (o2) (o3) (hT.1 [] 6 (D + 2) 71 _ _ (And.intro (fun a1 => (hT.1 [] 6 (D + 2) 71 (21, [(0, zr 2), (1, zi 0), (2, zi 9), (3, zi (nxC m))], [], m) _ (hT.1 [(10, [0, 1, 2, 3])] 6 (D + 3) 72 _ _ (o4 a1)))) (fun a2 => (hT.1 [] 6 (D + 2) 71 (13, [(0, zr 2), (1, zi 0), (2, zi 9), (3, zi (nxC m))], [], m) _ (And.intro (fun a3 => (hT.1 [] 6 (D + 2) 71 (24, [(0, zr 2), (1, zi 0), (2, zi 9), (3, zi (nxC m))], [zr 2], m) _ (And.intro trivial (hT.1 [] 6 (D + 2) 71 (34, [(0, zr 2), (1, zi 0), (2, zi 9), (3, zi (nxC m))], [zi (nxC m)], (zu m 2 3 ((m 2 3) + 1))) _ (hT.1 [(10, [0, 1, 2, 3])] 6 (D + 3) 72 _ _ (o5 a2 a3)))))) (fun a4 => (hT.1 [] 6 (D + 2) 71 (22, [(0, zr 2), (1, zi 0), (2, zi 9), (3, zi (nxC m))], [zi (-1)], m) _ (hT.1 [(10, [0, 1, 2, 3])] 6 (D + 3) 72 _ _ (o6 a2 (Classical.byContradiction a4))))))))))))
theorem zb72_0_2 (hT : zRules T) {D : Nat} {κ : Option zA → zM → Prop} {m : zM}  (hB : zB m) (hf0 : 0 ≤ m 2 3 ∧ m 2 3 ≤ 90) 
    (k1 : (nxC m) < 48 → T (D + 3) 72 (10, [(0, zr 2), (1, zi 2), (2, zi (-1)), (3, zi 1)], [], m) κ)
    (k2 : ¬ (nxC m) < 48 → ¬ 57 < (nxC m) → zB (zu m 2 3 ((m 2 3) + 1)) → T (D + 3) 72 (10, [(0, zr 2), (1, zi 2), (2, zi ((nxC m) - 48)), (3, zi 1)], [], (zu m 2 3 ((m 2 3) + 1))) κ)
    (k3 : ¬ (nxC m) < 48 → 57 < (nxC m) → T (D + 3) 72 (10, [(0, zr 2), (1, zi 2), (2, zi (-1)), (3, zi 1)], [], m) κ) :
    T (D + 3) 72 (0, [(0, zr 2), (1, zi 2)], [], m) κ := by
  have hb1 : 0 ≤ (m 2 2) ∧ (m 2 2) ≤ 80 := hB 2 2
  have hb2 : (-1) ≤ (nxC m) ∧ (nxC m) ≤ 65535 := nxCBo m (fun j => hB 3 j)
  have he0 : wr (nxC m) = (nxC m) := wr_id (by omega) (by omega)
  have he1 : wr ((nxC m) - 48) = ((nxC m) - 48) := wr_id (by omega) (by omega)
  have key := @zb72_0_2r T hT D κ m 
  simp only [he0, he1, Int.toNat_natCast] at key
  exact key
    (fun j => hB 3 j)
    (by refine ⟨?_, ?_⟩ <;> omega)
    (by refine ⟨?_, ?_⟩ <;> omega)
    k1
    (fun x0 x1 => k2 x0 x1 (zB_u hB (show (-1) ≤ ((m 2 3) + 1) ∧ ((m 2 3) + 1) ≤ 100 from ⟨by omega, by omega⟩)))
    k3
theorem zb72_10_2r (hT : zRules T) {D : Nat} {κ : Option zA → zM → Prop} {m : zM} {v : Int} {k : Nat} {lo : zL} (hlo : z_keep [0, 1, 2, 3] lo = [(0, zr 2), (1, zi 2), (2, zi v), (3, zi (k : Int))]) 
    (o1 : ¬ wr (k : Int) < 2 → κ (some (zi (wr v))) m)
    (o2 : wr (k : Int) < 2 → wr v = (-1) → κ (some (zi (wr v))) m)
    (o3 : wr (k : Int) < 2 → ¬ wr v = (-1) → ∀ j, zbd 3 j (m 3 j))
    (o4 : wr (k : Int) < 2 → ¬ wr v = (-1) → (0 ≤ (m 2 3) ∧ (m 2 3) ≤ 1000))
    (o5 : wr (k : Int) < 2 → ¬ wr v = (-1) → (0 ≤ (m 2 2) ∧ (m 2 2) ≤ 80))
    (o6 : wr (k : Int) < 2 → ¬ wr v = (-1) → wr (nxC m) < 48 → κ (some (zi (wr v))) m)
    (o7 : wr (k : Int) < 2 → ¬ wr v = (-1) → ¬ wr (nxC m) < 48 → ¬ 57 < wr (nxC m) → ¬ wr (wr ((nxC m) - 48)) = (-1) → T (D + 3) 72 (10, [(0, zr 2), (1, zi 2), (2, zi ((v * 10) + wr ((nxC m) - 48))), (3, zi ((k : Int) + 1))], [], (zu m 2 3 ((m 2 3) + 1))) κ)
    (o8 : wr (k : Int) < 2 → ¬ wr v = (-1) → ¬ wr (nxC m) < 48 → ¬ 57 < wr (nxC m) → wr (wr ((nxC m) - 48)) = (-1) → False)
    (o9 : wr (k : Int) < 2 → ¬ wr v = (-1) → ¬ wr (nxC m) < 48 → 57 < wr (nxC m) → κ (some (zi (wr v))) m) :
    T (D + 3) 72 (10, lo, [], m) κ :=
  zkeep hT hlo (hT.1 [(10, [0, 1, 2, 3])] 6 (D + 3) 72 _ κ (And.intro (fun a1 => (o1 a1)) (fun a2 => (And.intro (fun a3 => (hT.1 [(10, [0, 1, 2, 3])] 6 (D + 3) 72 (51, [(0, zr 2), (1, zi 2), (2, zi v), (3, zi (k : Int))], [], m) _ (o2 (Classical.byContradiction a2) a3))) (fun a4 => (hT.1 [(10, [0, 1, 2, 3])] 6 (D + 3) 72 (20, [(0, zr 2), (1, zi 2), (2, zi v), (3, zi (k : Int))], [], m) _ (hT.1 [] 6 (D + 2) 71 _ _ (z_next hT (o3 (Classical.byContradiction a2) a4) (o4 (Classical.byContradiction a2) a4) (o5 (Classical.byContradiction a2) a4) (hT.1 [] 6 (D + 2) 71 _ _ (And.intro (fun a5 => (hT.1 [] 6 (D + 2) 71 (21, [(0, zr 2), (1, zi 0), (2, zi 9), (3, zi (nxC m))], [], m) _ (hT.1 [(10, [0, 1, 2, 3])] 6 (D + 3) 72 _ _ (And.intro (fun a7 => (z_litF a7 rfl).elim) (fun _ => (o6 (Classical.byContradiction a2) a4 a5)))))) (fun a6 => (hT.1 [] 6 (D + 2) 71 (13, [(0, zr 2), (1, zi 0), (2, zi 9), (3, zi (nxC m))], [], m) _ (And.intro (fun a8 => (hT.1 [] 6 (D + 2) 71 (24, [(0, zr 2), (1, zi 0), (2, zi 9), (3, zi (nxC m))], [zr 2], m) _ (And.intro trivial (hT.1 [] 6 (D + 2) 71 (34, [(0, zr 2), (1, zi 0), (2, zi 9), (3, zi (nxC m))], [zi (nxC m)], (zu m 2 3 ((m 2 3) + 1))) _ (hT.1 [(10, [0, 1, 2, 3])] 6 (D + 3) 72 _ _ (And.intro (fun a10 => (hT.1 [(10, [0, 1, 2, 3])] 6 (D + 3) 72 (40, [(0, zr 2), (1, zi 2), (2, zi v), (3, zi (k : Int)), (4, zi (wr ((nxC m) - 48)))], [zi 10, zi v], (zu m 2 3 ((m 2 3) + 1))) _ (o7 (Classical.byContradiction a2) a4 a6 a8 a10))) (fun a11 => (o8 (Classical.byContradiction a2) a4 a6 a8 (Classical.byContradiction a11)).elim))))))) (fun a9 => (hT.1 [] 6 (D + 2) 71 (22, [(0, zr 2), (1, zi 0), (2, zi 9), (3, zi (nxC m))], [zi (-1)], m) _ (hT.1 [(10, [0, 1, 2, 3])] 6 (D + 3) 72 _ _ (And.intro (fun a12 => (z_litF a12 rfl).elim) (fun _ => (o9 (Classical.byContradiction a2) a4 a6 (Classical.byContradiction a9))))))))))))))))))))
theorem zb72_10_2 (hT : zRules T) {D : Nat} {κ : Option zA → zM → Prop} {m : zM} {v : Int} {k : Nat} {lo : zL} (hlo : z_keep [0, 1, 2, 3] lo = [(0, zr 2), (1, zi 2), (2, zi v), (3, zi (k : Int))])  (hB : zB m) (h_v : (-1) ≤ v ∧ v ≤ 1000) (h_k : k ≤ 3) (hf0 : 0 ≤ m 2 3 ∧ m 2 3 ≤ 90) 
    (k1 : ¬ (k : Int) < 2 → κ (some (zi v)) m)
    (k2 : (k : Int) < 2 → v = (-1) → κ (some (zi v)) m)
    (k3 : (k : Int) < 2 → ¬ v = (-1) → (nxC m) < 48 → κ (some (zi v)) m)
    (k4 : (k : Int) < 2 → ¬ v = (-1) → ¬ (nxC m) < 48 → ¬ 57 < (nxC m) → zB (zu m 2 3 ((m 2 3) + 1)) → T (D + 3) 72 (10, [(0, zr 2), (1, zi 2), (2, zi ((v * 10) + ((nxC m) - 48))), (3, zi ((k : Int) + 1))], [], (zu m 2 3 ((m 2 3) + 1))) κ)
    (k5 : (k : Int) < 2 → ¬ v = (-1) → ¬ (nxC m) < 48 → 57 < (nxC m) → κ (some (zi v)) m) :
    T (D + 3) 72 (10, lo, [], m) κ := by
  have hb3 : 0 ≤ (m 2 2) ∧ (m 2 2) ≤ 80 := hB 2 2
  have hb4 : (-1) ≤ (nxC m) ∧ (nxC m) ≤ 65535 := nxCBo m (fun j => hB 3 j)
  have he0 : wr (k : Int) = (k : Int) := wr_id (by omega) (by omega)
  have he1 : wr v = v := wr_id (by omega) (by omega)
  have he2 : wr (nxC m) = (nxC m) := wr_id (by omega) (by omega)
  have he3 : wr ((nxC m) - 48) = ((nxC m) - 48) := wr_id (by omega) (by omega)
  have key := @zb72_10_2r T hT D κ m v k lo hlo
  simp only [he0, he1, he2, he3, Int.toNat_natCast] at key
  exact key
    k1
    k2
    (fun x0 x1 => fun j => hB 3 j)
    (fun x0 x1 => by refine ⟨?_, ?_⟩ <;> omega)
    (fun x0 x1 => by refine ⟨?_, ?_⟩ <;> omega)
    k3
    (fun x0 x1 x2 x3 x4 => k4 x0 x1 x2 x3 (zB_u hB (show (-1) ≤ ((m 2 3) + 1) ∧ ((m 2 3) + 1) ≤ 100 from ⟨by omega, by omega⟩)))
    (fun x0 x1 x2 x3 x4 => by omega)
    k5
theorem zb72_0_3r (hT : zRules T) {D : Nat} {κ : Option zA → zM → Prop} {m : zM} 
    (o1 : ∀ j, zbd 3 j (m 3 j))
    (o2 : (0 ≤ (m 2 3) ∧ (m 2 3) ≤ 1000))
    (o3 : (0 ≤ (m 2 2) ∧ (m 2 2) ≤ 80))
    (o4 : wr (nxC m) < 48 → T (D + 3) 72 (10, [(0, zr 2), (1, zi 3), (2, zi (-1)), (3, zi 1)], [], m) κ)
    (o5 : ¬ wr (nxC m) < 48 → ¬ 57 < wr (nxC m) → T (D + 3) 72 (10, [(0, zr 2), (1, zi 3), (2, zi (wr ((nxC m) - 48))), (3, zi 1)], [], (zu m 2 3 ((m 2 3) + 1))) κ)
    (o6 : ¬ wr (nxC m) < 48 → 57 < wr (nxC m) → T (D + 3) 72 (10, [(0, zr 2), (1, zi 3), (2, zi (-1)), (3, zi 1)], [], m) κ) :
    T (D + 3) 72 (0, [(0, zr 2), (1, zi 3)], [], m) κ :=
  hT.1 [(10, [0, 1, 2, 3])] 6 (D + 3) 72 _ κ (hT.1 [] 6 (D + 2) 71 _ _ (z_next hT (o1) (o2) (o3) (hT.1 [] 6 (D + 2) 71 _ _ (And.intro (fun a1 => (hT.1 [] 6 (D + 2) 71 (21, [(0, zr 2), (1, zi 0), (2, zi 9), (3, zi (nxC m))], [], m) _ (hT.1 [(10, [0, 1, 2, 3])] 6 (D + 3) 72 _ _ (o4 a1)))) (fun a2 => (hT.1 [] 6 (D + 2) 71 (13, [(0, zr 2), (1, zi 0), (2, zi 9), (3, zi (nxC m))], [], m) _ (And.intro (fun a3 => (hT.1 [] 6 (D + 2) 71 (24, [(0, zr 2), (1, zi 0), (2, zi 9), (3, zi (nxC m))], [zr 2], m) _ (And.intro trivial (hT.1 [] 6 (D + 2) 71 (34, [(0, zr 2), (1, zi 0), (2, zi 9), (3, zi (nxC m))], [zi (nxC m)], (zu m 2 3 ((m 2 3) + 1))) _ (hT.1 [(10, [0, 1, 2, 3])] 6 (D + 3) 72 _ _ (o5 a2 a3)))))) (fun a4 => (hT.1 [] 6 (D + 2) 71 (22, [(0, zr 2), (1, zi 0), (2, zi 9), (3, zi (nxC m))], [zi (-1)], m) _ (hT.1 [(10, [0, 1, 2, 3])] 6 (D + 3) 72 _ _ (o6 a2 (Classical.byContradiction a4))))))))))))
theorem zb72_0_3 (hT : zRules T) {D : Nat} {κ : Option zA → zM → Prop} {m : zM}  (hB : zB m) (hf0 : 0 ≤ m 2 3 ∧ m 2 3 ≤ 90) 
    (k1 : (nxC m) < 48 → T (D + 3) 72 (10, [(0, zr 2), (1, zi 3), (2, zi (-1)), (3, zi 1)], [], m) κ)
    (k2 : ¬ (nxC m) < 48 → ¬ 57 < (nxC m) → zB (zu m 2 3 ((m 2 3) + 1)) → T (D + 3) 72 (10, [(0, zr 2), (1, zi 3), (2, zi ((nxC m) - 48)), (3, zi 1)], [], (zu m 2 3 ((m 2 3) + 1))) κ)
    (k3 : ¬ (nxC m) < 48 → 57 < (nxC m) → T (D + 3) 72 (10, [(0, zr 2), (1, zi 3), (2, zi (-1)), (3, zi 1)], [], m) κ) :
    T (D + 3) 72 (0, [(0, zr 2), (1, zi 3)], [], m) κ := by
  have hb1 : 0 ≤ (m 2 2) ∧ (m 2 2) ≤ 80 := hB 2 2
  have hb2 : (-1) ≤ (nxC m) ∧ (nxC m) ≤ 65535 := nxCBo m (fun j => hB 3 j)
  have he0 : wr (nxC m) = (nxC m) := wr_id (by omega) (by omega)
  have he1 : wr ((nxC m) - 48) = ((nxC m) - 48) := wr_id (by omega) (by omega)
  have key := @zb72_0_3r T hT D κ m 
  simp only [he0, he1, Int.toNat_natCast] at key
  exact key
    (fun j => hB 3 j)
    (by refine ⟨?_, ?_⟩ <;> omega)
    (by refine ⟨?_, ?_⟩ <;> omega)
    k1
    (fun x0 x1 => k2 x0 x1 (zB_u hB (show (-1) ≤ ((m 2 3) + 1) ∧ ((m 2 3) + 1) ≤ 100 from ⟨by omega, by omega⟩)))
    k3
theorem zb72_10_3r (hT : zRules T) {D : Nat} {κ : Option zA → zM → Prop} {m : zM} {v : Int} {k : Nat} {lo : zL} (hlo : z_keep [0, 1, 2, 3] lo = [(0, zr 2), (1, zi 3), (2, zi v), (3, zi (k : Int))]) 
    (o1 : ¬ wr (k : Int) < 3 → κ (some (zi (wr v))) m)
    (o2 : wr (k : Int) < 3 → wr v = (-1) → κ (some (zi (wr v))) m)
    (o3 : wr (k : Int) < 3 → ¬ wr v = (-1) → ∀ j, zbd 3 j (m 3 j))
    (o4 : wr (k : Int) < 3 → ¬ wr v = (-1) → (0 ≤ (m 2 3) ∧ (m 2 3) ≤ 1000))
    (o5 : wr (k : Int) < 3 → ¬ wr v = (-1) → (0 ≤ (m 2 2) ∧ (m 2 2) ≤ 80))
    (o6 : wr (k : Int) < 3 → ¬ wr v = (-1) → wr (nxC m) < 48 → κ (some (zi (wr v))) m)
    (o7 : wr (k : Int) < 3 → ¬ wr v = (-1) → ¬ wr (nxC m) < 48 → ¬ 57 < wr (nxC m) → ¬ wr (wr ((nxC m) - 48)) = (-1) → T (D + 3) 72 (10, [(0, zr 2), (1, zi 3), (2, zi ((v * 10) + wr ((nxC m) - 48))), (3, zi ((k : Int) + 1))], [], (zu m 2 3 ((m 2 3) + 1))) κ)
    (o8 : wr (k : Int) < 3 → ¬ wr v = (-1) → ¬ wr (nxC m) < 48 → ¬ 57 < wr (nxC m) → wr (wr ((nxC m) - 48)) = (-1) → False)
    (o9 : wr (k : Int) < 3 → ¬ wr v = (-1) → ¬ wr (nxC m) < 48 → 57 < wr (nxC m) → κ (some (zi (wr v))) m) :
    T (D + 3) 72 (10, lo, [], m) κ :=
  zkeep hT hlo (hT.1 [(10, [0, 1, 2, 3])] 6 (D + 3) 72 _ κ (And.intro (fun a1 => (o1 a1)) (fun a2 => (And.intro (fun a3 => (hT.1 [(10, [0, 1, 2, 3])] 6 (D + 3) 72 (51, [(0, zr 2), (1, zi 3), (2, zi v), (3, zi (k : Int))], [], m) _ (o2 (Classical.byContradiction a2) a3))) (fun a4 => (hT.1 [(10, [0, 1, 2, 3])] 6 (D + 3) 72 (20, [(0, zr 2), (1, zi 3), (2, zi v), (3, zi (k : Int))], [], m) _ (hT.1 [] 6 (D + 2) 71 _ _ (z_next hT (o3 (Classical.byContradiction a2) a4) (o4 (Classical.byContradiction a2) a4) (o5 (Classical.byContradiction a2) a4) (hT.1 [] 6 (D + 2) 71 _ _ (And.intro (fun a5 => (hT.1 [] 6 (D + 2) 71 (21, [(0, zr 2), (1, zi 0), (2, zi 9), (3, zi (nxC m))], [], m) _ (hT.1 [(10, [0, 1, 2, 3])] 6 (D + 3) 72 _ _ (And.intro (fun a7 => (z_litF a7 rfl).elim) (fun _ => (o6 (Classical.byContradiction a2) a4 a5)))))) (fun a6 => (hT.1 [] 6 (D + 2) 71 (13, [(0, zr 2), (1, zi 0), (2, zi 9), (3, zi (nxC m))], [], m) _ (And.intro (fun a8 => (hT.1 [] 6 (D + 2) 71 (24, [(0, zr 2), (1, zi 0), (2, zi 9), (3, zi (nxC m))], [zr 2], m) _ (And.intro trivial (hT.1 [] 6 (D + 2) 71 (34, [(0, zr 2), (1, zi 0), (2, zi 9), (3, zi (nxC m))], [zi (nxC m)], (zu m 2 3 ((m 2 3) + 1))) _ (hT.1 [(10, [0, 1, 2, 3])] 6 (D + 3) 72 _ _ (And.intro (fun a10 => (hT.1 [(10, [0, 1, 2, 3])] 6 (D + 3) 72 (40, [(0, zr 2), (1, zi 3), (2, zi v), (3, zi (k : Int)), (4, zi (wr ((nxC m) - 48)))], [zi 10, zi v], (zu m 2 3 ((m 2 3) + 1))) _ (o7 (Classical.byContradiction a2) a4 a6 a8 a10))) (fun a11 => (o8 (Classical.byContradiction a2) a4 a6 a8 (Classical.byContradiction a11)).elim))))))) (fun a9 => (hT.1 [] 6 (D + 2) 71 (22, [(0, zr 2), (1, zi 0), (2, zi 9), (3, zi (nxC m))], [zi (-1)], m) _ (hT.1 [(10, [0, 1, 2, 3])] 6 (D + 3) 72 _ _ (And.intro (fun a12 => (z_litF a12 rfl).elim) (fun _ => (o9 (Classical.byContradiction a2) a4 a6 (Classical.byContradiction a9))))))))))))))))))))
theorem zb72_10_3 (hT : zRules T) {D : Nat} {κ : Option zA → zM → Prop} {m : zM} {v : Int} {k : Nat} {lo : zL} (hlo : z_keep [0, 1, 2, 3] lo = [(0, zr 2), (1, zi 3), (2, zi v), (3, zi (k : Int))])  (hB : zB m) (h_v : (-1) ≤ v ∧ v ≤ 1000) (h_k : k ≤ 3) (hf0 : 0 ≤ m 2 3 ∧ m 2 3 ≤ 90) 
    (k1 : ¬ (k : Int) < 3 → κ (some (zi v)) m)
    (k2 : (k : Int) < 3 → v = (-1) → κ (some (zi v)) m)
    (k3 : (k : Int) < 3 → ¬ v = (-1) → (nxC m) < 48 → κ (some (zi v)) m)
    (k4 : (k : Int) < 3 → ¬ v = (-1) → ¬ (nxC m) < 48 → ¬ 57 < (nxC m) → zB (zu m 2 3 ((m 2 3) + 1)) → T (D + 3) 72 (10, [(0, zr 2), (1, zi 3), (2, zi ((v * 10) + ((nxC m) - 48))), (3, zi ((k : Int) + 1))], [], (zu m 2 3 ((m 2 3) + 1))) κ)
    (k5 : (k : Int) < 3 → ¬ v = (-1) → ¬ (nxC m) < 48 → 57 < (nxC m) → κ (some (zi v)) m) :
    T (D + 3) 72 (10, lo, [], m) κ := by
  have hb3 : 0 ≤ (m 2 2) ∧ (m 2 2) ≤ 80 := hB 2 2
  have hb4 : (-1) ≤ (nxC m) ∧ (nxC m) ≤ 65535 := nxCBo m (fun j => hB 3 j)
  have he0 : wr (k : Int) = (k : Int) := wr_id (by omega) (by omega)
  have he1 : wr v = v := wr_id (by omega) (by omega)
  have he2 : wr (nxC m) = (nxC m) := wr_id (by omega) (by omega)
  have he3 : wr ((nxC m) - 48) = ((nxC m) - 48) := wr_id (by omega) (by omega)
  have key := @zb72_10_3r T hT D κ m v k lo hlo
  simp only [he0, he1, he2, he3, Int.toNat_natCast] at key
  exact key
    k1
    k2
    (fun x0 x1 => fun j => hB 3 j)
    (fun x0 x1 => by refine ⟨?_, ?_⟩ <;> omega)
    (fun x0 x1 => by refine ⟨?_, ?_⟩ <;> omega)
    k3
    (fun x0 x1 x2 x3 x4 => k4 x0 x1 x2 x3 (zB_u hB (show (-1) ≤ ((m 2 3) + 1) ∧ ((m 2 3) + 1) ≤ 100 from ⟨by omega, by omega⟩)))
    (fun x0 x1 x2 x3 x4 => by omega)
    k5
theorem zb52_0r (hT : zRules T) {D : Nat} {κ : Option zA → zM → Prop} {m : zM} {d : Nat} 
    (o1 : T (D + 2) 53 (0, [(0, zr 9), (1, zr 2), (2, zi (d : Int))], [], m) (fun r m1 => T (D + 3) 52 (6, [(0, zr 9), (1, zr 2), (2, zi (d : Int))], r.toList ++ [], m1) κ)) :
    T (D + 3) 52 (0, [(0, zr 9), (1, zr 2), (2, zi (d : Int))], [], m) κ :=
  hT.1 [] 6 (D + 3) 52 _ κ (o1)
theorem zb52_0 (hT : zRules T) {D : Nat} {κ : Option zA → zM → Prop} {m : zM} {d : Nat}  (hB : zB m) (h_d : d ≤ 4) (hf0 : 0 ≤ m 2 3 ∧ m 2 3 ≤ 90) 
    (k1 : T (D + 2) 53 (0, [(0, zr 9), (1, zr 2), (2, zi (d : Int))], [], m) (fun r m1 => T (D + 3) 52 (6, [(0, zr 9), (1, zr 2), (2, zi (d : Int))], r.toList ++ [], m1) κ)) :
    T (D + 3) 52 (0, [(0, zr 9), (1, zr 2), (2, zi (d : Int))], [], m) κ := by
  exact zb52_0r hT
    k1
theorem zb52_6r (hT : zRules T) {D : Nat} {κ : Option zA → zM → Prop} {m : zM} {d : Nat} {v : Int} {lo : zL} (hlo : z_keep [0, 1, 2] lo = [(0, zr 9), (1, zr 2), (2, zi (d : Int))]) 
    (o1 : ∀ j, zbd 3 j (m 3 j))
    (o2 : (0 ≤ (m 2 3) ∧ (m 2 3) ≤ 1000))
    (o3 : (0 ≤ (m 2 2) ∧ (m 2 2) ≤ 80))
    (o4 : wr v = (-1) → κ (some (zi (wr v))) m)
    (o5 : ¬ wr v = (-1) → wr (nxC m) = 60 → T (D + 2) 53 (0, [(0, zr 9), (1, zr 2), (2, zi (d : Int))], [], (zu m 2 3 ((m 2 3) + 1))) (fun r m1 => T (D + 3) 52 (57, [(0, zr 9), (1, zr 2), (2, zi (d : Int)), (3, zi v), (4, zi (nxC m))], r.toList ++ [], m1) κ))
    (o6 : ¬ wr v = (-1) → ¬ wr (nxC m) = 60 → wr (nxC m) = 62 → T (D + 2) 53 (0, [(0, zr 9), (1, zr 2), (2, zi (d : Int))], [], (zu m 2 3 ((m 2 3) + 1))) (fun r m1 => T (D + 3) 52 (57, [(0, zr 9), (1, zr 2), (2, zi (d : Int)), (3, zi v), (4, zi (nxC m))], r.toList ++ [], m1) κ))
    (o7 : ¬ wr v = (-1) → ¬ wr (nxC m) = 60 → ¬ wr (nxC m) = 62 → wr (nxC m) = 61 → T (D + 2) 53 (0, [(0, zr 9), (1, zr 2), (2, zi (d : Int))], [], (zu m 2 3 ((m 2 3) + 1))) (fun r m1 => T (D + 3) 52 (57, [(0, zr 9), (1, zr 2), (2, zi (d : Int)), (3, zi v), (4, zi (nxC m))], r.toList ++ [], m1) κ))
    (o8 : ¬ wr v = (-1) → ¬ wr (nxC m) = 60 → ¬ wr (nxC m) = 62 → ¬ wr (nxC m) = 61 → κ (some (zi (wr v))) m) :
    T (D + 3) 52 (6, lo, [zi v], m) κ :=
  zkeep hT hlo (hT.1 [] 6 (D + 3) 52 _ κ (z_next hT (o1) (o2) (o3) (hT.1 [] 6 (D + 3) 52 _ _ (And.intro (fun a1 => (o4 a1)) (fun a2 => (hT.1 [] 6 (D + 3) 52 (22, [(0, zr 9), (1, zr 2), (2, zi (d : Int)), (3, zi v), (4, zi (nxC m))], [zi 60, zi (nxC m)], m) _ (And.intro (fun a3 => (hT.1 [] 6 (D + 3) 52 (48, [(0, zr 9), (1, zr 2), (2, zi (d : Int)), (3, zi v), (4, zi (nxC m))], [zi ((m 2 3) + 1), zr 2], m) _ (And.intro trivial (o5 a2 a3)))) (fun a4 => (And.intro (fun a5 => (hT.1 [] 6 (D + 3) 52 (43, [(0, zr 9), (1, zr 2), (2, zi (d : Int)), (3, zi v), (4, zi (nxC m))], [zr 2, zr 2], m) _ (And.intro trivial (hT.1 [] 6 (D + 3) 52 (53, [(0, zr 9), (1, zr 2), (2, zi (d : Int)), (3, zi v), (4, zi (nxC m))], [zr 2, zr 9], (zu m 2 3 ((m 2 3) + 1))) _ (o6 a2 a4 a5))))) (fun a6 => (hT.1 [] 6 (D + 3) 52 (36, [(0, zr 9), (1, zr 2), (2, zi (d : Int)), (3, zi v), (4, zi (nxC m))], [zi 61, zi (nxC m)], m) _ (And.intro (fun a7 => (hT.1 [] 6 (D + 3) 52 (48, [(0, zr 9), (1, zr 2), (2, zi (d : Int)), (3, zi v), (4, zi (nxC m))], [zi ((m 2 3) + 1), zr 2], m) _ (And.intro trivial (o7 a2 a4 a6 a7)))) (fun a8 => (o8 a2 a4 a6 a8))))))))))))))
theorem zb52_6 (hT : zRules T) {D : Nat} {κ : Option zA → zM → Prop} {m : zM} {d : Nat} {v : Int} {lo : zL} (hlo : z_keep [0, 1, 2] lo = [(0, zr 9), (1, zr 2), (2, zi (d : Int))])  (hB : zB m) (h_d : d ≤ 4) (h_v : (-1) ≤ v ∧ v ≤ 39) (hf0 : 0 ≤ m 2 3 ∧ m 2 3 ≤ 90) 
    (k1 : v = (-1) → κ (some (zi v)) m)
    (k2 : ¬ v = (-1) → (nxC m) = 60 → zB (zu m 2 3 ((m 2 3) + 1)) → T (D + 2) 53 (0, [(0, zr 9), (1, zr 2), (2, zi (d : Int))], [], (zu m 2 3 ((m 2 3) + 1))) (fun r m1 => T (D + 3) 52 (57, [(0, zr 9), (1, zr 2), (2, zi (d : Int)), (3, zi v), (4, zi (nxC m))], r.toList ++ [], m1) κ))
    (k3 : ¬ v = (-1) → ¬ (nxC m) = 60 → (nxC m) = 62 → zB (zu m 2 3 ((m 2 3) + 1)) → T (D + 2) 53 (0, [(0, zr 9), (1, zr 2), (2, zi (d : Int))], [], (zu m 2 3 ((m 2 3) + 1))) (fun r m1 => T (D + 3) 52 (57, [(0, zr 9), (1, zr 2), (2, zi (d : Int)), (3, zi v), (4, zi (nxC m))], r.toList ++ [], m1) κ))
    (k4 : ¬ v = (-1) → ¬ (nxC m) = 60 → ¬ (nxC m) = 62 → (nxC m) = 61 → zB (zu m 2 3 ((m 2 3) + 1)) → T (D + 2) 53 (0, [(0, zr 9), (1, zr 2), (2, zi (d : Int))], [], (zu m 2 3 ((m 2 3) + 1))) (fun r m1 => T (D + 3) 52 (57, [(0, zr 9), (1, zr 2), (2, zi (d : Int)), (3, zi v), (4, zi (nxC m))], r.toList ++ [], m1) κ))
    (k5 : ¬ v = (-1) → ¬ (nxC m) = 60 → ¬ (nxC m) = 62 → ¬ (nxC m) = 61 → κ (some (zi v)) m) :
    T (D + 3) 52 (6, lo, [zi v], m) κ := by
  have hb3 : 0 ≤ (m 2 2) ∧ (m 2 2) ≤ 80 := hB 2 2
  have hb4 : (-1) ≤ (nxC m) ∧ (nxC m) ≤ 65535 := nxCBo m (fun j => hB 3 j)
  have he0 : wr v = v := wr_id (by omega) (by omega)
  have he1 : wr (nxC m) = (nxC m) := wr_id (by omega) (by omega)
  have key := @zb52_6r T hT D κ m d v lo hlo
  simp only [he0, he1, Int.toNat_natCast] at key
  exact key
    (fun j => hB 3 j)
    (by refine ⟨?_, ?_⟩ <;> omega)
    (by refine ⟨?_, ?_⟩ <;> omega)
    k1
    (fun x0 x1 => k2 x0 x1 (zB_u hB (show (-1) ≤ ((m 2 3) + 1) ∧ ((m 2 3) + 1) ≤ 100 from ⟨by omega, by omega⟩)))
    (fun x0 x1 x2 => k3 x0 x1 x2 (zB_u hB (show (-1) ≤ ((m 2 3) + 1) ∧ ((m 2 3) + 1) ≤ 100 from ⟨by omega, by omega⟩)))
    (fun x0 x1 x2 x3 => k4 x0 x1 x2 x3 (zB_u hB (show (-1) ≤ ((m 2 3) + 1) ∧ ((m 2 3) + 1) ≤ 100 from ⟨by omega, by omega⟩)))
    k5
theorem zb52_57r (hT : zRules T) {D : Nat} {κ : Option zA → zM → Prop} {m : zM} {v : Int} {sg : Int} {w : Int} {lo : zL} (hlo : z_keep [0, 3, 4] lo = [(0, zr 9), (3, zi v), (4, zi sg)]) 
    (o1 : ¬ wr w = (-1) → wr (m 9 8) < 40 → (0 ≤ wr (m 9 8) ∧ wr (m 9 8) < 40))
    (o2 : ¬ wr w = (-1) → wr (m 9 8) < 40 → (0 ≤ wr (m 9 8) ∧ wr (m 9 8) < 40))
    (o3 : ¬ wr w = (-1) → wr (m 9 8) < 40 → (0 ≤ wr (m 9 8) ∧ wr (m 9 8) < 40))
    (o4 : ¬ wr w = (-1) → wr (m 9 8) < 40 → κ (some (zi (wr (wr (((m 9 8) + 1) - 1))))) (zu (zu (zu (zu m 14 ((wr (m 9 8)).toNat) sg) 15 ((wr (m 9 8)).toNat) v) 16 ((wr (m 9 8)).toNat) w) 9 8 ((m 9 8) + 1)))
    (o5 : ¬ wr w = (-1) → ¬ wr (m 9 8) < 40 → False)
    (o6 : wr w = (-1) → κ (some (zi (-1))) m) :
    T (D + 3) 52 (57, lo, [zi w], m) κ :=
  zkeep hT hlo (hT.1 [] 6 (D + 3) 52 _ κ (And.intro (fun a1 => (hT.1 [] 6 (D + 3) 52 (72, [(0, zr 9), (3, zi v), (4, zi sg), (5, zi w)], [zi sg, zr 9], m) _ (hT.1 [] 6 (D + 2) 51 _ _ (And.intro (fun a3 => (hT.1 [] 6 (D + 2) 51 (15, [(0, zr 9), (1, zi sg), (2, zi v), (3, zi w)], [zr 14], m) _ (And.intro (And.intro (o1 a1 a3) trivial) (hT.1 [] 6 (D + 2) 51 (25, [(0, zr 9), (1, zi sg), (2, zi v), (3, zi w)], [zr 15], (zu m 14 ((wr (m 9 8)).toNat) sg)) _ (And.intro (And.intro (o2 a1 a3) trivial) (hT.1 [] 6 (D + 2) 51 (35, [(0, zr 9), (1, zi sg), (2, zi v), (3, zi w)], [zr 16], (zu (zu m 14 ((wr (m 9 8)).toNat) sg) 15 ((wr (m 9 8)).toNat) v)) _ (And.intro (And.intro (o3 a1 a3) trivial) (hT.1 [] 6 (D + 2) 51 (43, [(0, zr 9), (1, zi sg), (2, zi v), (3, zi w)], [zr 9, zr 9], (zu (zu (zu m 14 ((wr (m 9 8)).toNat) sg) 15 ((wr (m 9 8)).toNat) v) 16 ((wr (m 9 8)).toNat) w)) _ (And.intro trivial (hT.1 [] 6 (D + 2) 51 (55, [(0, zr 9), (1, zi sg), (2, zi v), (3, zi w)], [zi ((m 9 8) + 1)], (zu (zu (zu (zu m 14 ((wr (m 9 8)).toNat) sg) 15 ((wr (m 9 8)).toNat) v) 16 ((wr (m 9 8)).toNat) w) 9 8 ((m 9 8) + 1))) _ (hT.1 [] 6 (D + 3) 52 _ _ (o4 a1 a3)))))))))))) (fun a4 => (o5 a1 a4).elim))))) (fun a2 => (hT.1 [] 6 (D + 3) 52 (78, [(0, zr 9), (3, zi v), (4, zi sg), (5, zi w)], [zi (-1)], m) _ (o6 (Classical.byContradiction a2))))))
theorem zb52_57 (hT : zRules T) {D : Nat} {κ : Option zA → zM → Prop} {m : zM} {v : Int} {sg : Int} {w : Int} {lo : zL} (hlo : z_keep [0, 3, 4] lo = [(0, zr 9), (3, zi v), (4, zi sg)])  (hB : zB m) (h_v : 0 ≤ v ∧ v ≤ 39) (h_sg : 0 ≤ sg ∧ sg ≤ 65535) (h_w : (-1) ≤ w ∧ w ≤ 39) (hf0 : 0 ≤ m 9 8 ∧ m 9 8 ≤ 39) 
    (k1 : ¬ w = (-1) → zB (zu (zu (zu (zu m 14 ((m 9 8).toNat) sg) 15 ((m 9 8).toNat) v) 16 ((m 9 8).toNat) w) 9 8 ((m 9 8) + 1)) → κ (some (zi (((m 9 8) + 1) - 1))) (zu (zu (zu (zu m 14 ((m 9 8).toNat) sg) 15 ((m 9 8).toNat) v) 16 ((m 9 8).toNat) w) 9 8 ((m 9 8) + 1)))
    (k2 : w = (-1) → κ (some (zi (-1))) m) :
    T (D + 3) 52 (57, lo, [zi w], m) κ := by
  have he0 : wr w = w := wr_id (by omega) (by omega)
  have he1 : wr (m 9 8) = (m 9 8) := wr_id (by omega) (by omega)
  have he2 : wr (((m 9 8) + 1) - 1) = (((m 9 8) + 1) - 1) := wr_id (by omega) (by omega)
  have key := @zb52_57r T hT D κ m v sg w lo hlo
  simp only [he0, he1, he2, Int.toNat_natCast] at key
  exact key
    (fun x0 x1 => by refine ⟨?_, ?_⟩ <;> omega)
    (fun x0 x1 => by refine ⟨?_, ?_⟩ <;> omega)
    (fun x0 x1 => by refine ⟨?_, ?_⟩ <;> omega)
    (fun x0 x1 => k1 x0 (zB_u (zB_u (zB_u (zB_u hB (show (-1) ≤ sg ∧ sg ≤ 65535 from ⟨by omega, by omega⟩)) (show 0 ≤ v ∧ v ≤ 999 from ⟨by omega, by omega⟩)) (show 0 ≤ w ∧ w ≤ 39 from ⟨by omega, by omega⟩)) (show 0 ≤ ((m 9 8) + 1) ∧ ((m 9 8) + 1) ≤ 40 from ⟨by omega, by omega⟩)))
    (fun x0 x1 => by omega)
    k2
theorem zb53_0r (hT : zRules T) {D : Nat} {κ : Option zA → zM → Prop} {m : zM} {d : Nat} 
    (o1 : T (D + 2) 54 (0, [(0, zr 9), (1, zr 2), (2, zi (d : Int))], [], m) (fun r m1 => T (D + 3) 53 (6, [(0, zr 9), (1, zr 2), (2, zi (d : Int))], r.toList ++ [], m1) κ)) :
    T (D + 3) 53 (0, [(0, zr 9), (1, zr 2), (2, zi (d : Int))], [], m) κ :=
  hT.1 [(10, [0, 1, 2, 3, 4])] 6 (D + 3) 53 _ κ (o1)
theorem zb53_0 (hT : zRules T) {D : Nat} {κ : Option zA → zM → Prop} {m : zM} {d : Nat}  (hB : zB m) (h_d : d ≤ 4) (hf0 : 0 ≤ m 2 3 ∧ m 2 3 ≤ 90) 
    (k1 : T (D + 2) 54 (0, [(0, zr 9), (1, zr 2), (2, zi (d : Int))], [], m) (fun r m1 => T (D + 3) 53 (6, [(0, zr 9), (1, zr 2), (2, zi (d : Int))], r.toList ++ [], m1) κ)) :
    T (D + 3) 53 (0, [(0, zr 9), (1, zr 2), (2, zi (d : Int))], [], m) κ := by
  exact zb53_0r hT
    k1
theorem zb53_6r (hT : zRules T) {D : Nat} {κ : Option zA → zM → Prop} {m : zM} {d : Nat} {v : Int} {lo : zL} (hlo : z_keep [0, 1, 2] lo = [(0, zr 9), (1, zr 2), (2, zi (d : Int))]) 
    (o1 : T (D + 3) 53 (10, [(0, zr 9), (1, zr 2), (2, zi (d : Int)), (3, zi v), (4, zi 0)], [], m) κ) :
    T (D + 3) 53 (6, lo, [zi v], m) κ :=
  zkeep hT hlo (hT.1 [(10, [0, 1, 2, 3, 4])] 6 (D + 3) 53 _ κ (o1))
theorem zb53_6 (hT : zRules T) {D : Nat} {κ : Option zA → zM → Prop} {m : zM} {d : Nat} {v : Int} {lo : zL} (hlo : z_keep [0, 1, 2] lo = [(0, zr 9), (1, zr 2), (2, zi (d : Int))])  (hB : zB m) (h_d : d ≤ 4) (h_v : (-1) ≤ v ∧ v ≤ 39) (hf0 : 0 ≤ m 2 3 ∧ m 2 3 ≤ 90) 
    (k1 : T (D + 3) 53 (10, [(0, zr 9), (1, zr 2), (2, zi (d : Int)), (3, zi v), (4, zi 0)], [], m) κ) :
    T (D + 3) 53 (6, lo, [zi v], m) κ := by
  exact zb53_6r hT hlo
    k1
theorem zb53_10r (hT : zRules T) {D : Nat} {κ : Option zA → zM → Prop} {m : zM} {d : Nat} {v : Int} {k : Nat} {lo : zL} (hlo : z_keep [0, 1, 2, 3, 4] lo = [(0, zr 9), (1, zr 2), (2, zi (d : Int)), (3, zi v), (4, zi (k : Int))]) 
    (o1 : ¬ wr (k : Int) < 40 → κ (some (zi (wr v))) m)
    (o2 : wr (k : Int) < 40 → wr v = (-1) → κ (some (zi (wr v))) m)
    (o3 : wr (k : Int) < 40 → ¬ wr v = (-1) → ∀ j, zbd 3 j (m 3 j))
    (o4 : wr (k : Int) < 40 → ¬ wr v = (-1) → (0 ≤ (m 2 3) ∧ (m 2 3) ≤ 1000))
    (o5 : wr (k : Int) < 40 → ¬ wr v = (-1) → (0 ≤ (m 2 2) ∧ (m 2 2) ≤ 80))
    (o6 : wr (k : Int) < 40 → ¬ wr v = (-1) → wr (nxC m) = 43 → T (D + 2) 54 (0, [(0, zr 9), (1, zr 2), (2, zi (d : Int))], [], (zu m 2 3 ((m 2 3) + 1))) (fun r m1 => T (D + 3) 53 (60, [(0, zr 9), (1, zr 2), (2, zi (d : Int)), (3, zi v), (4, zi (k : Int)), (5, zi (nxC m))], r.toList ++ [], m1) κ))
    (o7 : wr (k : Int) < 40 → ¬ wr v = (-1) → ¬ wr (nxC m) = 43 → wr (nxC m) = 45 → T (D + 2) 54 (0, [(0, zr 9), (1, zr 2), (2, zi (d : Int))], [], (zu m 2 3 ((m 2 3) + 1))) (fun r m1 => T (D + 3) 53 (60, [(0, zr 9), (1, zr 2), (2, zi (d : Int)), (3, zi v), (4, zi (k : Int)), (5, zi (nxC m))], r.toList ++ [], m1) κ))
    (o8 : wr (k : Int) < 40 → ¬ wr v = (-1) → ¬ wr (nxC m) = 43 → ¬ wr (nxC m) = 45 → κ (some (zi (wr v))) m) :
    T (D + 3) 53 (10, lo, [], m) κ :=
  zkeep hT hlo (hT.1 [(10, [0, 1, 2, 3, 4])] 6 (D + 3) 53 _ κ (And.intro (fun a1 => (o1 a1)) (fun a2 => (And.intro (fun a3 => (hT.1 [(10, [0, 1, 2, 3, 4])] 6 (D + 3) 53 (88, [(0, zr 9), (1, zr 2), (2, zi (d : Int)), (3, zi v), (4, zi (k : Int))], [], m) _ (o2 (Classical.byContradiction a2) a3))) (fun a4 => (hT.1 [(10, [0, 1, 2, 3, 4])] 6 (D + 3) 53 (22, [(0, zr 9), (1, zr 2), (2, zi (d : Int)), (3, zi v), (4, zi (k : Int))], [], m) _ (z_next hT (o3 (Classical.byContradiction a2) a4) (o4 (Classical.byContradiction a2) a4) (o5 (Classical.byContradiction a2) a4) (hT.1 [(10, [0, 1, 2, 3, 4])] 6 (D + 3) 53 _ _ (And.intro (fun a5 => (hT.1 [(10, [0, 1, 2, 3, 4])] 6 (D + 3) 53 (46, [(0, zr 9), (1, zr 2), (2, zi (d : Int)), (3, zi v), (4, zi (k : Int)), (5, zi (nxC m))], [zr 2, zr 2], m) _ (And.intro trivial (hT.1 [(10, [0, 1, 2, 3, 4])] 6 (D + 3) 53 (56, [(0, zr 9), (1, zr 2), (2, zi (d : Int)), (3, zi v), (4, zi (k : Int)), (5, zi (nxC m))], [zr 2, zr 9], (zu m 2 3 ((m 2 3) + 1))) _ (o6 (Classical.byContradiction a2) a4 a5))))) (fun a6 => (hT.1 [(10, [0, 1, 2, 3, 4])] 6 (D + 3) 53 (39, [(0, zr 9), (1, zr 2), (2, zi (d : Int)), (3, zi v), (4, zi (k : Int)), (5, zi (nxC m))], [zi 45, zi (nxC m)], m) _ (And.intro (fun a7 => (hT.1 [(10, [0, 1, 2, 3, 4])] 6 (D + 3) 53 (51, [(0, zr 9), (1, zr 2), (2, zi (d : Int)), (3, zi v), (4, zi (k : Int)), (5, zi (nxC m))], [zi ((m 2 3) + 1), zr 2], m) _ (And.intro trivial (o7 (Classical.byContradiction a2) a4 a6 a7)))) (fun a8 => (o8 (Classical.byContradiction a2) a4 a6 a8))))))))))))))
theorem zb53_10 (hT : zRules T) {D : Nat} {κ : Option zA → zM → Prop} {m : zM} {d : Nat} {v : Int} {k : Nat} {lo : zL} (hlo : z_keep [0, 1, 2, 3, 4] lo = [(0, zr 9), (1, zr 2), (2, zi (d : Int)), (3, zi v), (4, zi (k : Int))])  (hB : zB m) (h_d : d ≤ 4) (h_v : (-1) ≤ v ∧ v ≤ 39) (h_k : k ≤ 100) (hf0 : 0 ≤ m 2 3 ∧ m 2 3 ≤ 90) 
    (k1 : ¬ (k : Int) < 40 → κ (some (zi v)) m)
    (k2 : (k : Int) < 40 → v = (-1) → κ (some (zi v)) m)
    (k3 : (k : Int) < 40 → ¬ v = (-1) → (nxC m) = 43 → zB (zu m 2 3 ((m 2 3) + 1)) → T (D + 2) 54 (0, [(0, zr 9), (1, zr 2), (2, zi (d : Int))], [], (zu m 2 3 ((m 2 3) + 1))) (fun r m1 => T (D + 3) 53 (60, [(0, zr 9), (1, zr 2), (2, zi (d : Int)), (3, zi v), (4, zi (k : Int)), (5, zi (nxC m))], r.toList ++ [], m1) κ))
    (k4 : (k : Int) < 40 → ¬ v = (-1) → ¬ (nxC m) = 43 → (nxC m) = 45 → zB (zu m 2 3 ((m 2 3) + 1)) → T (D + 2) 54 (0, [(0, zr 9), (1, zr 2), (2, zi (d : Int))], [], (zu m 2 3 ((m 2 3) + 1))) (fun r m1 => T (D + 3) 53 (60, [(0, zr 9), (1, zr 2), (2, zi (d : Int)), (3, zi v), (4, zi (k : Int)), (5, zi (nxC m))], r.toList ++ [], m1) κ))
    (k5 : (k : Int) < 40 → ¬ v = (-1) → ¬ (nxC m) = 43 → ¬ (nxC m) = 45 → κ (some (zi v)) m) :
    T (D + 3) 53 (10, lo, [], m) κ := by
  have hb4 : 0 ≤ (m 2 2) ∧ (m 2 2) ≤ 80 := hB 2 2
  have hb5 : (-1) ≤ (nxC m) ∧ (nxC m) ≤ 65535 := nxCBo m (fun j => hB 3 j)
  have he0 : wr (k : Int) = (k : Int) := wr_id (by omega) (by omega)
  have he1 : wr v = v := wr_id (by omega) (by omega)
  have he2 : wr (nxC m) = (nxC m) := wr_id (by omega) (by omega)
  have key := @zb53_10r T hT D κ m d v k lo hlo
  simp only [he0, he1, he2, Int.toNat_natCast] at key
  exact key
    k1
    k2
    (fun x0 x1 => fun j => hB 3 j)
    (fun x0 x1 => by refine ⟨?_, ?_⟩ <;> omega)
    (fun x0 x1 => by refine ⟨?_, ?_⟩ <;> omega)
    (fun x0 x1 x2 => k3 x0 x1 x2 (zB_u hB (show (-1) ≤ ((m 2 3) + 1) ∧ ((m 2 3) + 1) ≤ 100 from ⟨by omega, by omega⟩)))
    (fun x0 x1 x2 x3 => k4 x0 x1 x2 x3 (zB_u hB (show (-1) ≤ ((m 2 3) + 1) ∧ ((m 2 3) + 1) ≤ 100 from ⟨by omega, by omega⟩)))
    k5
theorem zb53_60r (hT : zRules T) {D : Nat} {κ : Option zA → zM → Prop} {m : zM} {d : Nat} {v : Int} {k : Nat} {sg : Int} {w : Int} {lo : zL} (hlo : z_keep [0, 1, 2, 3, 4, 5] lo = [(0, zr 9), (1, zr 2), (2, zi (d : Int)), (3, zi v), (4, zi (k : Int)), (5, zi sg)]) 
    (o1 : ¬ wr w = (-1) → wr (m 9 8) < 40 → (0 ≤ wr (m 9 8) ∧ wr (m 9 8) < 40))
    (o2 : ¬ wr w = (-1) → wr (m 9 8) < 40 → (0 ≤ wr (m 9 8) ∧ wr (m 9 8) < 40))
    (o3 : ¬ wr w = (-1) → wr (m 9 8) < 40 → (0 ≤ wr (m 9 8) ∧ wr (m 9 8) < 40))
    (o4 : ¬ wr w = (-1) → wr (m 9 8) < 40 → T (D + 3) 53 (10, [(0, zr 9), (1, zr 2), (2, zi (d : Int)), (3, zi (wr (((m 9 8) + 1) - 1))), (4, zi ((k : Int) + 1))], [], (zu (zu (zu (zu m 14 ((wr (m 9 8)).toNat) sg) 15 ((wr (m 9 8)).toNat) v) 16 ((wr (m 9 8)).toNat) w) 9 8 ((m 9 8) + 1))) κ)
    (o5 : ¬ wr w = (-1) → ¬ wr (m 9 8) < 40 → False)
    (o6 : wr w = (-1) → T (D + 3) 53 (10, [(0, zr 9), (1, zr 2), (2, zi (d : Int)), (3, zi (-1)), (4, zi ((k : Int) + 1))], [], m) κ) :
    T (D + 3) 53 (60, lo, [zi w], m) κ :=
  zkeep hT hlo (hT.1 [(10, [0, 1, 2, 3, 4])] 6 (D + 3) 53 _ κ (And.intro (fun a1 => (hT.1 [(10, [0, 1, 2, 3, 4])] 6 (D + 3) 53 (75, [(0, zr 9), (1, zr 2), (2, zi (d : Int)), (3, zi v), (4, zi (k : Int)), (5, zi sg), (6, zi w)], [zi sg, zr 9], m) _ (hT.1 [] 6 (D + 2) 51 _ _ (And.intro (fun a3 => (hT.1 [] 6 (D + 2) 51 (15, [(0, zr 9), (1, zi sg), (2, zi v), (3, zi w)], [zr 14], m) _ (And.intro (And.intro (o1 a1 a3) trivial) (hT.1 [] 6 (D + 2) 51 (25, [(0, zr 9), (1, zi sg), (2, zi v), (3, zi w)], [zr 15], (zu m 14 ((wr (m 9 8)).toNat) sg)) _ (And.intro (And.intro (o2 a1 a3) trivial) (hT.1 [] 6 (D + 2) 51 (35, [(0, zr 9), (1, zi sg), (2, zi v), (3, zi w)], [zr 16], (zu (zu m 14 ((wr (m 9 8)).toNat) sg) 15 ((wr (m 9 8)).toNat) v)) _ (And.intro (And.intro (o3 a1 a3) trivial) (hT.1 [] 6 (D + 2) 51 (43, [(0, zr 9), (1, zi sg), (2, zi v), (3, zi w)], [zr 9, zr 9], (zu (zu (zu m 14 ((wr (m 9 8)).toNat) sg) 15 ((wr (m 9 8)).toNat) v) 16 ((wr (m 9 8)).toNat) w)) _ (And.intro trivial (hT.1 [] 6 (D + 2) 51 (55, [(0, zr 9), (1, zi sg), (2, zi v), (3, zi w)], [zi ((m 9 8) + 1)], (zu (zu (zu (zu m 14 ((wr (m 9 8)).toNat) sg) 15 ((wr (m 9 8)).toNat) v) 16 ((wr (m 9 8)).toNat) w) 9 8 ((m 9 8) + 1))) _ (hT.1 [(10, [0, 1, 2, 3, 4])] 6 (D + 3) 53 _ _ (o4 a1 a3)))))))))))) (fun a4 => (o5 a1 a4).elim))))) (fun a2 => (hT.1 [(10, [0, 1, 2, 3, 4])] 6 (D + 3) 53 (81, [(0, zr 9), (1, zr 2), (2, zi (d : Int)), (3, zi v), (4, zi (k : Int)), (5, zi sg), (6, zi w)], [zi (-1)], m) _ (o6 (Classical.byContradiction a2))))))
theorem zb53_60 (hT : zRules T) {D : Nat} {κ : Option zA → zM → Prop} {m : zM} {d : Nat} {v : Int} {k : Nat} {sg : Int} {w : Int} {lo : zL} (hlo : z_keep [0, 1, 2, 3, 4, 5] lo = [(0, zr 9), (1, zr 2), (2, zi (d : Int)), (3, zi v), (4, zi (k : Int)), (5, zi sg)])  (hB : zB m) (h_d : d ≤ 4) (h_v : 0 ≤ v ∧ v ≤ 39) (h_k : k ≤ 100) (h_sg : 0 ≤ sg ∧ sg ≤ 65535) (h_w : (-1) ≤ w ∧ w ≤ 39) (hf0 : 0 ≤ m 9 8 ∧ m 9 8 ≤ 39) 
    (k1 : ¬ w = (-1) → zB (zu (zu (zu (zu m 14 ((m 9 8).toNat) sg) 15 ((m 9 8).toNat) v) 16 ((m 9 8).toNat) w) 9 8 ((m 9 8) + 1)) → T (D + 3) 53 (10, [(0, zr 9), (1, zr 2), (2, zi (d : Int)), (3, zi (((m 9 8) + 1) - 1)), (4, zi ((k : Int) + 1))], [], (zu (zu (zu (zu m 14 ((m 9 8).toNat) sg) 15 ((m 9 8).toNat) v) 16 ((m 9 8).toNat) w) 9 8 ((m 9 8) + 1))) κ)
    (k2 : w = (-1) → T (D + 3) 53 (10, [(0, zr 9), (1, zr 2), (2, zi (d : Int)), (3, zi (-1)), (4, zi ((k : Int) + 1))], [], m) κ) :
    T (D + 3) 53 (60, lo, [zi w], m) κ := by
  have he0 : wr w = w := wr_id (by omega) (by omega)
  have he1 : wr (m 9 8) = (m 9 8) := wr_id (by omega) (by omega)
  have he2 : wr (((m 9 8) + 1) - 1) = (((m 9 8) + 1) - 1) := wr_id (by omega) (by omega)
  have key := @zb53_60r T hT D κ m d v k sg w lo hlo
  simp only [he0, he1, he2, Int.toNat_natCast] at key
  exact key
    (fun x0 x1 => by refine ⟨?_, ?_⟩ <;> omega)
    (fun x0 x1 => by refine ⟨?_, ?_⟩ <;> omega)
    (fun x0 x1 => by refine ⟨?_, ?_⟩ <;> omega)
    (fun x0 x1 => k1 x0 (zB_u (zB_u (zB_u (zB_u hB (show (-1) ≤ sg ∧ sg ≤ 65535 from ⟨by omega, by omega⟩)) (show 0 ≤ v ∧ v ≤ 999 from ⟨by omega, by omega⟩)) (show 0 ≤ w ∧ w ≤ 39 from ⟨by omega, by omega⟩)) (show 0 ≤ ((m 9 8) + 1) ∧ ((m 9 8) + 1) ≤ 40 from ⟨by omega, by omega⟩)))
    (fun x0 x1 => by omega)
    k2
theorem zb54_0r (hT : zRules T) {D : Nat} {κ : Option zA → zM → Prop} {m : zM} {d : Nat} 
    (o1 : T (D + 2) 55 (0, [(0, zr 9), (1, zr 2), (2, zi (d : Int))], [], m) (fun r m1 => T (D + 3) 54 (6, [(0, zr 9), (1, zr 2), (2, zi (d : Int))], r.toList ++ [], m1) κ)) :
    T (D + 3) 54 (0, [(0, zr 9), (1, zr 2), (2, zi (d : Int))], [], m) κ :=
  hT.1 [(10, [0, 1, 2, 3, 4])] 6 (D + 3) 54 _ κ (o1)
theorem zb54_0 (hT : zRules T) {D : Nat} {κ : Option zA → zM → Prop} {m : zM} {d : Nat}  (hB : zB m) (h_d : d ≤ 4) (hf0 : 0 ≤ m 2 3 ∧ m 2 3 ≤ 90) 
    (k1 : T (D + 2) 55 (0, [(0, zr 9), (1, zr 2), (2, zi (d : Int))], [], m) (fun r m1 => T (D + 3) 54 (6, [(0, zr 9), (1, zr 2), (2, zi (d : Int))], r.toList ++ [], m1) κ)) :
    T (D + 3) 54 (0, [(0, zr 9), (1, zr 2), (2, zi (d : Int))], [], m) κ := by
  exact zb54_0r hT
    k1
theorem zb54_6r (hT : zRules T) {D : Nat} {κ : Option zA → zM → Prop} {m : zM} {d : Nat} {v : Int} {lo : zL} (hlo : z_keep [0, 1, 2] lo = [(0, zr 9), (1, zr 2), (2, zi (d : Int))]) 
    (o1 : T (D + 3) 54 (10, [(0, zr 9), (1, zr 2), (2, zi (d : Int)), (3, zi v), (4, zi 0)], [], m) κ) :
    T (D + 3) 54 (6, lo, [zi v], m) κ :=
  zkeep hT hlo (hT.1 [(10, [0, 1, 2, 3, 4])] 6 (D + 3) 54 _ κ (o1))
theorem zb54_6 (hT : zRules T) {D : Nat} {κ : Option zA → zM → Prop} {m : zM} {d : Nat} {v : Int} {lo : zL} (hlo : z_keep [0, 1, 2] lo = [(0, zr 9), (1, zr 2), (2, zi (d : Int))])  (hB : zB m) (h_d : d ≤ 4) (h_v : (-1) ≤ v ∧ v ≤ 39) (hf0 : 0 ≤ m 2 3 ∧ m 2 3 ≤ 90) 
    (k1 : T (D + 3) 54 (10, [(0, zr 9), (1, zr 2), (2, zi (d : Int)), (3, zi v), (4, zi 0)], [], m) κ) :
    T (D + 3) 54 (6, lo, [zi v], m) κ := by
  exact zb54_6r hT hlo
    k1
theorem zb54_10r (hT : zRules T) {D : Nat} {κ : Option zA → zM → Prop} {m : zM} {d : Nat} {v : Int} {k : Nat} {lo : zL} (hlo : z_keep [0, 1, 2, 3, 4] lo = [(0, zr 9), (1, zr 2), (2, zi (d : Int)), (3, zi v), (4, zi (k : Int))]) 
    (o1 : ¬ wr (k : Int) < 40 → κ (some (zi (wr v))) m)
    (o2 : wr (k : Int) < 40 → wr v = (-1) → κ (some (zi (wr v))) m)
    (o3 : wr (k : Int) < 40 → ¬ wr v = (-1) → ∀ j, zbd 3 j (m 3 j))
    (o4 : wr (k : Int) < 40 → ¬ wr v = (-1) → (0 ≤ (m 2 3) ∧ (m 2 3) ≤ 1000))
    (o5 : wr (k : Int) < 40 → ¬ wr v = (-1) → (0 ≤ (m 2 2) ∧ (m 2 2) ≤ 80))
    (o6 : wr (k : Int) < 40 → ¬ wr v = (-1) → wr (nxC m) = 42 → T (D + 2) 55 (0, [(0, zr 9), (1, zr 2), (2, zi (d : Int))], [], (zu m 2 3 ((m 2 3) + 1))) (fun r m1 => T (D + 3) 54 (60, [(0, zr 9), (1, zr 2), (2, zi (d : Int)), (3, zi v), (4, zi (k : Int)), (5, zi (nxC m))], r.toList ++ [], m1) κ))
    (o7 : wr (k : Int) < 40 → ¬ wr v = (-1) → ¬ wr (nxC m) = 42 → wr (nxC m) = 47 → T (D + 2) 55 (0, [(0, zr 9), (1, zr 2), (2, zi (d : Int))], [], (zu m 2 3 ((m 2 3) + 1))) (fun r m1 => T (D + 3) 54 (60, [(0, zr 9), (1, zr 2), (2, zi (d : Int)), (3, zi v), (4, zi (k : Int)), (5, zi (nxC m))], r.toList ++ [], m1) κ))
    (o8 : wr (k : Int) < 40 → ¬ wr v = (-1) → ¬ wr (nxC m) = 42 → ¬ wr (nxC m) = 47 → κ (some (zi (wr v))) m) :
    T (D + 3) 54 (10, lo, [], m) κ :=
  zkeep hT hlo (hT.1 [(10, [0, 1, 2, 3, 4])] 6 (D + 3) 54 _ κ (And.intro (fun a1 => (o1 a1)) (fun a2 => (And.intro (fun a3 => (hT.1 [(10, [0, 1, 2, 3, 4])] 6 (D + 3) 54 (88, [(0, zr 9), (1, zr 2), (2, zi (d : Int)), (3, zi v), (4, zi (k : Int))], [], m) _ (o2 (Classical.byContradiction a2) a3))) (fun a4 => (hT.1 [(10, [0, 1, 2, 3, 4])] 6 (D + 3) 54 (22, [(0, zr 9), (1, zr 2), (2, zi (d : Int)), (3, zi v), (4, zi (k : Int))], [], m) _ (z_next hT (o3 (Classical.byContradiction a2) a4) (o4 (Classical.byContradiction a2) a4) (o5 (Classical.byContradiction a2) a4) (hT.1 [(10, [0, 1, 2, 3, 4])] 6 (D + 3) 54 _ _ (And.intro (fun a5 => (hT.1 [(10, [0, 1, 2, 3, 4])] 6 (D + 3) 54 (46, [(0, zr 9), (1, zr 2), (2, zi (d : Int)), (3, zi v), (4, zi (k : Int)), (5, zi (nxC m))], [zr 2, zr 2], m) _ (And.intro trivial (hT.1 [(10, [0, 1, 2, 3, 4])] 6 (D + 3) 54 (56, [(0, zr 9), (1, zr 2), (2, zi (d : Int)), (3, zi v), (4, zi (k : Int)), (5, zi (nxC m))], [zr 2, zr 9], (zu m 2 3 ((m 2 3) + 1))) _ (o6 (Classical.byContradiction a2) a4 a5))))) (fun a6 => (hT.1 [(10, [0, 1, 2, 3, 4])] 6 (D + 3) 54 (39, [(0, zr 9), (1, zr 2), (2, zi (d : Int)), (3, zi v), (4, zi (k : Int)), (5, zi (nxC m))], [zi 47, zi (nxC m)], m) _ (And.intro (fun a7 => (hT.1 [(10, [0, 1, 2, 3, 4])] 6 (D + 3) 54 (51, [(0, zr 9), (1, zr 2), (2, zi (d : Int)), (3, zi v), (4, zi (k : Int)), (5, zi (nxC m))], [zi ((m 2 3) + 1), zr 2], m) _ (And.intro trivial (o7 (Classical.byContradiction a2) a4 a6 a7)))) (fun a8 => (o8 (Classical.byContradiction a2) a4 a6 a8))))))))))))))
theorem zb54_10 (hT : zRules T) {D : Nat} {κ : Option zA → zM → Prop} {m : zM} {d : Nat} {v : Int} {k : Nat} {lo : zL} (hlo : z_keep [0, 1, 2, 3, 4] lo = [(0, zr 9), (1, zr 2), (2, zi (d : Int)), (3, zi v), (4, zi (k : Int))])  (hB : zB m) (h_d : d ≤ 4) (h_v : (-1) ≤ v ∧ v ≤ 39) (h_k : k ≤ 100) (hf0 : 0 ≤ m 2 3 ∧ m 2 3 ≤ 90) 
    (k1 : ¬ (k : Int) < 40 → κ (some (zi v)) m)
    (k2 : (k : Int) < 40 → v = (-1) → κ (some (zi v)) m)
    (k3 : (k : Int) < 40 → ¬ v = (-1) → (nxC m) = 42 → zB (zu m 2 3 ((m 2 3) + 1)) → T (D + 2) 55 (0, [(0, zr 9), (1, zr 2), (2, zi (d : Int))], [], (zu m 2 3 ((m 2 3) + 1))) (fun r m1 => T (D + 3) 54 (60, [(0, zr 9), (1, zr 2), (2, zi (d : Int)), (3, zi v), (4, zi (k : Int)), (5, zi (nxC m))], r.toList ++ [], m1) κ))
    (k4 : (k : Int) < 40 → ¬ v = (-1) → ¬ (nxC m) = 42 → (nxC m) = 47 → zB (zu m 2 3 ((m 2 3) + 1)) → T (D + 2) 55 (0, [(0, zr 9), (1, zr 2), (2, zi (d : Int))], [], (zu m 2 3 ((m 2 3) + 1))) (fun r m1 => T (D + 3) 54 (60, [(0, zr 9), (1, zr 2), (2, zi (d : Int)), (3, zi v), (4, zi (k : Int)), (5, zi (nxC m))], r.toList ++ [], m1) κ))
    (k5 : (k : Int) < 40 → ¬ v = (-1) → ¬ (nxC m) = 42 → ¬ (nxC m) = 47 → κ (some (zi v)) m) :
    T (D + 3) 54 (10, lo, [], m) κ := by
  have hb4 : 0 ≤ (m 2 2) ∧ (m 2 2) ≤ 80 := hB 2 2
  have hb5 : (-1) ≤ (nxC m) ∧ (nxC m) ≤ 65535 := nxCBo m (fun j => hB 3 j)
  have he0 : wr (k : Int) = (k : Int) := wr_id (by omega) (by omega)
  have he1 : wr v = v := wr_id (by omega) (by omega)
  have he2 : wr (nxC m) = (nxC m) := wr_id (by omega) (by omega)
  have key := @zb54_10r T hT D κ m d v k lo hlo
  simp only [he0, he1, he2, Int.toNat_natCast] at key
  exact key
    k1
    k2
    (fun x0 x1 => fun j => hB 3 j)
    (fun x0 x1 => by refine ⟨?_, ?_⟩ <;> omega)
    (fun x0 x1 => by refine ⟨?_, ?_⟩ <;> omega)
    (fun x0 x1 x2 => k3 x0 x1 x2 (zB_u hB (show (-1) ≤ ((m 2 3) + 1) ∧ ((m 2 3) + 1) ≤ 100 from ⟨by omega, by omega⟩)))
    (fun x0 x1 x2 x3 => k4 x0 x1 x2 x3 (zB_u hB (show (-1) ≤ ((m 2 3) + 1) ∧ ((m 2 3) + 1) ≤ 100 from ⟨by omega, by omega⟩)))
    k5
theorem zb54_60r (hT : zRules T) {D : Nat} {κ : Option zA → zM → Prop} {m : zM} {d : Nat} {v : Int} {k : Nat} {sg : Int} {w : Int} {lo : zL} (hlo : z_keep [0, 1, 2, 3, 4, 5] lo = [(0, zr 9), (1, zr 2), (2, zi (d : Int)), (3, zi v), (4, zi (k : Int)), (5, zi sg)]) 
    (o1 : ¬ wr w = (-1) → wr (m 9 8) < 40 → (0 ≤ wr (m 9 8) ∧ wr (m 9 8) < 40))
    (o2 : ¬ wr w = (-1) → wr (m 9 8) < 40 → (0 ≤ wr (m 9 8) ∧ wr (m 9 8) < 40))
    (o3 : ¬ wr w = (-1) → wr (m 9 8) < 40 → (0 ≤ wr (m 9 8) ∧ wr (m 9 8) < 40))
    (o4 : ¬ wr w = (-1) → wr (m 9 8) < 40 → T (D + 3) 54 (10, [(0, zr 9), (1, zr 2), (2, zi (d : Int)), (3, zi (wr (((m 9 8) + 1) - 1))), (4, zi ((k : Int) + 1))], [], (zu (zu (zu (zu m 14 ((wr (m 9 8)).toNat) sg) 15 ((wr (m 9 8)).toNat) v) 16 ((wr (m 9 8)).toNat) w) 9 8 ((m 9 8) + 1))) κ)
    (o5 : ¬ wr w = (-1) → ¬ wr (m 9 8) < 40 → False)
    (o6 : wr w = (-1) → T (D + 3) 54 (10, [(0, zr 9), (1, zr 2), (2, zi (d : Int)), (3, zi (-1)), (4, zi ((k : Int) + 1))], [], m) κ) :
    T (D + 3) 54 (60, lo, [zi w], m) κ :=
  zkeep hT hlo (hT.1 [(10, [0, 1, 2, 3, 4])] 6 (D + 3) 54 _ κ (And.intro (fun a1 => (hT.1 [(10, [0, 1, 2, 3, 4])] 6 (D + 3) 54 (75, [(0, zr 9), (1, zr 2), (2, zi (d : Int)), (3, zi v), (4, zi (k : Int)), (5, zi sg), (6, zi w)], [zi sg, zr 9], m) _ (hT.1 [] 6 (D + 2) 51 _ _ (And.intro (fun a3 => (hT.1 [] 6 (D + 2) 51 (15, [(0, zr 9), (1, zi sg), (2, zi v), (3, zi w)], [zr 14], m) _ (And.intro (And.intro (o1 a1 a3) trivial) (hT.1 [] 6 (D + 2) 51 (25, [(0, zr 9), (1, zi sg), (2, zi v), (3, zi w)], [zr 15], (zu m 14 ((wr (m 9 8)).toNat) sg)) _ (And.intro (And.intro (o2 a1 a3) trivial) (hT.1 [] 6 (D + 2) 51 (35, [(0, zr 9), (1, zi sg), (2, zi v), (3, zi w)], [zr 16], (zu (zu m 14 ((wr (m 9 8)).toNat) sg) 15 ((wr (m 9 8)).toNat) v)) _ (And.intro (And.intro (o3 a1 a3) trivial) (hT.1 [] 6 (D + 2) 51 (43, [(0, zr 9), (1, zi sg), (2, zi v), (3, zi w)], [zr 9, zr 9], (zu (zu (zu m 14 ((wr (m 9 8)).toNat) sg) 15 ((wr (m 9 8)).toNat) v) 16 ((wr (m 9 8)).toNat) w)) _ (And.intro trivial (hT.1 [] 6 (D + 2) 51 (55, [(0, zr 9), (1, zi sg), (2, zi v), (3, zi w)], [zi ((m 9 8) + 1)], (zu (zu (zu (zu m 14 ((wr (m 9 8)).toNat) sg) 15 ((wr (m 9 8)).toNat) v) 16 ((wr (m 9 8)).toNat) w) 9 8 ((m 9 8) + 1))) _ (hT.1 [(10, [0, 1, 2, 3, 4])] 6 (D + 3) 54 _ _ (o4 a1 a3)))))))))))) (fun a4 => (o5 a1 a4).elim))))) (fun a2 => (hT.1 [(10, [0, 1, 2, 3, 4])] 6 (D + 3) 54 (81, [(0, zr 9), (1, zr 2), (2, zi (d : Int)), (3, zi v), (4, zi (k : Int)), (5, zi sg), (6, zi w)], [zi (-1)], m) _ (o6 (Classical.byContradiction a2))))))
theorem zb54_60 (hT : zRules T) {D : Nat} {κ : Option zA → zM → Prop} {m : zM} {d : Nat} {v : Int} {k : Nat} {sg : Int} {w : Int} {lo : zL} (hlo : z_keep [0, 1, 2, 3, 4, 5] lo = [(0, zr 9), (1, zr 2), (2, zi (d : Int)), (3, zi v), (4, zi (k : Int)), (5, zi sg)])  (hB : zB m) (h_d : d ≤ 4) (h_v : 0 ≤ v ∧ v ≤ 39) (h_k : k ≤ 100) (h_sg : 0 ≤ sg ∧ sg ≤ 65535) (h_w : (-1) ≤ w ∧ w ≤ 39) (hf0 : 0 ≤ m 9 8 ∧ m 9 8 ≤ 39) 
    (k1 : ¬ w = (-1) → zB (zu (zu (zu (zu m 14 ((m 9 8).toNat) sg) 15 ((m 9 8).toNat) v) 16 ((m 9 8).toNat) w) 9 8 ((m 9 8) + 1)) → T (D + 3) 54 (10, [(0, zr 9), (1, zr 2), (2, zi (d : Int)), (3, zi (((m 9 8) + 1) - 1)), (4, zi ((k : Int) + 1))], [], (zu (zu (zu (zu m 14 ((m 9 8).toNat) sg) 15 ((m 9 8).toNat) v) 16 ((m 9 8).toNat) w) 9 8 ((m 9 8) + 1))) κ)
    (k2 : w = (-1) → T (D + 3) 54 (10, [(0, zr 9), (1, zr 2), (2, zi (d : Int)), (3, zi (-1)), (4, zi ((k : Int) + 1))], [], m) κ) :
    T (D + 3) 54 (60, lo, [zi w], m) κ := by
  have he0 : wr w = w := wr_id (by omega) (by omega)
  have he1 : wr (m 9 8) = (m 9 8) := wr_id (by omega) (by omega)
  have he2 : wr (((m 9 8) + 1) - 1) = (((m 9 8) + 1) - 1) := wr_id (by omega) (by omega)
  have key := @zb54_60r T hT D κ m d v k sg w lo hlo
  simp only [he0, he1, he2, Int.toNat_natCast] at key
  exact key
    (fun x0 x1 => by refine ⟨?_, ?_⟩ <;> omega)
    (fun x0 x1 => by refine ⟨?_, ?_⟩ <;> omega)
    (fun x0 x1 => by refine ⟨?_, ?_⟩ <;> omega)
    (fun x0 x1 => k1 x0 (zB_u (zB_u (zB_u (zB_u hB (show (-1) ≤ sg ∧ sg ≤ 65535 from ⟨by omega, by omega⟩)) (show 0 ≤ v ∧ v ≤ 999 from ⟨by omega, by omega⟩)) (show 0 ≤ w ∧ w ≤ 39 from ⟨by omega, by omega⟩)) (show 0 ≤ ((m 9 8) + 1) ∧ ((m 9 8) + 1) ≤ 40 from ⟨by omega, by omega⟩)))
    (fun x0 x1 => by omega)
    k2
theorem zb55_0r (hT : zRules T) {D : Nat} {κ : Option zA → zM → Prop} {m : zM} {d : Nat} 
    (o1 : T (D + 3) 55 (5, [(0, zr 9), (1, zr 2), (2, zi (d : Int)), (3, zi 0), (4, zi 0)], [], m) κ) :
    T (D + 3) 55 (0, [(0, zr 9), (1, zr 2), (2, zi (d : Int))], [], m) κ :=
  hT.1 [(5, [0, 1, 2, 3, 4])] 6 (D + 3) 55 _ κ (o1)
theorem zb55_0 (hT : zRules T) {D : Nat} {κ : Option zA → zM → Prop} {m : zM} {d : Nat}  (h_d : d ≤ 4) 
    (k1 : T (D + 3) 55 (5, [(0, zr 9), (1, zr 2), (2, zi (d : Int)), (3, zi 0), (4, zi 0)], [], m) κ) :
    T (D + 3) 55 (0, [(0, zr 9), (1, zr 2), (2, zi (d : Int))], [], m) κ := by
  exact zb55_0r hT
    k1
theorem zb55_5r (hT : zRules T) {D : Nat} {κ : Option zA → zM → Prop} {m : zM} {d : Nat} {ng : Int} {k : Nat} {lo : zL} (hlo : z_keep [0, 1, 2, 3, 4] lo = [(0, zr 9), (1, zr 2), (2, zi (d : Int)), (3, zi ng), (4, zi (k : Int))]) 
    (o1 : ¬ wr (k : Int) < 40 → T (D + 2) 56 (0, [(0, zr 9), (1, zr 2), (2, zi (d : Int))], [], m) (fun r m1 => T (D + 3) 55 (43, [(0, zr 9), (1, zr 2), (2, zi (d : Int)), (3, zi ng), (4, zi (k : Int))], r.toList ++ [], m1) κ))
    (o2 : wr (k : Int) < 40 → ∀ j, zbd 3 j (m 3 j))
    (o3 : wr (k : Int) < 40 → (0 ≤ (m 2 3) ∧ (m 2 3) ≤ 1000))
    (o4 : wr (k : Int) < 40 → (0 ≤ (m 2 2) ∧ (m 2 2) ≤ 80))
    (o5 : wr (k : Int) < 40 → wr (nxC m) = 45 → ¬ wr ng = 0 → T (D + 3) 55 (5, [(0, zr 9), (1, zr 2), (2, zi (d : Int)), (3, zi 0), (4, zi ((k : Int) + 1))], [], (zu m 2 3 ((m 2 3) + 1))) κ)
    (o6 : wr (k : Int) < 40 → wr (nxC m) = 45 → wr ng = 0 → T (D + 3) 55 (5, [(0, zr 9), (1, zr 2), (2, zi (d : Int)), (3, zi 1), (4, zi ((k : Int) + 1))], [], (zu m 2 3 ((m 2 3) + 1))) κ)
    (o7 : wr (k : Int) < 40 → ¬ wr (nxC m) = 45 → T (D + 2) 56 (0, [(0, zr 9), (1, zr 2), (2, zi (d : Int))], [], m) (fun r m1 => T (D + 3) 55 (43, [(0, zr 9), (1, zr 2), (2, zi (d : Int)), (3, zi ng), (4, zi (k : Int))], r.toList ++ [], m1) κ)) :
    T (D + 3) 55 (5, lo, [], m) κ :=
  zkeep hT hlo (hT.1 [(5, [0, 1, 2, 3, 4])] 6 (D + 3) 55 _ κ (And.intro (fun a1 => (hT.1 [(5, [0, 1, 2, 3, 4])] 6 (D + 3) 55 (40, [(0, zr 9), (1, zr 2), (2, zi (d : Int)), (3, zi ng), (4, zi (k : Int))], [zi (d : Int), zr 2, zr 9], m) _ (o1 a1))) (fun a2 => (hT.1 [] 6 (D + 2) 70 _ _ (z_next hT (o2 (Classical.byContradiction a2)) (o3 (Classical.byContradiction a2)) (o4 (Classical.byContradiction a2)) (hT.1 [] 6 (D + 2) 70 _ _ (And.intro (fun a3 => (hT.1 [] 6 (D + 2) 70 (16, [(0, zr 2), (1, zi 45)], [zi 1, zi (m 2 3), zr 2], m) _ (And.intro trivial (And.intro (z_b01L rfl) (hT.1 [(5, [0, 1, 2, 3, 4])] 6 (D + 3) 55 _ _ (And.intro (fun a5 => (z_litF a5 rfl).elim) (fun _ => (And.intro (fun a6 => (hT.1 [(5, [0, 1, 2, 3, 4])] 6 (D + 3) 55 (34, [(0, zr 9), (1, zr 2), (2, zi (d : Int)), (3, zi 0), (4, zi ((k : Int) + 1))], [], (zu m 2 3 ((m 2 3) + 1))) _ (o5 (Classical.byContradiction a2) a3 a6))) (fun a7 => (hT.1 [(5, [0, 1, 2, 3, 4])] 6 (D + 3) 55 (31, [(0, zr 9), (1, zr 2), (2, zi (d : Int)), (3, zi 1), (4, zi (k : Int))], [], (zu m 2 3 ((m 2 3) + 1))) _ (o6 (Classical.byContradiction a2) a3 (Classical.byContradiction a7)))))))))))) (fun a4 => (And.intro (z_b01L rfl) (hT.1 [(5, [0, 1, 2, 3, 4])] 6 (D + 3) 55 _ _ (And.intro (fun _ => (o7 (Classical.byContradiction a2) a4)) (fun a8 => (a8 (z_litT rfl)).elim))))))))))))
theorem zb55_5 (hT : zRules T) {D : Nat} {κ : Option zA → zM → Prop} {m : zM} {d : Nat} {ng : Int} {k : Nat} {lo : zL} (hlo : z_keep [0, 1, 2, 3, 4] lo = [(0, zr 9), (1, zr 2), (2, zi (d : Int)), (3, zi ng), (4, zi (k : Int))])  (hB : zB m) (h_d : d ≤ 4) (h_ng : 0 ≤ ng ∧ ng ≤ 1) (h_k : k ≤ 100) (hf0 : 0 ≤ m 2 3 ∧ m 2 3 ≤ 90) 
    (k1 : ¬ (k : Int) < 40 → T (D + 2) 56 (0, [(0, zr 9), (1, zr 2), (2, zi (d : Int))], [], m) (fun r m1 => T (D + 3) 55 (43, [(0, zr 9), (1, zr 2), (2, zi (d : Int)), (3, zi ng), (4, zi (k : Int))], r.toList ++ [], m1) κ))
    (k2 : (k : Int) < 40 → (nxC m) = 45 → ¬ ng = 0 → zB (zu m 2 3 ((m 2 3) + 1)) → T (D + 3) 55 (5, [(0, zr 9), (1, zr 2), (2, zi (d : Int)), (3, zi 0), (4, zi ((k : Int) + 1))], [], (zu m 2 3 ((m 2 3) + 1))) κ)
    (k3 : (k : Int) < 40 → (nxC m) = 45 → ng = 0 → zB (zu m 2 3 ((m 2 3) + 1)) → T (D + 3) 55 (5, [(0, zr 9), (1, zr 2), (2, zi (d : Int)), (3, zi 1), (4, zi ((k : Int) + 1))], [], (zu m 2 3 ((m 2 3) + 1))) κ)
    (k4 : (k : Int) < 40 → ¬ (nxC m) = 45 → T (D + 2) 56 (0, [(0, zr 9), (1, zr 2), (2, zi (d : Int))], [], m) (fun r m1 => T (D + 3) 55 (43, [(0, zr 9), (1, zr 2), (2, zi (d : Int)), (3, zi ng), (4, zi (k : Int))], r.toList ++ [], m1) κ)) :
    T (D + 3) 55 (5, lo, [], m) κ := by
  have hb4 : 0 ≤ (m 2 2) ∧ (m 2 2) ≤ 80 := hB 2 2
  have hb5 : (-1) ≤ (nxC m) ∧ (nxC m) ≤ 65535 := nxCBo m (fun j => hB 3 j)
  have he0 : wr (k : Int) = (k : Int) := wr_id (by omega) (by omega)
  have he1 : wr (nxC m) = (nxC m) := wr_id (by omega) (by omega)
  have he2 : wr ng = ng := wr_id (by omega) (by omega)
  have key := @zb55_5r T hT D κ m d ng k lo hlo
  simp only [he0, he1, he2, Int.toNat_natCast] at key
  exact key
    k1
    (fun x0 => fun j => hB 3 j)
    (fun x0 => by refine ⟨?_, ?_⟩ <;> omega)
    (fun x0 => by refine ⟨?_, ?_⟩ <;> omega)
    (fun x0 x1 x2 => k2 x0 x1 x2 (zB_u hB (show (-1) ≤ ((m 2 3) + 1) ∧ ((m 2 3) + 1) ≤ 100 from ⟨by omega, by omega⟩)))
    (fun x0 x1 x2 => k3 x0 x1 x2 (zB_u hB (show (-1) ≤ ((m 2 3) + 1) ∧ ((m 2 3) + 1) ≤ 100 from ⟨by omega, by omega⟩)))
    k4
theorem zb55_43r (hT : zRules T) {D : Nat} {κ : Option zA → zM → Prop} {m : zM} {ng : Int} {v : Int} {lo : zL} (hlo : z_keep [0, 3] lo = [(0, zr 9), (3, zi ng)]) 
    (o1 : wr ng = 0 → κ (some (zi (wr v))) m)
    (o2 : ¬ wr ng = 0 → wr v = (-1) → κ (some (zi (wr v))) m)
    (o3 : ¬ wr ng = 0 → ¬ wr v = (-1) → wr (m 9 8) < 40 → (0 ≤ wr (m 9 8) ∧ wr (m 9 8) < 40))
    (o4 : ¬ wr ng = 0 → ¬ wr v = (-1) → wr (m 9 8) < 40 → (0 ≤ wr (m 9 8) ∧ wr (m 9 8) < 40))
    (o5 : ¬ wr ng = 0 → ¬ wr v = (-1) → wr (m 9 8) < 40 → (0 ≤ wr (m 9 8) ∧ wr (m 9 8) < 40))
    (o6 : ¬ wr ng = 0 → ¬ wr v = (-1) → wr (m 9 8) < 40 → κ (some (zi (wr (wr (((m 9 8) + 1) - 1))))) (zu (zu (zu (zu m 14 ((wr (m 9 8)).toNat) 126) 15 ((wr (m 9 8)).toNat) v) 16 ((wr (m 9 8)).toNat) v) 9 8 ((m 9 8) + 1)))
    (o7 : ¬ wr ng = 0 → ¬ wr v = (-1) → ¬ wr (m 9 8) < 40 → False) :
    T (D + 3) 55 (43, lo, [zi v], m) κ :=
  zkeep hT hlo (hT.1 [(5, [0, 1, 2, 3, 4])] 6 (D + 3) 55 _ κ (And.intro (fun a1 => (o1 a1)) (fun a2 => (And.intro (fun a3 => (hT.1 [(5, [0, 1, 2, 3, 4])] 6 (D + 3) 55 (68, [(0, zr 9), (3, zi ng), (4, zi v)], [], m) _ (o2 a2 a3))) (fun a4 => (hT.1 [(5, [0, 1, 2, 3, 4])] 6 (D + 3) 55 (55, [(0, zr 9), (3, zi ng), (4, zi v)], [], m) _ (hT.1 [] 6 (D + 2) 51 _ _ (And.intro (fun a5 => (hT.1 [] 6 (D + 2) 51 (15, [(0, zr 9), (1, zi 126), (2, zi v), (3, zi v)], [zr 14], m) _ (And.intro (And.intro (o3 a2 a4 a5) trivial) (hT.1 [] 6 (D + 2) 51 (25, [(0, zr 9), (1, zi 126), (2, zi v), (3, zi v)], [zr 15], (zu m 14 ((wr (m 9 8)).toNat) 126)) _ (And.intro (And.intro (o4 a2 a4 a5) trivial) (hT.1 [] 6 (D + 2) 51 (35, [(0, zr 9), (1, zi 126), (2, zi v), (3, zi v)], [zr 16], (zu (zu m 14 ((wr (m 9 8)).toNat) 126) 15 ((wr (m 9 8)).toNat) v)) _ (And.intro (And.intro (o5 a2 a4 a5) trivial) (hT.1 [] 6 (D + 2) 51 (43, [(0, zr 9), (1, zi 126), (2, zi v), (3, zi v)], [zr 9, zr 9], (zu (zu (zu m 14 ((wr (m 9 8)).toNat) 126) 15 ((wr (m 9 8)).toNat) v) 16 ((wr (m 9 8)).toNat) v)) _ (And.intro trivial (hT.1 [] 6 (D + 2) 51 (55, [(0, zr 9), (1, zi 126), (2, zi v), (3, zi v)], [zi ((m 9 8) + 1)], (zu (zu (zu (zu m 14 ((wr (m 9 8)).toNat) 126) 15 ((wr (m 9 8)).toNat) v) 16 ((wr (m 9 8)).toNat) v) 9 8 ((m 9 8) + 1))) _ (hT.1 [(5, [0, 1, 2, 3, 4])] 6 (D + 3) 55 _ _ (o6 a2 a4 a5)))))))))))) (fun a6 => (o7 a2 a4 a6).elim)))))))))
theorem zb55_43 (hT : zRules T) {D : Nat} {κ : Option zA → zM → Prop} {m : zM} {ng : Int} {v : Int} {lo : zL} (hlo : z_keep [0, 3] lo = [(0, zr 9), (3, zi ng)])  (hB : zB m) (h_ng : 0 ≤ ng ∧ ng ≤ 1) (h_v : (-1) ≤ v ∧ v ≤ 39) (hf0 : 0 ≤ m 9 8 ∧ m 9 8 ≤ 39) 
    (k1 : ng = 0 → κ (some (zi v)) m)
    (k2 : ¬ ng = 0 → v = (-1) → κ (some (zi v)) m)
    (k3 : ¬ ng = 0 → ¬ v = (-1) → zB (zu (zu (zu (zu m 14 ((m 9 8).toNat) 126) 15 ((m 9 8).toNat) v) 16 ((m 9 8).toNat) v) 9 8 ((m 9 8) + 1)) → κ (some (zi (((m 9 8) + 1) - 1))) (zu (zu (zu (zu m 14 ((m 9 8).toNat) 126) 15 ((m 9 8).toNat) v) 16 ((m 9 8).toNat) v) 9 8 ((m 9 8) + 1))) :
    T (D + 3) 55 (43, lo, [zi v], m) κ := by
  have he0 : wr ng = ng := wr_id (by omega) (by omega)
  have he1 : wr v = v := wr_id (by omega) (by omega)
  have he2 : wr (m 9 8) = (m 9 8) := wr_id (by omega) (by omega)
  have he3 : wr (((m 9 8) + 1) - 1) = (((m 9 8) + 1) - 1) := wr_id (by omega) (by omega)
  have key := @zb55_43r T hT D κ m ng v lo hlo
  simp only [he0, he1, he2, he3, Int.toNat_natCast] at key
  exact key
    k1
    k2
    (fun x0 x1 x2 => by refine ⟨?_, ?_⟩ <;> omega)
    (fun x0 x1 x2 => by refine ⟨?_, ?_⟩ <;> omega)
    (fun x0 x1 x2 => by refine ⟨?_, ?_⟩ <;> omega)
    (fun x0 x1 x2 => k3 x0 x1 (zB_u (zB_u (zB_u (zB_u hB (show (-1) ≤ 126 ∧ 126 ≤ 65535 from ⟨by omega, by omega⟩)) (show 0 ≤ v ∧ v ≤ 999 from ⟨by omega, by omega⟩)) (show 0 ≤ v ∧ v ≤ 39 from ⟨by omega, by omega⟩)) (show 0 ≤ ((m 9 8) + 1) ∧ ((m 9 8) + 1) ≤ 40 from ⟨by omega, by omega⟩)))
    (fun x0 x1 x2 => by omega)
theorem zb56_0r (hT : zRules T) {D : Nat} {κ : Option zA → zM → Prop} {m : zM} {d : Nat} 
    (o1 : ∀ j, zbd 3 j (m 3 j))
    (o2 : (0 ≤ (m 2 3) ∧ (m 2 3) ≤ 1000))
    (o3 : (0 ≤ (m 2 2) ∧ (m 2 2) ≤ 80))
    (o4 : wr (nxC m) < 48 → ¬ wr (nxC m) = 40 → wr (nxC m) = 104 → False)
    (o5 : wr (nxC m) < 48 → ¬ wr (nxC m) = 40 → ¬ wr (nxC m) = 104 → wr (nxC m) = 108 → False)
    (o6 : wr (nxC m) < 48 → ¬ wr (nxC m) = 40 → ¬ wr (nxC m) = 104 → ¬ wr (nxC m) = 108 → wr (nxC m) = 119 → False)
    (o7 : wr (nxC m) < 48 → ¬ wr (nxC m) = 40 → ¬ wr (nxC m) = 104 → ¬ wr (nxC m) = 108 → ¬ wr (nxC m) = 119 → wr (nxC m) = 112 → False)
    (o8 : wr (nxC m) < 48 → ¬ wr (nxC m) = 40 → ¬ wr (nxC m) = 104 → ¬ wr (nxC m) = 108 → ¬ wr (nxC m) = 119 → ¬ wr (nxC m) = 112 → wr (nxC m) = 105 → False)
    (o9 : wr (nxC m) < 48 → ¬ wr (nxC m) = 40 → ¬ wr (nxC m) = 104 → ¬ wr (nxC m) = 108 → ¬ wr (nxC m) = 119 → ¬ wr (nxC m) = 112 → ¬ wr (nxC m) = 105 → κ (some (zi (-1))) m)
    (o10 : wr (nxC m) < 48 → wr (nxC m) = 40 → T (D + 2) 57 (0, [(0, zr 9), (1, zr 2), (2, zi ((d : Int) + 1))], [], m) (fun r m1 => T (D + 3) 56 (44, [(0, zr 9), (1, zr 2), (2, zi (d : Int)), (3, zi (nxC m))], r.toList ++ [], m1) κ))
    (o11 : ¬ wr (nxC m) < 48 → 57 < wr (nxC m) → ¬ wr (nxC m) = 40 → wr (nxC m) = 104 → wr (m 9 8) < 40 → (0 ≤ wr (m 9 8) ∧ wr (m 9 8) < 40))
    (o12 : ¬ wr (nxC m) < 48 → 57 < wr (nxC m) → ¬ wr (nxC m) = 40 → wr (nxC m) = 104 → wr (m 9 8) < 40 → (0 ≤ wr (m 9 8) ∧ wr (m 9 8) < 40))
    (o13 : ¬ wr (nxC m) < 48 → 57 < wr (nxC m) → ¬ wr (nxC m) = 40 → wr (nxC m) = 104 → wr (m 9 8) < 40 → (0 ≤ wr (m 9 8) ∧ wr (m 9 8) < 40))
    (o14 : ¬ wr (nxC m) < 48 → 57 < wr (nxC m) → ¬ wr (nxC m) = 40 → wr (nxC m) = 104 → wr (m 9 8) < 40 → κ (some (zi (wr (wr (((m 9 8) + 1) - 1))))) (zu (zu (zu (zu (zu m 2 3 ((m 2 3) + 1)) 14 ((wr (m 9 8)).toNat) (nxC m)) 15 ((wr (m 9 8)).toNat) 0) 16 ((wr (m 9 8)).toNat) 0) 9 8 ((m 9 8) + 1)))
    (o15 : ¬ wr (nxC m) < 48 → 57 < wr (nxC m) → ¬ wr (nxC m) = 40 → wr (nxC m) = 104 → ¬ wr (m 9 8) < 40 → κ (some (zi (-1))) (zu m 2 3 ((m 2 3) + 1)))
    (o16 : ¬ wr (nxC m) < 48 → 57 < wr (nxC m) → ¬ wr (nxC m) = 40 → ¬ wr (nxC m) = 104 → wr (nxC m) = 108 → wr (m 9 8) < 40 → (0 ≤ wr (m 9 8) ∧ wr (m 9 8) < 40))
    (o17 : ¬ wr (nxC m) < 48 → 57 < wr (nxC m) → ¬ wr (nxC m) = 40 → ¬ wr (nxC m) = 104 → wr (nxC m) = 108 → wr (m 9 8) < 40 → (0 ≤ wr (m 9 8) ∧ wr (m 9 8) < 40))
    (o18 : ¬ wr (nxC m) < 48 → 57 < wr (nxC m) → ¬ wr (nxC m) = 40 → ¬ wr (nxC m) = 104 → wr (nxC m) = 108 → wr (m 9 8) < 40 → (0 ≤ wr (m 9 8) ∧ wr (m 9 8) < 40))
    (o19 : ¬ wr (nxC m) < 48 → 57 < wr (nxC m) → ¬ wr (nxC m) = 40 → ¬ wr (nxC m) = 104 → wr (nxC m) = 108 → wr (m 9 8) < 40 → κ (some (zi (wr (wr (((m 9 8) + 1) - 1))))) (zu (zu (zu (zu (zu m 2 3 ((m 2 3) + 1)) 14 ((wr (m 9 8)).toNat) (nxC m)) 15 ((wr (m 9 8)).toNat) 0) 16 ((wr (m 9 8)).toNat) 0) 9 8 ((m 9 8) + 1)))
    (o20 : ¬ wr (nxC m) < 48 → 57 < wr (nxC m) → ¬ wr (nxC m) = 40 → ¬ wr (nxC m) = 104 → wr (nxC m) = 108 → ¬ wr (m 9 8) < 40 → κ (some (zi (-1))) (zu m 2 3 ((m 2 3) + 1)))
    (o21 : ¬ wr (nxC m) < 48 → 57 < wr (nxC m) → ¬ wr (nxC m) = 40 → ¬ wr (nxC m) = 104 → ¬ wr (nxC m) = 108 → wr (nxC m) = 119 → wr (m 9 8) < 40 → (0 ≤ wr (m 9 8) ∧ wr (m 9 8) < 40))
    (o22 : ¬ wr (nxC m) < 48 → 57 < wr (nxC m) → ¬ wr (nxC m) = 40 → ¬ wr (nxC m) = 104 → ¬ wr (nxC m) = 108 → wr (nxC m) = 119 → wr (m 9 8) < 40 → (0 ≤ wr (m 9 8) ∧ wr (m 9 8) < 40))
    (o23 : ¬ wr (nxC m) < 48 → 57 < wr (nxC m) → ¬ wr (nxC m) = 40 → ¬ wr (nxC m) = 104 → ¬ wr (nxC m) = 108 → wr (nxC m) = 119 → wr (m 9 8) < 40 → (0 ≤ wr (m 9 8) ∧ wr (m 9 8) < 40))
    (o24 : ¬ wr (nxC m) < 48 → 57 < wr (nxC m) → ¬ wr (nxC m) = 40 → ¬ wr (nxC m) = 104 → ¬ wr (nxC m) = 108 → wr (nxC m) = 119 → wr (m 9 8) < 40 → κ (some (zi (wr (wr (((m 9 8) + 1) - 1))))) (zu (zu (zu (zu (zu m 2 3 ((m 2 3) + 1)) 14 ((wr (m 9 8)).toNat) (nxC m)) 15 ((wr (m 9 8)).toNat) 0) 16 ((wr (m 9 8)).toNat) 0) 9 8 ((m 9 8) + 1)))
    (o25 : ¬ wr (nxC m) < 48 → 57 < wr (nxC m) → ¬ wr (nxC m) = 40 → ¬ wr (nxC m) = 104 → ¬ wr (nxC m) = 108 → wr (nxC m) = 119 → ¬ wr (m 9 8) < 40 → κ (some (zi (-1))) (zu m 2 3 ((m 2 3) + 1)))
    (o26 : ¬ wr (nxC m) < 48 → 57 < wr (nxC m) → ¬ wr (nxC m) = 40 → ¬ wr (nxC m) = 104 → ¬ wr (nxC m) = 108 → ¬ wr (nxC m) = 119 → wr (nxC m) = 112 → wr (m 9 8) < 40 → (0 ≤ wr (m 9 8) ∧ wr (m 9 8) < 40))
    (o27 : ¬ wr (nxC m) < 48 → 57 < wr (nxC m) → ¬ wr (nxC m) = 40 → ¬ wr (nxC m) = 104 → ¬ wr (nxC m) = 108 → ¬ wr (nxC m) = 119 → wr (nxC m) = 112 → wr (m 9 8) < 40 → (0 ≤ wr (m 9 8) ∧ wr (m 9 8) < 40))
    (o28 : ¬ wr (nxC m) < 48 → 57 < wr (nxC m) → ¬ wr (nxC m) = 40 → ¬ wr (nxC m) = 104 → ¬ wr (nxC m) = 108 → ¬ wr (nxC m) = 119 → wr (nxC m) = 112 → wr (m 9 8) < 40 → (0 ≤ wr (m 9 8) ∧ wr (m 9 8) < 40))
    (o29 : ¬ wr (nxC m) < 48 → 57 < wr (nxC m) → ¬ wr (nxC m) = 40 → ¬ wr (nxC m) = 104 → ¬ wr (nxC m) = 108 → ¬ wr (nxC m) = 119 → wr (nxC m) = 112 → wr (m 9 8) < 40 → κ (some (zi (wr (wr (((m 9 8) + 1) - 1))))) (zu (zu (zu (zu (zu m 2 3 ((m 2 3) + 1)) 14 ((wr (m 9 8)).toNat) (nxC m)) 15 ((wr (m 9 8)).toNat) 0) 16 ((wr (m 9 8)).toNat) 0) 9 8 ((m 9 8) + 1)))
    (o30 : ¬ wr (nxC m) < 48 → 57 < wr (nxC m) → ¬ wr (nxC m) = 40 → ¬ wr (nxC m) = 104 → ¬ wr (nxC m) = 108 → ¬ wr (nxC m) = 119 → wr (nxC m) = 112 → ¬ wr (m 9 8) < 40 → κ (some (zi (-1))) (zu m 2 3 ((m 2 3) + 1)))
    (o31 : ¬ wr (nxC m) < 48 → 57 < wr (nxC m) → ¬ wr (nxC m) = 40 → ¬ wr (nxC m) = 104 → ¬ wr (nxC m) = 108 → ¬ wr (nxC m) = 119 → ¬ wr (nxC m) = 112 → wr (nxC m) = 105 → wr (m 9 8) < 40 → (0 ≤ wr (m 9 8) ∧ wr (m 9 8) < 40))
    (o32 : ¬ wr (nxC m) < 48 → 57 < wr (nxC m) → ¬ wr (nxC m) = 40 → ¬ wr (nxC m) = 104 → ¬ wr (nxC m) = 108 → ¬ wr (nxC m) = 119 → ¬ wr (nxC m) = 112 → wr (nxC m) = 105 → wr (m 9 8) < 40 → (0 ≤ wr (m 9 8) ∧ wr (m 9 8) < 40))
    (o33 : ¬ wr (nxC m) < 48 → 57 < wr (nxC m) → ¬ wr (nxC m) = 40 → ¬ wr (nxC m) = 104 → ¬ wr (nxC m) = 108 → ¬ wr (nxC m) = 119 → ¬ wr (nxC m) = 112 → wr (nxC m) = 105 → wr (m 9 8) < 40 → (0 ≤ wr (m 9 8) ∧ wr (m 9 8) < 40))
    (o34 : ¬ wr (nxC m) < 48 → 57 < wr (nxC m) → ¬ wr (nxC m) = 40 → ¬ wr (nxC m) = 104 → ¬ wr (nxC m) = 108 → ¬ wr (nxC m) = 119 → ¬ wr (nxC m) = 112 → wr (nxC m) = 105 → wr (m 9 8) < 40 → κ (some (zi (wr (wr (((m 9 8) + 1) - 1))))) (zu (zu (zu (zu (zu m 2 3 ((m 2 3) + 1)) 14 ((wr (m 9 8)).toNat) (nxC m)) 15 ((wr (m 9 8)).toNat) 0) 16 ((wr (m 9 8)).toNat) 0) 9 8 ((m 9 8) + 1)))
    (o35 : ¬ wr (nxC m) < 48 → 57 < wr (nxC m) → ¬ wr (nxC m) = 40 → ¬ wr (nxC m) = 104 → ¬ wr (nxC m) = 108 → ¬ wr (nxC m) = 119 → ¬ wr (nxC m) = 112 → wr (nxC m) = 105 → ¬ wr (m 9 8) < 40 → κ (some (zi (-1))) (zu m 2 3 ((m 2 3) + 1)))
    (o36 : ¬ wr (nxC m) < 48 → 57 < wr (nxC m) → ¬ wr (nxC m) = 40 → ¬ wr (nxC m) = 104 → ¬ wr (nxC m) = 108 → ¬ wr (nxC m) = 119 → ¬ wr (nxC m) = 112 → ¬ wr (nxC m) = 105 → κ (some (zi (-1))) m)
    (o37 : ¬ wr (nxC m) < 48 → 57 < wr (nxC m) → wr (nxC m) = 40 → False)
    (o38 : ¬ wr (nxC m) < 48 → ¬ 57 < wr (nxC m) → T (D + 2) 72 (0, [(0, zr 2), (1, zi 3)], [], m) (fun r m1 => T (D + 3) 56 (25, [(0, zr 9), (1, zr 2), (2, zi (d : Int)), (3, zi (nxC m))], r.toList ++ [zi 48, zr 9], m1) κ)) :
    T (D + 3) 56 (0, [(0, zr 9), (1, zr 2), (2, zi (d : Int))], [], m) κ :=
  hT.1 [] 6 (D + 3) 56 _ κ (z_next hT (o1) (o2) (o3) (hT.1 [] 6 (D + 3) 56 _ _ (And.intro (fun a1 => (hT.1 [] 6 (D + 3) 56 (33, [(0, zr 9), (1, zr 2), (2, zi (d : Int)), (3, zi (nxC m))], [zi 40, zi (nxC m)], m) _ (And.intro (fun a3 => (And.intro (fun a5 => (o4 a1 a3 a5).elim) (fun a6 => (hT.1 [] 6 (D + 3) 56 (54, [(0, zr 9), (1, zr 2), (2, zi (d : Int)), (3, zi (nxC m))], [zi 108, zi (nxC m)], m) _ (And.intro (fun a7 => (o5 a1 a3 a6 a7).elim) (fun a8 => (And.intro (fun a9 => (o6 a1 a3 a6 a8 a9).elim) (fun a10 => (hT.1 [] 6 (D + 3) 56 (66, [(0, zr 9), (1, zr 2), (2, zi (d : Int)), (3, zi (nxC m))], [zi 112, zi (nxC m)], m) _ (And.intro (fun a11 => (o7 a1 a3 a6 a8 a10 a11).elim) (fun a12 => (And.intro (fun a13 => (o8 a1 a3 a6 a8 a10 a12 a13).elim) (fun a14 => (o9 a1 a3 a6 a8 a10 a12 a14)))))))))))))) (fun a4 => (hT.1 [] 6 (D + 3) 56 (41, [(0, zr 9), (1, zr 2), (2, zi (d : Int)), (3, zi (nxC m))], [zi ((d : Int) + 1), zr 2, zr 9], m) _ (o10 a1 (Classical.byContradiction a4))))))) (fun a2 => (hT.1 [] 6 (D + 3) 56 (14, [(0, zr 9), (1, zr 2), (2, zi (d : Int)), (3, zi (nxC m))], [zi 57, zi (nxC m)], m) _ (And.intro (fun a15 => (And.intro (fun a17 => (hT.1 [] 6 (D + 3) 56 (48, [(0, zr 9), (1, zr 2), (2, zi (d : Int)), (3, zi (nxC m))], [zi 104, zi (nxC m)], m) _ (And.intro (fun a19 => (hT.1 [] 6 (D + 3) 56 (84, [(0, zr 9), (1, zr 2), (2, zi (d : Int)), (3, zi (nxC m))], [zi ((m 2 3) + 1), zr 2], m) _ (And.intro trivial (hT.1 [] 6 (D + 2) 51 _ _ (And.intro (fun a21 => (hT.1 [] 6 (D + 2) 51 (15, [(0, zr 9), (1, zi (nxC m)), (2, zi 0), (3, zi 0)], [zr 14], (zu m 2 3 ((m 2 3) + 1))) _ (And.intro (And.intro (o11 a2 a15 a17 a19 a21) trivial) (hT.1 [] 6 (D + 2) 51 (25, [(0, zr 9), (1, zi (nxC m)), (2, zi 0), (3, zi 0)], [zr 15], (zu (zu m 2 3 ((m 2 3) + 1)) 14 ((wr (m 9 8)).toNat) (nxC m))) _ (And.intro (And.intro (o12 a2 a15 a17 a19 a21) trivial) (hT.1 [] 6 (D + 2) 51 (35, [(0, zr 9), (1, zi (nxC m)), (2, zi 0), (3, zi 0)], [zr 16], (zu (zu (zu m 2 3 ((m 2 3) + 1)) 14 ((wr (m 9 8)).toNat) (nxC m)) 15 ((wr (m 9 8)).toNat) 0)) _ (And.intro (And.intro (o13 a2 a15 a17 a19 a21) trivial) (hT.1 [] 6 (D + 2) 51 (43, [(0, zr 9), (1, zi (nxC m)), (2, zi 0), (3, zi 0)], [zr 9, zr 9], (zu (zu (zu (zu m 2 3 ((m 2 3) + 1)) 14 ((wr (m 9 8)).toNat) (nxC m)) 15 ((wr (m 9 8)).toNat) 0) 16 ((wr (m 9 8)).toNat) 0)) _ (And.intro trivial (hT.1 [] 6 (D + 2) 51 (55, [(0, zr 9), (1, zi (nxC m)), (2, zi 0), (3, zi 0)], [zi ((m 9 8) + 1)], (zu (zu (zu (zu (zu m 2 3 ((m 2 3) + 1)) 14 ((wr (m 9 8)).toNat) (nxC m)) 15 ((wr (m 9 8)).toNat) 0) 16 ((wr (m 9 8)).toNat) 0) 9 8 ((m 9 8) + 1))) _ (hT.1 [] 6 (D + 3) 56 _ _ (o14 a2 a15 a17 a19 a21)))))))))))) (fun a22 => (hT.1 [] 6 (D + 3) 56 _ _ (o15 a2 a15 a17 a19 a22)))))))) (fun a20 => (And.intro (fun a23 => (hT.1 [] 6 (D + 3) 56 (79, [(0, zr 9), (1, zr 2), (2, zi (d : Int)), (3, zi (nxC m))], [zr 2, zr 2], m) _ (And.intro trivial (hT.1 [] 6 (D + 3) 56 (89, [(0, zr 9), (1, zr 2), (2, zi (d : Int)), (3, zi (nxC m))], [zi (nxC m), zr 9], (zu m 2 3 ((m 2 3) + 1))) _ (hT.1 [] 6 (D + 2) 51 _ _ (And.intro (fun a25 => (hT.1 [] 6 (D + 2) 51 (15, [(0, zr 9), (1, zi (nxC m)), (2, zi 0), (3, zi 0)], [zr 14], (zu m 2 3 ((m 2 3) + 1))) _ (And.intro (And.intro (o16 a2 a15 a17 a20 a23 a25) trivial) (hT.1 [] 6 (D + 2) 51 (25, [(0, zr 9), (1, zi (nxC m)), (2, zi 0), (3, zi 0)], [zr 15], (zu (zu m 2 3 ((m 2 3) + 1)) 14 ((wr (m 9 8)).toNat) (nxC m))) _ (And.intro (And.intro (o17 a2 a15 a17 a20 a23 a25) trivial) (hT.1 [] 6 (D + 2) 51 (35, [(0, zr 9), (1, zi (nxC m)), (2, zi 0), (3, zi 0)], [zr 16], (zu (zu (zu m 2 3 ((m 2 3) + 1)) 14 ((wr (m 9 8)).toNat) (nxC m)) 15 ((wr (m 9 8)).toNat) 0)) _ (And.intro (And.intro (o18 a2 a15 a17 a20 a23 a25) trivial) (hT.1 [] 6 (D + 2) 51 (43, [(0, zr 9), (1, zi (nxC m)), (2, zi 0), (3, zi 0)], [zr 9, zr 9], (zu (zu (zu (zu m 2 3 ((m 2 3) + 1)) 14 ((wr (m 9 8)).toNat) (nxC m)) 15 ((wr (m 9 8)).toNat) 0) 16 ((wr (m 9 8)).toNat) 0)) _ (And.intro trivial (hT.1 [] 6 (D + 2) 51 (55, [(0, zr 9), (1, zi (nxC m)), (2, zi 0), (3, zi 0)], [zi ((m 9 8) + 1)], (zu (zu (zu (zu (zu m 2 3 ((m 2 3) + 1)) 14 ((wr (m 9 8)).toNat) (nxC m)) 15 ((wr (m 9 8)).toNat) 0) 16 ((wr (m 9 8)).toNat) 0) 9 8 ((m 9 8) + 1))) _ (hT.1 [] 6 (D + 3) 56 _ _ (o19 a2 a15 a17 a20 a23 a25)))))))))))) (fun a26 => (hT.1 [] 6 (D + 3) 56 _ _ (o20 a2 a15 a17 a20 a23 a26))))))))) (fun a24 => (hT.1 [] 6 (D + 3) 56 (60, [(0, zr 9), (1, zr 2), (2, zi (d : Int)), (3, zi (nxC m))], [zi 119, zi (nxC m)], m) _ (And.intro (fun a27 => (hT.1 [] 6 (D + 3) 56 (84, [(0, zr 9), (1, zr 2), (2, zi (d : Int)), (3, zi (nxC m))], [zi ((m 2 3) + 1), zr 2], m) _ (And.intro trivial (hT.1 [] 6 (D + 2) 51 _ _ (And.intro (fun a29 => (hT.1 [] 6 (D + 2) 51 (15, [(0, zr 9), (1, zi (nxC m)), (2, zi 0), (3, zi 0)], [zr 14], (zu m 2 3 ((m 2 3) + 1))) _ (And.intro (And.intro (o21 a2 a15 a17 a20 a24 a27 a29) trivial) (hT.1 [] 6 (D + 2) 51 (25, [(0, zr 9), (1, zi (nxC m)), (2, zi 0), (3, zi 0)], [zr 15], (zu (zu m 2 3 ((m 2 3) + 1)) 14 ((wr (m 9 8)).toNat) (nxC m))) _ (And.intro (And.intro (o22 a2 a15 a17 a20 a24 a27 a29) trivial) (hT.1 [] 6 (D + 2) 51 (35, [(0, zr 9), (1, zi (nxC m)), (2, zi 0), (3, zi 0)], [zr 16], (zu (zu (zu m 2 3 ((m 2 3) + 1)) 14 ((wr (m 9 8)).toNat) (nxC m)) 15 ((wr (m 9 8)).toNat) 0)) _ (And.intro (And.intro (o23 a2 a15 a17 a20 a24 a27 a29) trivial) (hT.1 [] 6 (D + 2) 51 (43, [(0, zr 9), (1, zi (nxC m)), (2, zi 0), (3, zi 0)], [zr 9, zr 9], (zu (zu (zu (zu m 2 3 ((m 2 3) + 1)) 14 ((wr (m 9 8)).toNat) (nxC m)) 15 ((wr (m 9 8)).toNat) 0) 16 ((wr (m 9 8)).toNat) 0)) _ (And.intro trivial (hT.1 [] 6 (D + 2) 51 (55, [(0, zr 9), (1, zi (nxC m)), (2, zi 0), (3, zi 0)], [zi ((m 9 8) + 1)], (zu (zu (zu (zu (zu m 2 3 ((m 2 3) + 1)) 14 ((wr (m 9 8)).toNat) (nxC m)) 15 ((wr (m 9 8)).toNat) 0) 16 ((wr (m 9 8)).toNat) 0) 9 8 ((m 9 8) + 1))) _ (hT.1 [] 6 (D + 3) 56 _ _ (o24 a2 a15 a17 a20 a24 a27 a29)))))))))))) (fun a30 => (hT.1 [] 6 (D + 3) 56 _ _ (o25 a2 a15 a17 a20 a24 a27 a30)))))))) (fun a28 => (And.intro (fun a31 => (hT.1 [] 6 (D + 3) 56 (79, [(0, zr 9), (1, zr 2), (2, zi (d : Int)), (3, zi (nxC m))], [zr 2, zr 2], m) _ (And.intro trivial (hT.1 [] 6 (D + 3) 56 (89, [(0, zr 9), (1, zr 2), (2, zi (d : Int)), (3, zi (nxC m))], [zi (nxC m), zr 9], (zu m 2 3 ((m 2 3) + 1))) _ (hT.1 [] 6 (D + 2) 51 _ _ (And.intro (fun a33 => (hT.1 [] 6 (D + 2) 51 (15, [(0, zr 9), (1, zi (nxC m)), (2, zi 0), (3, zi 0)], [zr 14], (zu m 2 3 ((m 2 3) + 1))) _ (And.intro (And.intro (o26 a2 a15 a17 a20 a24 a28 a31 a33) trivial) (hT.1 [] 6 (D + 2) 51 (25, [(0, zr 9), (1, zi (nxC m)), (2, zi 0), (3, zi 0)], [zr 15], (zu (zu m 2 3 ((m 2 3) + 1)) 14 ((wr (m 9 8)).toNat) (nxC m))) _ (And.intro (And.intro (o27 a2 a15 a17 a20 a24 a28 a31 a33) trivial) (hT.1 [] 6 (D + 2) 51 (35, [(0, zr 9), (1, zi (nxC m)), (2, zi 0), (3, zi 0)], [zr 16], (zu (zu (zu m 2 3 ((m 2 3) + 1)) 14 ((wr (m 9 8)).toNat) (nxC m)) 15 ((wr (m 9 8)).toNat) 0)) _ (And.intro (And.intro (o28 a2 a15 a17 a20 a24 a28 a31 a33) trivial) (hT.1 [] 6 (D + 2) 51 (43, [(0, zr 9), (1, zi (nxC m)), (2, zi 0), (3, zi 0)], [zr 9, zr 9], (zu (zu (zu (zu m 2 3 ((m 2 3) + 1)) 14 ((wr (m 9 8)).toNat) (nxC m)) 15 ((wr (m 9 8)).toNat) 0) 16 ((wr (m 9 8)).toNat) 0)) _ (And.intro trivial (hT.1 [] 6 (D + 2) 51 (55, [(0, zr 9), (1, zi (nxC m)), (2, zi 0), (3, zi 0)], [zi ((m 9 8) + 1)], (zu (zu (zu (zu (zu m 2 3 ((m 2 3) + 1)) 14 ((wr (m 9 8)).toNat) (nxC m)) 15 ((wr (m 9 8)).toNat) 0) 16 ((wr (m 9 8)).toNat) 0) 9 8 ((m 9 8) + 1))) _ (hT.1 [] 6 (D + 3) 56 _ _ (o29 a2 a15 a17 a20 a24 a28 a31 a33)))))))))))) (fun a34 => (hT.1 [] 6 (D + 3) 56 _ _ (o30 a2 a15 a17 a20 a24 a28 a31 a34))))))))) (fun a32 => (hT.1 [] 6 (D + 3) 56 (72, [(0, zr 9), (1, zr 2), (2, zi (d : Int)), (3, zi (nxC m))], [zi 105, zi (nxC m)], m) _ (And.intro (fun a35 => (hT.1 [] 6 (D + 3) 56 (84, [(0, zr 9), (1, zr 2), (2, zi (d : Int)), (3, zi (nxC m))], [zi ((m 2 3) + 1), zr 2], m) _ (And.intro trivial (hT.1 [] 6 (D + 2) 51 _ _ (And.intro (fun a37 => (hT.1 [] 6 (D + 2) 51 (15, [(0, zr 9), (1, zi (nxC m)), (2, zi 0), (3, zi 0)], [zr 14], (zu m 2 3 ((m 2 3) + 1))) _ (And.intro (And.intro (o31 a2 a15 a17 a20 a24 a28 a32 a35 a37) trivial) (hT.1 [] 6 (D + 2) 51 (25, [(0, zr 9), (1, zi (nxC m)), (2, zi 0), (3, zi 0)], [zr 15], (zu (zu m 2 3 ((m 2 3) + 1)) 14 ((wr (m 9 8)).toNat) (nxC m))) _ (And.intro (And.intro (o32 a2 a15 a17 a20 a24 a28 a32 a35 a37) trivial) (hT.1 [] 6 (D + 2) 51 (35, [(0, zr 9), (1, zi (nxC m)), (2, zi 0), (3, zi 0)], [zr 16], (zu (zu (zu m 2 3 ((m 2 3) + 1)) 14 ((wr (m 9 8)).toNat) (nxC m)) 15 ((wr (m 9 8)).toNat) 0)) _ (And.intro (And.intro (o33 a2 a15 a17 a20 a24 a28 a32 a35 a37) trivial) (hT.1 [] 6 (D + 2) 51 (43, [(0, zr 9), (1, zi (nxC m)), (2, zi 0), (3, zi 0)], [zr 9, zr 9], (zu (zu (zu (zu m 2 3 ((m 2 3) + 1)) 14 ((wr (m 9 8)).toNat) (nxC m)) 15 ((wr (m 9 8)).toNat) 0) 16 ((wr (m 9 8)).toNat) 0)) _ (And.intro trivial (hT.1 [] 6 (D + 2) 51 (55, [(0, zr 9), (1, zi (nxC m)), (2, zi 0), (3, zi 0)], [zi ((m 9 8) + 1)], (zu (zu (zu (zu (zu m 2 3 ((m 2 3) + 1)) 14 ((wr (m 9 8)).toNat) (nxC m)) 15 ((wr (m 9 8)).toNat) 0) 16 ((wr (m 9 8)).toNat) 0) 9 8 ((m 9 8) + 1))) _ (hT.1 [] 6 (D + 3) 56 _ _ (o34 a2 a15 a17 a20 a24 a28 a32 a35 a37)))))))))))) (fun a38 => (hT.1 [] 6 (D + 3) 56 _ _ (o35 a2 a15 a17 a20 a24 a28 a32 a35 a38)))))))) (fun a36 => (o36 a2 a15 a17 a20 a24 a28 a32 a36))))))))))))))) (fun a18 => (o37 a2 a15 (Classical.byContradiction a18)).elim))) (fun a16 => (o38 a2 a16))))))))
theorem zb56_0 (hT : zRules T) {D : Nat} {κ : Option zA → zM → Prop} {m : zM} {d : Nat}  (hB : zB m) (h_d : d ≤ 4) (hf0 : 0 ≤ m 2 3 ∧ m 2 3 ≤ 90) 
    (k1 : (nxC m) < 48 → ¬ (nxC m) = 40 → κ (some (zi (-1))) m)
    (k2 : (nxC m) < 48 → (nxC m) = 40 → T (D + 2) 57 (0, [(0, zr 9), (1, zr 2), (2, zi ((d : Int) + 1))], [], m) (fun r m1 => T (D + 3) 56 (44, [(0, zr 9), (1, zr 2), (2, zi (d : Int)), (3, zi (nxC m))], r.toList ++ [], m1) κ))
    (k3 : ¬ (nxC m) < 48 → 57 < (nxC m) → (nxC m) = 104 → (m 9 8) < 40 → zB (zu (zu (zu (zu (zu m 2 3 ((m 2 3) + 1)) 14 ((m 9 8).toNat) (nxC m)) 15 ((m 9 8).toNat) 0) 16 ((m 9 8).toNat) 0) 9 8 ((m 9 8) + 1)) → κ (some (zi (((m 9 8) + 1) - 1))) (zu (zu (zu (zu (zu m 2 3 ((m 2 3) + 1)) 14 ((m 9 8).toNat) (nxC m)) 15 ((m 9 8).toNat) 0) 16 ((m 9 8).toNat) 0) 9 8 ((m 9 8) + 1)))
    (k4 : ¬ (nxC m) < 48 → 57 < (nxC m) → (nxC m) = 104 → ¬ (m 9 8) < 40 → zB (zu m 2 3 ((m 2 3) + 1)) → κ (some (zi (-1))) (zu m 2 3 ((m 2 3) + 1)))
    (k5 : ¬ (nxC m) < 48 → 57 < (nxC m) → ¬ (nxC m) = 104 → (nxC m) = 108 → (m 9 8) < 40 → zB (zu (zu (zu (zu (zu m 2 3 ((m 2 3) + 1)) 14 ((m 9 8).toNat) (nxC m)) 15 ((m 9 8).toNat) 0) 16 ((m 9 8).toNat) 0) 9 8 ((m 9 8) + 1)) → κ (some (zi (((m 9 8) + 1) - 1))) (zu (zu (zu (zu (zu m 2 3 ((m 2 3) + 1)) 14 ((m 9 8).toNat) (nxC m)) 15 ((m 9 8).toNat) 0) 16 ((m 9 8).toNat) 0) 9 8 ((m 9 8) + 1)))
    (k6 : ¬ (nxC m) < 48 → 57 < (nxC m) → ¬ (nxC m) = 104 → (nxC m) = 108 → ¬ (m 9 8) < 40 → zB (zu m 2 3 ((m 2 3) + 1)) → κ (some (zi (-1))) (zu m 2 3 ((m 2 3) + 1)))
    (k7 : ¬ (nxC m) < 48 → 57 < (nxC m) → ¬ (nxC m) = 104 → ¬ (nxC m) = 108 → (nxC m) = 119 → (m 9 8) < 40 → zB (zu (zu (zu (zu (zu m 2 3 ((m 2 3) + 1)) 14 ((m 9 8).toNat) (nxC m)) 15 ((m 9 8).toNat) 0) 16 ((m 9 8).toNat) 0) 9 8 ((m 9 8) + 1)) → κ (some (zi (((m 9 8) + 1) - 1))) (zu (zu (zu (zu (zu m 2 3 ((m 2 3) + 1)) 14 ((m 9 8).toNat) (nxC m)) 15 ((m 9 8).toNat) 0) 16 ((m 9 8).toNat) 0) 9 8 ((m 9 8) + 1)))
    (k8 : ¬ (nxC m) < 48 → 57 < (nxC m) → ¬ (nxC m) = 104 → ¬ (nxC m) = 108 → (nxC m) = 119 → ¬ (m 9 8) < 40 → zB (zu m 2 3 ((m 2 3) + 1)) → κ (some (zi (-1))) (zu m 2 3 ((m 2 3) + 1)))
    (k9 : ¬ (nxC m) < 48 → 57 < (nxC m) → ¬ (nxC m) = 104 → ¬ (nxC m) = 108 → ¬ (nxC m) = 119 → (nxC m) = 112 → (m 9 8) < 40 → zB (zu (zu (zu (zu (zu m 2 3 ((m 2 3) + 1)) 14 ((m 9 8).toNat) (nxC m)) 15 ((m 9 8).toNat) 0) 16 ((m 9 8).toNat) 0) 9 8 ((m 9 8) + 1)) → κ (some (zi (((m 9 8) + 1) - 1))) (zu (zu (zu (zu (zu m 2 3 ((m 2 3) + 1)) 14 ((m 9 8).toNat) (nxC m)) 15 ((m 9 8).toNat) 0) 16 ((m 9 8).toNat) 0) 9 8 ((m 9 8) + 1)))
    (k10 : ¬ (nxC m) < 48 → 57 < (nxC m) → ¬ (nxC m) = 104 → ¬ (nxC m) = 108 → ¬ (nxC m) = 119 → (nxC m) = 112 → ¬ (m 9 8) < 40 → zB (zu m 2 3 ((m 2 3) + 1)) → κ (some (zi (-1))) (zu m 2 3 ((m 2 3) + 1)))
    (k11 : ¬ (nxC m) < 48 → 57 < (nxC m) → ¬ (nxC m) = 104 → ¬ (nxC m) = 108 → ¬ (nxC m) = 119 → ¬ (nxC m) = 112 → (nxC m) = 105 → (m 9 8) < 40 → zB (zu (zu (zu (zu (zu m 2 3 ((m 2 3) + 1)) 14 ((m 9 8).toNat) (nxC m)) 15 ((m 9 8).toNat) 0) 16 ((m 9 8).toNat) 0) 9 8 ((m 9 8) + 1)) → κ (some (zi (((m 9 8) + 1) - 1))) (zu (zu (zu (zu (zu m 2 3 ((m 2 3) + 1)) 14 ((m 9 8).toNat) (nxC m)) 15 ((m 9 8).toNat) 0) 16 ((m 9 8).toNat) 0) 9 8 ((m 9 8) + 1)))
    (k12 : ¬ (nxC m) < 48 → 57 < (nxC m) → ¬ (nxC m) = 104 → ¬ (nxC m) = 108 → ¬ (nxC m) = 119 → ¬ (nxC m) = 112 → (nxC m) = 105 → ¬ (m 9 8) < 40 → zB (zu m 2 3 ((m 2 3) + 1)) → κ (some (zi (-1))) (zu m 2 3 ((m 2 3) + 1)))
    (k13 : ¬ (nxC m) < 48 → 57 < (nxC m) → ¬ (nxC m) = 104 → ¬ (nxC m) = 108 → ¬ (nxC m) = 119 → ¬ (nxC m) = 112 → ¬ (nxC m) = 105 → κ (some (zi (-1))) m)
    (k14 : ¬ (nxC m) < 48 → ¬ 57 < (nxC m) → T (D + 2) 72 (0, [(0, zr 2), (1, zi 3)], [], m) (fun r m1 => T (D + 3) 56 (25, [(0, zr 9), (1, zr 2), (2, zi (d : Int)), (3, zi (nxC m))], r.toList ++ [zi 48, zr 9], m1) κ)) :
    T (D + 3) 56 (0, [(0, zr 9), (1, zr 2), (2, zi (d : Int))], [], m) κ := by
  have hb2 : 0 ≤ (m 2 2) ∧ (m 2 2) ≤ 80 := hB 2 2
  have hb3 : (-1) ≤ (nxC m) ∧ (nxC m) ≤ 65535 := nxCBo m (fun j => hB 3 j)
  have hb4 : 0 ≤ (m 9 8) ∧ (m 9 8) ≤ 40 := hB 9 8
  have he0 : wr (nxC m) = (nxC m) := wr_id (by omega) (by omega)
  have he1 : wr (m 9 8) = (m 9 8) := wr_id (by omega) (by omega)
  have he2 : wr (((m 9 8) + 1) - 1) = (((m 9 8) + 1) - 1) := wr_id (by omega) (by omega)
  have key := @zb56_0r T hT D κ m d
  simp only [he0, he1, he2, Int.toNat_natCast] at key
  exact key
    (fun j => hB 3 j)
    (by refine ⟨?_, ?_⟩ <;> omega)
    (by refine ⟨?_, ?_⟩ <;> omega)
    (fun x0 x1 x2 => by omega)
    (fun x0 x1 x2 x3 => by omega)
    (fun x0 x1 x2 x3 x4 => by omega)
    (fun x0 x1 x2 x3 x4 x5 => by omega)
    (fun x0 x1 x2 x3 x4 x5 x6 => by omega)
    (fun x0 x1 x2 x3 x4 x5 x6 => k1 x0 x1)
    k2
    (fun x0 x1 x2 x3 x4 => by refine ⟨?_, ?_⟩ <;> omega)
    (fun x0 x1 x2 x3 x4 => by refine ⟨?_, ?_⟩ <;> omega)
    (fun x0 x1 x2 x3 x4 => by refine ⟨?_, ?_⟩ <;> omega)
    (fun x0 x1 x2 x3 x4 => k3 x0 x1 x3 x4 (zB_u (zB_u (zB_u (zB_u (zB_u hB (show (-1) ≤ ((m 2 3) + 1) ∧ ((m 2 3) + 1) ≤ 100 from ⟨by omega, by omega⟩)) (show (-1) ≤ (nxC m) ∧ (nxC m) ≤ 65535 from ⟨by omega, by omega⟩)) (show 0 ≤ 0 ∧ 0 ≤ 999 from ⟨by omega, by omega⟩)) (show 0 ≤ 0 ∧ 0 ≤ 39 from ⟨by omega, by omega⟩)) (show 0 ≤ ((m 9 8) + 1) ∧ ((m 9 8) + 1) ≤ 40 from ⟨by omega, by omega⟩)))
    (fun x0 x1 x2 x3 x4 => k4 x0 x1 x3 x4 (zB_u hB (show (-1) ≤ ((m 2 3) + 1) ∧ ((m 2 3) + 1) ≤ 100 from ⟨by omega, by omega⟩)))
    (fun x0 x1 x2 x3 x4 x5 => by refine ⟨?_, ?_⟩ <;> omega)
    (fun x0 x1 x2 x3 x4 x5 => by refine ⟨?_, ?_⟩ <;> omega)
    (fun x0 x1 x2 x3 x4 x5 => by refine ⟨?_, ?_⟩ <;> omega)
    (fun x0 x1 x2 x3 x4 x5 => k5 x0 x1 x3 x4 x5 (zB_u (zB_u (zB_u (zB_u (zB_u hB (show (-1) ≤ ((m 2 3) + 1) ∧ ((m 2 3) + 1) ≤ 100 from ⟨by omega, by omega⟩)) (show (-1) ≤ (nxC m) ∧ (nxC m) ≤ 65535 from ⟨by omega, by omega⟩)) (show 0 ≤ 0 ∧ 0 ≤ 999 from ⟨by omega, by omega⟩)) (show 0 ≤ 0 ∧ 0 ≤ 39 from ⟨by omega, by omega⟩)) (show 0 ≤ ((m 9 8) + 1) ∧ ((m 9 8) + 1) ≤ 40 from ⟨by omega, by omega⟩)))
    (fun x0 x1 x2 x3 x4 x5 => k6 x0 x1 x3 x4 x5 (zB_u hB (show (-1) ≤ ((m 2 3) + 1) ∧ ((m 2 3) + 1) ≤ 100 from ⟨by omega, by omega⟩)))
    (fun x0 x1 x2 x3 x4 x5 x6 => by refine ⟨?_, ?_⟩ <;> omega)
    (fun x0 x1 x2 x3 x4 x5 x6 => by refine ⟨?_, ?_⟩ <;> omega)
    (fun x0 x1 x2 x3 x4 x5 x6 => by refine ⟨?_, ?_⟩ <;> omega)
    (fun x0 x1 x2 x3 x4 x5 x6 => k7 x0 x1 x3 x4 x5 x6 (zB_u (zB_u (zB_u (zB_u (zB_u hB (show (-1) ≤ ((m 2 3) + 1) ∧ ((m 2 3) + 1) ≤ 100 from ⟨by omega, by omega⟩)) (show (-1) ≤ (nxC m) ∧ (nxC m) ≤ 65535 from ⟨by omega, by omega⟩)) (show 0 ≤ 0 ∧ 0 ≤ 999 from ⟨by omega, by omega⟩)) (show 0 ≤ 0 ∧ 0 ≤ 39 from ⟨by omega, by omega⟩)) (show 0 ≤ ((m 9 8) + 1) ∧ ((m 9 8) + 1) ≤ 40 from ⟨by omega, by omega⟩)))
    (fun x0 x1 x2 x3 x4 x5 x6 => k8 x0 x1 x3 x4 x5 x6 (zB_u hB (show (-1) ≤ ((m 2 3) + 1) ∧ ((m 2 3) + 1) ≤ 100 from ⟨by omega, by omega⟩)))
    (fun x0 x1 x2 x3 x4 x5 x6 x7 => by refine ⟨?_, ?_⟩ <;> omega)
    (fun x0 x1 x2 x3 x4 x5 x6 x7 => by refine ⟨?_, ?_⟩ <;> omega)
    (fun x0 x1 x2 x3 x4 x5 x6 x7 => by refine ⟨?_, ?_⟩ <;> omega)
    (fun x0 x1 x2 x3 x4 x5 x6 x7 => k9 x0 x1 x3 x4 x5 x6 x7 (zB_u (zB_u (zB_u (zB_u (zB_u hB (show (-1) ≤ ((m 2 3) + 1) ∧ ((m 2 3) + 1) ≤ 100 from ⟨by omega, by omega⟩)) (show (-1) ≤ (nxC m) ∧ (nxC m) ≤ 65535 from ⟨by omega, by omega⟩)) (show 0 ≤ 0 ∧ 0 ≤ 999 from ⟨by omega, by omega⟩)) (show 0 ≤ 0 ∧ 0 ≤ 39 from ⟨by omega, by omega⟩)) (show 0 ≤ ((m 9 8) + 1) ∧ ((m 9 8) + 1) ≤ 40 from ⟨by omega, by omega⟩)))
    (fun x0 x1 x2 x3 x4 x5 x6 x7 => k10 x0 x1 x3 x4 x5 x6 x7 (zB_u hB (show (-1) ≤ ((m 2 3) + 1) ∧ ((m 2 3) + 1) ≤ 100 from ⟨by omega, by omega⟩)))
    (fun x0 x1 x2 x3 x4 x5 x6 x7 x8 => by refine ⟨?_, ?_⟩ <;> omega)
    (fun x0 x1 x2 x3 x4 x5 x6 x7 x8 => by refine ⟨?_, ?_⟩ <;> omega)
    (fun x0 x1 x2 x3 x4 x5 x6 x7 x8 => by refine ⟨?_, ?_⟩ <;> omega)
    (fun x0 x1 x2 x3 x4 x5 x6 x7 x8 => k11 x0 x1 x3 x4 x5 x6 x7 x8 (zB_u (zB_u (zB_u (zB_u (zB_u hB (show (-1) ≤ ((m 2 3) + 1) ∧ ((m 2 3) + 1) ≤ 100 from ⟨by omega, by omega⟩)) (show (-1) ≤ (nxC m) ∧ (nxC m) ≤ 65535 from ⟨by omega, by omega⟩)) (show 0 ≤ 0 ∧ 0 ≤ 999 from ⟨by omega, by omega⟩)) (show 0 ≤ 0 ∧ 0 ≤ 39 from ⟨by omega, by omega⟩)) (show 0 ≤ ((m 9 8) + 1) ∧ ((m 9 8) + 1) ≤ 40 from ⟨by omega, by omega⟩)))
    (fun x0 x1 x2 x3 x4 x5 x6 x7 x8 => k12 x0 x1 x3 x4 x5 x6 x7 x8 (zB_u hB (show (-1) ≤ ((m 2 3) + 1) ∧ ((m 2 3) + 1) ≤ 100 from ⟨by omega, by omega⟩)))
    (fun x0 x1 x2 x3 x4 x5 x6 x7 => k13 x0 x1 x3 x4 x5 x6 x7)
    (fun x0 x1 x2 => by omega)
    k14
theorem zb56_25r (hT : zRules T) {D : Nat} {κ : Option zA → zM → Prop} {m : zM} {v : Int} {lo : zL} (hlo : z_keep [] lo = []) 
    (o1 : wr (m 9 8) < 40 → (0 ≤ wr (m 9 8) ∧ wr (m 9 8) < 40))
    (o2 : wr (m 9 8) < 40 → (0 ≤ wr (m 9 8) ∧ wr (m 9 8) < 40))
    (o3 : wr (m 9 8) < 40 → (0 ≤ wr (m 9 8) ∧ wr (m 9 8) < 40))
    (o4 : wr (m 9 8) < 40 → κ (some (zi (wr (wr (((m 9 8) + 1) - 1))))) (zu (zu (zu (zu m 14 ((wr (m 9 8)).toNat) 48) 15 ((wr (m 9 8)).toNat) v) 16 ((wr (m 9 8)).toNat) 0) 9 8 ((m 9 8) + 1)))
    (o5 : ¬ wr (m 9 8) < 40 → False) :
    T (D + 3) 56 (25, lo, [zi v, zi 48, zr 9], m) κ :=
  zkeep hT hlo (hT.1 [] 6 (D + 3) 56 _ κ (hT.1 [] 6 (D + 2) 51 _ _ (And.intro (fun a1 => (hT.1 [] 6 (D + 2) 51 (15, [(0, zr 9), (1, zi 48), (2, zi v), (3, zi 0)], [zr 14], m) _ (And.intro (And.intro (o1 a1) trivial) (hT.1 [] 6 (D + 2) 51 (25, [(0, zr 9), (1, zi 48), (2, zi v), (3, zi 0)], [zr 15], (zu m 14 ((wr (m 9 8)).toNat) 48)) _ (And.intro (And.intro (o2 a1) trivial) (hT.1 [] 6 (D + 2) 51 (35, [(0, zr 9), (1, zi 48), (2, zi v), (3, zi 0)], [zr 16], (zu (zu m 14 ((wr (m 9 8)).toNat) 48) 15 ((wr (m 9 8)).toNat) v)) _ (And.intro (And.intro (o3 a1) trivial) (hT.1 [] 6 (D + 2) 51 (43, [(0, zr 9), (1, zi 48), (2, zi v), (3, zi 0)], [zr 9, zr 9], (zu (zu (zu m 14 ((wr (m 9 8)).toNat) 48) 15 ((wr (m 9 8)).toNat) v) 16 ((wr (m 9 8)).toNat) 0)) _ (And.intro trivial (hT.1 [] 6 (D + 2) 51 (55, [(0, zr 9), (1, zi 48), (2, zi v), (3, zi 0)], [zi ((m 9 8) + 1)], (zu (zu (zu (zu m 14 ((wr (m 9 8)).toNat) 48) 15 ((wr (m 9 8)).toNat) v) 16 ((wr (m 9 8)).toNat) 0) 9 8 ((m 9 8) + 1))) _ (hT.1 [] 6 (D + 3) 56 _ _ (o4 a1)))))))))))) (fun a2 => (o5 a2).elim))))
theorem zb56_25 (hT : zRules T) {D : Nat} {κ : Option zA → zM → Prop} {m : zM} {v : Int} {lo : zL} (hlo : z_keep [] lo = [])  (hB : zB m) (h_v : 0 ≤ v ∧ v ≤ 999) (hf0 : 0 ≤ m 9 8 ∧ m 9 8 ≤ 39) 
    (k1 : zB (zu (zu (zu (zu m 14 ((m 9 8).toNat) 48) 15 ((m 9 8).toNat) v) 16 ((m 9 8).toNat) 0) 9 8 ((m 9 8) + 1)) → κ (some (zi (((m 9 8) + 1) - 1))) (zu (zu (zu (zu m 14 ((m 9 8).toNat) 48) 15 ((m 9 8).toNat) v) 16 ((m 9 8).toNat) 0) 9 8 ((m 9 8) + 1))) :
    T (D + 3) 56 (25, lo, [zi v, zi 48, zr 9], m) κ := by
  have he0 : wr (m 9 8) = (m 9 8) := wr_id (by omega) (by omega)
  have he1 : wr (((m 9 8) + 1) - 1) = (((m 9 8) + 1) - 1) := wr_id (by omega) (by omega)
  have key := @zb56_25r T hT D κ m v lo hlo
  simp only [he0, he1, Int.toNat_natCast] at key
  exact key
    (fun x0 => by refine ⟨?_, ?_⟩ <;> omega)
    (fun x0 => by refine ⟨?_, ?_⟩ <;> omega)
    (fun x0 => by refine ⟨?_, ?_⟩ <;> omega)
    (fun x0 => k1  (zB_u (zB_u (zB_u (zB_u hB (show (-1) ≤ 48 ∧ 48 ≤ 65535 from ⟨by omega, by omega⟩)) (show 0 ≤ v ∧ v ≤ 999 from ⟨by omega, by omega⟩)) (show 0 ≤ 0 ∧ 0 ≤ 39 from ⟨by omega, by omega⟩)) (show 0 ≤ ((m 9 8) + 1) ∧ ((m 9 8) + 1) ≤ 40 from ⟨by omega, by omega⟩)))
    (fun x0 => by omega)
theorem zb56_44r (hT : zRules T) {D : Nat} {κ : Option zA → zM → Prop} {m : zM} {v : Int} {lo : zL} (hlo : z_keep [] lo = []) 
    (o1 : κ (some (zi (wr v))) m) :
    T (D + 3) 56 (44, lo, [zi v], m) κ :=
  zkeep hT hlo (hT.1 [] 6 (D + 3) 56 _ κ (o1))
theorem zb56_44 (hT : zRules T) {D : Nat} {κ : Option zA → zM → Prop} {m : zM} {v : Int} {lo : zL} (hlo : z_keep [] lo = [])  (h_v : (-1) ≤ v ∧ v ≤ 39) 
    (k1 : κ (some (zi v)) m) :
    T (D + 3) 56 (44, lo, [zi v], m) κ := by
  have he0 : wr v = v := wr_id (by omega) (by omega)
  have key := @zb56_44r T hT D κ m v lo hlo
  simp only [he0, Int.toNat_natCast] at key
  exact key
    k1
theorem zb57_0r (hT : zRules T) {D : Nat} {κ : Option zA → zM → Prop} {m : zM} {d : Nat} 
    (o1 : ¬ 4 < wr (d : Int) → T (D + 2) 52 (0, [(0, zr 9), (1, zr 2), (2, zi (d : Int))], [], (zu m 2 3 ((m 2 3) + 1))) (fun r m1 => T (D + 3) 57 (23, [(0, zr 9), (1, zr 2), (2, zi (d : Int))], r.toList ++ [], m1) κ))
    (o2 : 4 < wr (d : Int) → κ (some (zi (-1))) m) :
    T (D + 3) 57 (0, [(0, zr 9), (1, zr 2), (2, zi (d : Int))], [], m) κ :=
  hT.1 [] 6 (D + 3) 57 _ κ (And.intro (fun a1 => (hT.1 [] 6 (D + 3) 57 (12, [(0, zr 9), (1, zr 2), (2, zi (d : Int))], [zi (m 2 3), zr 2], m) _ (And.intro trivial (hT.1 [] 6 (D + 3) 57 (20, [(0, zr 9), (1, zr 2), (2, zi (d : Int))], [zi (d : Int), zr 2, zr 9], (zu m 2 3 ((m 2 3) + 1))) _ (o1 a1))))) (fun a2 => (o2 (Classical.byContradiction a2))))
theorem zb57_0 (hT : zRules T) {D : Nat} {κ : Option zA → zM → Prop} {m : zM} {d : Nat}  (hB : zB m) (h_d : d ≤ 5) (hf0 : 0 ≤ m 2 3 ∧ m 2 3 ≤ 90) 
    (k1 : ¬ 4 < (d : Int) → zB (zu m 2 3 ((m 2 3) + 1)) → T (D + 2) 52 (0, [(0, zr 9), (1, zr 2), (2, zi (d : Int))], [], (zu m 2 3 ((m 2 3) + 1))) (fun r m1 => T (D + 3) 57 (23, [(0, zr 9), (1, zr 2), (2, zi (d : Int))], r.toList ++ [], m1) κ))
    (k2 : 4 < (d : Int) → κ (some (zi (-1))) m) :
    T (D + 3) 57 (0, [(0, zr 9), (1, zr 2), (2, zi (d : Int))], [], m) κ := by
  have he0 : wr (d : Int) = (d : Int) := wr_id (by omega) (by omega)
  have key := @zb57_0r T hT D κ m d
  simp only [he0, Int.toNat_natCast] at key
  exact key
    (fun x0 => k1 x0 (zB_u hB (show (-1) ≤ ((m 2 3) + 1) ∧ ((m 2 3) + 1) ≤ 100 from ⟨by omega, by omega⟩)))
    k2
theorem zb57_23r (hT : zRules T) {D : Nat} {κ : Option zA → zM → Prop} {m : zM} {v : Int} {lo : zL} (hlo : z_keep [1] lo = [(1, zr 2)]) 
    (o1 : wr v = (-1) → κ (some (zi (-1))) m)
    (o2 : ¬ wr v = (-1) → ∀ j, zbd 3 j (m 3 j))
    (o3 : ¬ wr v = (-1) → (0 ≤ (m 2 3) ∧ (m 2 3) ≤ 1000))
    (o4 : ¬ wr v = (-1) → (0 ≤ (m 2 2) ∧ (m 2 2) ≤ 80))
    (o5 : ¬ wr v = (-1) → wr (nxC m) = 41 → κ (some (zi (wr v))) (zu m 2 3 ((m 2 3) + 1)))
    (o6 : ¬ wr v = (-1) → ¬ wr (nxC m) = 41 → κ (some (zi (-1))) m) :
    T (D + 3) 57 (23, lo, [zi v], m) κ :=
  zkeep hT hlo (hT.1 [] 6 (D + 3) 57 _ κ (And.intro (fun a1 => (o1 a1)) (fun a2 => (hT.1 [] 6 (D + 3) 57 (32, [(1, zr 2), (3, zi v)], [zi 41, zr 2], m) _ (hT.1 [] 6 (D + 2) 70 _ _ (z_next hT (o2 a2) (o3 a2) (o4 a2) (hT.1 [] 6 (D + 2) 70 _ _ (And.intro (fun a3 => (hT.1 [] 6 (D + 2) 70 (16, [(0, zr 2), (1, zi 41)], [zi 1, zi (m 2 3), zr 2], m) _ (And.intro trivial (And.intro (z_b01L rfl) (hT.1 [] 6 (D + 3) 57 _ _ (And.intro (fun a5 => (z_litF a5 rfl).elim) (fun _ => (o5 a2 a3)))))))) (fun a4 => (And.intro (z_b01L rfl) (hT.1 [] 6 (D + 3) 57 _ _ (And.intro (fun _ => (o6 a2 a4)) (fun a6 => (a6 (z_litT rfl)).elim)))))))))))))
theorem zb57_23 (hT : zRules T) {D : Nat} {κ : Option zA → zM → Prop} {m : zM} {v : Int} {lo : zL} (hlo : z_keep [1] lo = [(1, zr 2)])  (hB : zB m) (h_v : (-1) ≤ v ∧ v ≤ 39) (hf0 : 0 ≤ m 2 3 ∧ m 2 3 ≤ 90) 
    (k1 : v = (-1) → κ (some (zi (-1))) m)
    (k2 : ¬ v = (-1) → (nxC m) = 41 → zB (zu m 2 3 ((m 2 3) + 1)) → κ (some (zi v)) (zu m 2 3 ((m 2 3) + 1)))
    (k3 : ¬ v = (-1) → ¬ (nxC m) = 41 → κ (some (zi (-1))) m) :
    T (D + 3) 57 (23, lo, [zi v], m) κ := by
  have hb2 : 0 ≤ (m 2 2) ∧ (m 2 2) ≤ 80 := hB 2 2
  have hb3 : (-1) ≤ (nxC m) ∧ (nxC m) ≤ 65535 := nxCBo m (fun j => hB 3 j)
  have he0 : wr v = v := wr_id (by omega) (by omega)
  have he1 : wr (nxC m) = (nxC m) := wr_id (by omega) (by omega)
  have key := @zb57_23r T hT D κ m v lo hlo
  simp only [he0, he1, Int.toNat_natCast] at key
  exact key
    k1
    (fun x0 => fun j => hB 3 j)
    (fun x0 => by refine ⟨?_, ?_⟩ <;> omega)
    (fun x0 => by refine ⟨?_, ?_⟩ <;> omega)
    (fun x0 x1 => k2 x0 x1 (zB_u hB (show (-1) ≤ ((m 2 3) + 1) ∧ ((m 2 3) + 1) ≤ 100 from ⟨by omega, by omega⟩)))
    k3
theorem zb52_57br (hT : zRules T) {D : Nat} {κ : Option zA → zM → Prop} {m : zM} {v : Int} {sg : Int} {lo : zL} (hlo : z_keep [0, 3, 4] lo = [(0, zr 9), (3, zi v), (4, zi sg)]) 
    (o1 : κ (some (zi (-1))) m) :
    T (D + 3) 52 (57, lo, [zi (-1)], m) κ :=
  zkeep hT hlo (hT.1 [] 6 (D + 3) 52 _ κ (And.intro (fun a1 => (z_litF a1 rfl).elim) (fun _ => (hT.1 [] 6 (D + 3) 52 (78, [(0, zr 9), (3, zi v), (4, zi sg), (5, zi (-1))], [zi (-1)], m) _ (o1)))))
theorem zb52_57b (hT : zRules T) {D : Nat} {κ : Option zA → zM → Prop} {m : zM} {v : Int} {sg : Int} {lo : zL} (hlo : z_keep [0, 3, 4] lo = [(0, zr 9), (3, zi v), (4, zi sg)])  (h_v : 0 ≤ v ∧ v ≤ 39) (h_sg : 0 ≤ sg ∧ sg ≤ 65535) 
    (k1 : κ (some (zi (-1))) m) :
    T (D + 3) 52 (57, lo, [zi (-1)], m) κ := by
  exact zb52_57br hT hlo
    k1
theorem zb53_60br (hT : zRules T) {D : Nat} {κ : Option zA → zM → Prop} {m : zM} {d : Nat} {v : Int} {k : Nat} {sg : Int} {lo : zL} (hlo : z_keep [0, 1, 2, 3, 4, 5] lo = [(0, zr 9), (1, zr 2), (2, zi (d : Int)), (3, zi v), (4, zi (k : Int)), (5, zi sg)]) 
    (o1 : T (D + 3) 53 (10, [(0, zr 9), (1, zr 2), (2, zi (d : Int)), (3, zi (-1)), (4, zi ((k : Int) + 1))], [], m) κ) :
    T (D + 3) 53 (60, lo, [zi (-1)], m) κ :=
  zkeep hT hlo (hT.1 [(10, [0, 1, 2, 3, 4])] 6 (D + 3) 53 _ κ (And.intro (fun a1 => (z_litF a1 rfl).elim) (fun _ => (hT.1 [(10, [0, 1, 2, 3, 4])] 6 (D + 3) 53 (81, [(0, zr 9), (1, zr 2), (2, zi (d : Int)), (3, zi v), (4, zi (k : Int)), (5, zi sg), (6, zi (-1))], [zi (-1)], m) _ (o1)))))
theorem zb53_60b (hT : zRules T) {D : Nat} {κ : Option zA → zM → Prop} {m : zM} {d : Nat} {v : Int} {k : Nat} {sg : Int} {lo : zL} (hlo : z_keep [0, 1, 2, 3, 4, 5] lo = [(0, zr 9), (1, zr 2), (2, zi (d : Int)), (3, zi v), (4, zi (k : Int)), (5, zi sg)])  (h_d : d ≤ 4) (h_v : 0 ≤ v ∧ v ≤ 39) (h_k : k ≤ 100) (h_sg : 0 ≤ sg ∧ sg ≤ 65535) 
    (k1 : T (D + 3) 53 (10, [(0, zr 9), (1, zr 2), (2, zi (d : Int)), (3, zi (-1)), (4, zi ((k : Int) + 1))], [], m) κ) :
    T (D + 3) 53 (60, lo, [zi (-1)], m) κ := by
  exact zb53_60br hT hlo
    k1
theorem zb54_60br (hT : zRules T) {D : Nat} {κ : Option zA → zM → Prop} {m : zM} {d : Nat} {v : Int} {k : Nat} {sg : Int} {lo : zL} (hlo : z_keep [0, 1, 2, 3, 4, 5] lo = [(0, zr 9), (1, zr 2), (2, zi (d : Int)), (3, zi v), (4, zi (k : Int)), (5, zi sg)]) 
    (o1 : T (D + 3) 54 (10, [(0, zr 9), (1, zr 2), (2, zi (d : Int)), (3, zi (-1)), (4, zi ((k : Int) + 1))], [], m) κ) :
    T (D + 3) 54 (60, lo, [zi (-1)], m) κ :=
  zkeep hT hlo (hT.1 [(10, [0, 1, 2, 3, 4])] 6 (D + 3) 54 _ κ (And.intro (fun a1 => (z_litF a1 rfl).elim) (fun _ => (hT.1 [(10, [0, 1, 2, 3, 4])] 6 (D + 3) 54 (81, [(0, zr 9), (1, zr 2), (2, zi (d : Int)), (3, zi v), (4, zi (k : Int)), (5, zi sg), (6, zi (-1))], [zi (-1)], m) _ (o1)))))
theorem zb54_60b (hT : zRules T) {D : Nat} {κ : Option zA → zM → Prop} {m : zM} {d : Nat} {v : Int} {k : Nat} {sg : Int} {lo : zL} (hlo : z_keep [0, 1, 2, 3, 4, 5] lo = [(0, zr 9), (1, zr 2), (2, zi (d : Int)), (3, zi v), (4, zi (k : Int)), (5, zi sg)])  (h_d : d ≤ 4) (h_v : 0 ≤ v ∧ v ≤ 39) (h_k : k ≤ 100) (h_sg : 0 ≤ sg ∧ sg ≤ 65535) 
    (k1 : T (D + 3) 54 (10, [(0, zr 9), (1, zr 2), (2, zi (d : Int)), (3, zi (-1)), (4, zi ((k : Int) + 1))], [], m) κ) :
    T (D + 3) 54 (60, lo, [zi (-1)], m) κ := by
  exact zb54_60br hT hlo
    k1
theorem zb55_43br (hT : zRules T) {D : Nat} {κ : Option zA → zM → Prop} {m : zM} {ng : Int} {lo : zL} (hlo : z_keep [0, 3] lo = [(0, zr 9), (3, zi ng)]) 
    (o1 : wr ng = 0 → κ (some (zi (-1))) m)
    (o2 : ¬ wr ng = 0 → κ (some (zi (-1))) m) :
    T (D + 3) 55 (43, lo, [zi (-1)], m) κ :=
  zkeep hT hlo (hT.1 [(5, [0, 1, 2, 3, 4])] 6 (D + 3) 55 _ κ (And.intro (fun a1 => (o1 a1)) (fun a2 => (And.intro (fun _ => (hT.1 [(5, [0, 1, 2, 3, 4])] 6 (D + 3) 55 (68, [(0, zr 9), (3, zi ng), (4, zi (-1))], [], m) _ (o2 a2))) (fun a3 => (a3 (z_litT rfl)).elim)))))
theorem zb55_43b (hT : zRules T) {D : Nat} {κ : Option zA → zM → Prop} {m : zM} {ng : Int} {lo : zL} (hlo : z_keep [0, 3] lo = [(0, zr 9), (3, zi ng)])  (h_ng : 0 ≤ ng ∧ ng ≤ 1) 
    (k1 : ng = 0 → κ (some (zi (-1))) m)
    (k2 : ¬ ng = 0 → κ (some (zi (-1))) m) :
    T (D + 3) 55 (43, lo, [zi (-1)], m) κ := by
  have he0 : wr ng = ng := wr_id (by omega) (by omega)
  have key := @zb55_43br T hT D κ m ng lo hlo
  simp only [he0, Int.toNat_natCast] at key
  exact key
    k1
    k2
theorem zb55_43cr (hT : zRules T) {D : Nat} {κ : Option zA → zM → Prop} {m : zM} {v : Int} {lo : zL} (hlo : z_keep [0, 3] lo = [(0, zr 9), (3, zi 0)]) 
    (o1 : κ (some (zi (wr v))) m) :
    T (D + 3) 55 (43, lo, [zi v], m) κ :=
  zkeep hT hlo (hT.1 [(5, [0, 1, 2, 3, 4])] 6 (D + 3) 55 _ κ (And.intro (fun _ => (o1)) (fun a1 => (a1 (z_litT rfl)).elim)))
theorem zb55_43c (hT : zRules T) {D : Nat} {κ : Option zA → zM → Prop} {m : zM} {v : Int} {lo : zL} (hlo : z_keep [0, 3] lo = [(0, zr 9), (3, zi 0)])  (h_v : (-1) ≤ v ∧ v ≤ 40) 
    (k1 : κ (some (zi v)) m) :
    T (D + 3) 55 (43, lo, [zi v], m) κ := by
  have he0 : wr v = v := wr_id (by omega) (by omega)
  have key := @zb55_43cr T hT D κ m v lo hlo
  simp only [he0, Int.toNat_natCast] at key
  exact key
    k1
end ZBlocks
end
