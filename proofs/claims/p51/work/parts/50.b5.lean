section ZBlocks
variable {T : Nat → Nat → zG → (Option zA → zM → Prop) → Prop}
theorem zb208_0_80r (hT : zRules T) {D : Nat} {κ : Option zA → zM → Prop} {m : zM} {d : Nat} 
    (o1 : T (D + 3) 209 (0, [(0, zr 74), (1, zi (d : Int))], [], m) (fun r m1 => T (D + 4) 208 (5, [(0, zr 74), (1, zi (d : Int))], r.toList ++ [], m1) κ)) :
    T (D + 4) 208 (0, [(0, zr 74), (1, zi (d : Int))], [], m) κ :=
  hT.1 [] 6 (D + 4) 208 _ κ (o1)
theorem zb208_0_80 (hT : zRules T) {D : Nat} {κ : Option zA → zM → Prop} {m : zM} {d : Nat}  (hB : zB m) (hrd : m 74 13 = 80) (h_d : d ≤ 4) (hf0 : (-1) ≤ m 74 17 ∧ m 74 17 ≤ (-1)) (hf1 : 0 ≤ m 74 16 ∧ m 74 16 ≤ 90) (hf2 : 0 ≤ m 74 15 ∧ m 74 15 ≤ 80) 
    (k1 : T (D + 3) 209 (0, [(0, zr 74), (1, zi (d : Int))], [], m) (fun r m1 => T (D + 4) 208 (5, [(0, zr 74), (1, zi (d : Int))], r.toList ++ [], m1) κ)) :
    T (D + 4) 208 (0, [(0, zr 74), (1, zi (d : Int))], [], m) κ := by
  exact zb208_0_80r hT
    k1
theorem zb208_5_80r (hT : zRules T) {D : Nat} {κ : Option zA → zM → Prop} {m : zM} {d : Nat} {v : Int} {lo : zL} (hlo : z_keep [0, 1] lo = [(0, zr 74), (1, zi (d : Int))]) 
    (o1 : ¬ wr (m 74 17) = (-1) → False)
    (o2 : wr (m 74 17) = (-1) → (m 74 13) = 80)
    (o3 : wr (m 74 17) = (-1) → (0 ≤ (m 74 16) ∧ (m 74 16) ≤ 1000))
    (o4 : wr (m 74 17) = (-1) → (0 ≤ (m 74 14) ∧ (m 74 14) ≤ 80))
    (o5 : wr (m 74 17) = (-1) → (0 ≤ (m 74 15) ∧ (m 74 15) ≤ 80))
    (o6 : wr (m 74 17) = (-1) → wr (hrR m 80) = 60 → T (D + 3) 209 (0, [(0, zr 74), (1, zi (d : Int))], [], (zu m 74 16 ((m 74 16) + 1))) (fun r m1 => T (D + 4) 208 (21, [(0, zr 74), (1, zi (d : Int)), (2, zi v)], r.toList ++ [zi v], m1) κ))
    (o7 : wr (m 74 17) = (-1) → ¬ wr (hrR m 80) = 60 → ¬ wr (m 74 17) = (-1) → False)
    (o8 : wr (m 74 17) = (-1) → ¬ wr (hrR m 80) = 60 → wr (m 74 17) = (-1) → (m 74 13) = 80)
    (o9 : wr (m 74 17) = (-1) → ¬ wr (hrR m 80) = 60 → wr (m 74 17) = (-1) → (0 ≤ (m 74 16) ∧ (m 74 16) ≤ 1000))
    (o10 : wr (m 74 17) = (-1) → ¬ wr (hrR m 80) = 60 → wr (m 74 17) = (-1) → (0 ≤ (m 74 14) ∧ (m 74 14) ≤ 80))
    (o11 : wr (m 74 17) = (-1) → ¬ wr (hrR m 80) = 60 → wr (m 74 17) = (-1) → (0 ≤ (m 74 15) ∧ (m 74 15) ≤ 80))
    (o12 : wr (m 74 17) = (-1) → ¬ wr (hrR m 80) = 60 → wr (m 74 17) = (-1) → wr (hrR m 80) = 62 → T (D + 3) 209 (0, [(0, zr 74), (1, zi (d : Int))], [], (zu m 74 16 ((m 74 16) + 1))) (fun r m1 => T (D + 4) 208 (45, [(0, zr 74), (1, zi (d : Int)), (2, zi v)], r.toList ++ [zi v], m1) κ))
    (o13 : wr (m 74 17) = (-1) → ¬ wr (hrR m 80) = 60 → wr (m 74 17) = (-1) → ¬ wr (hrR m 80) = 62 → ¬ wr (m 74 17) = (-1) → False)
    (o14 : wr (m 74 17) = (-1) → ¬ wr (hrR m 80) = 60 → wr (m 74 17) = (-1) → ¬ wr (hrR m 80) = 62 → wr (m 74 17) = (-1) → (m 74 13) = 80)
    (o15 : wr (m 74 17) = (-1) → ¬ wr (hrR m 80) = 60 → wr (m 74 17) = (-1) → ¬ wr (hrR m 80) = 62 → wr (m 74 17) = (-1) → (0 ≤ (m 74 16) ∧ (m 74 16) ≤ 1000))
    (o16 : wr (m 74 17) = (-1) → ¬ wr (hrR m 80) = 60 → wr (m 74 17) = (-1) → ¬ wr (hrR m 80) = 62 → wr (m 74 17) = (-1) → (0 ≤ (m 74 14) ∧ (m 74 14) ≤ 80))
    (o17 : wr (m 74 17) = (-1) → ¬ wr (hrR m 80) = 60 → wr (m 74 17) = (-1) → ¬ wr (hrR m 80) = 62 → wr (m 74 17) = (-1) → (0 ≤ (m 74 15) ∧ (m 74 15) ≤ 80))
    (o18 : wr (m 74 17) = (-1) → ¬ wr (hrR m 80) = 60 → wr (m 74 17) = (-1) → ¬ wr (hrR m 80) = 62 → wr (m 74 17) = (-1) → wr (hrR m 80) = 61 → T (D + 3) 209 (0, [(0, zr 74), (1, zi (d : Int))], [], (zu m 74 16 ((m 74 16) + 1))) (fun r m1 => T (D + 4) 208 (69, [(0, zr 74), (1, zi (d : Int)), (2, zi v)], r.toList ++ [zi v], m1) κ))
    (o19 : wr (m 74 17) = (-1) → ¬ wr (hrR m 80) = 60 → wr (m 74 17) = (-1) → ¬ wr (hrR m 80) = 62 → wr (m 74 17) = (-1) → ¬ wr (hrR m 80) = 61 → κ (some (zi (wr v))) m) :
    T (D + 4) 208 (5, lo, [zi v], m) κ :=
  zkeep hT hlo (hT.1 [] 6 (D + 4) 208 _ κ (hT.1 [] 6 (D + 3) 201 _ _ (hT.1 [] 6 (D + 2) 199 _ _ (And.intro (fun a1 => (o1 a1).elim) (fun a2 => (hT.1 [] 6 (D + 2) 199 (13, [(0, zr 74)], [zi 1], m) _ (And.intro (z_b01L rfl) (hT.1 [] 6 (D + 3) 201 _ _ (And.intro (fun a3 => (z_litF a3 rfl).elim) (fun _ => (z_here80 hT (o2 (Classical.byContradiction a2)) (o3 (Classical.byContradiction a2)) (o4 (Classical.byContradiction a2)) (o5 (Classical.byContradiction a2)) (hT.1 [] 6 (D + 3) 201 _ _ (And.intro (fun a4 => (hT.1 [] 6 (D + 3) 201 (23, [(0, zr 74), (1, zi 60)], [zi 1, zi (m 74 16), zr 74], m) _ (And.intro trivial (And.intro (z_b01L rfl) (hT.1 [] 6 (D + 4) 208 _ _ (And.intro (fun a6 => (z_litF a6 rfl).elim) (fun _ => (o6 (Classical.byContradiction a2) a4)))))))) (fun a5 => (And.intro (z_b01L rfl) (hT.1 [] 6 (D + 4) 208 _ _ (And.intro (fun _ => (hT.1 [] 6 (D + 3) 201 _ _ (hT.1 [] 6 (D + 2) 199 _ _ (And.intro (fun a8 => (o7 (Classical.byContradiction a2) a5 a8).elim) (fun a9 => (hT.1 [] 6 (D + 2) 199 (13, [(0, zr 74)], [zi 1], m) _ (And.intro (z_b01L rfl) (hT.1 [] 6 (D + 3) 201 _ _ (And.intro (fun a10 => (z_litF a10 rfl).elim) (fun _ => (z_here80 hT (o8 (Classical.byContradiction a2) a5 (Classical.byContradiction a9)) (o9 (Classical.byContradiction a2) a5 (Classical.byContradiction a9)) (o10 (Classical.byContradiction a2) a5 (Classical.byContradiction a9)) (o11 (Classical.byContradiction a2) a5 (Classical.byContradiction a9)) (hT.1 [] 6 (D + 3) 201 _ _ (And.intro (fun a11 => (hT.1 [] 6 (D + 3) 201 (23, [(0, zr 74), (1, zi 62)], [zi 1, zi (m 74 16), zr 74], m) _ (And.intro trivial (And.intro (z_b01L rfl) (hT.1 [] 6 (D + 4) 208 _ _ (And.intro (fun a13 => (z_litF a13 rfl).elim) (fun _ => (o12 (Classical.byContradiction a2) a5 (Classical.byContradiction a9) a11)))))))) (fun a12 => (And.intro (z_b01L rfl) (hT.1 [] 6 (D + 4) 208 _ _ (And.intro (fun _ => (hT.1 [] 6 (D + 3) 201 _ _ (hT.1 [] 6 (D + 2) 199 _ _ (And.intro (fun a15 => (o13 (Classical.byContradiction a2) a5 (Classical.byContradiction a9) a12 a15).elim) (fun a16 => (hT.1 [] 6 (D + 2) 199 (13, [(0, zr 74)], [zi 1], m) _ (And.intro (z_b01L rfl) (hT.1 [] 6 (D + 3) 201 _ _ (And.intro (fun a17 => (z_litF a17 rfl).elim) (fun _ => (z_here80 hT (o14 (Classical.byContradiction a2) a5 (Classical.byContradiction a9) a12 (Classical.byContradiction a16)) (o15 (Classical.byContradiction a2) a5 (Classical.byContradiction a9) a12 (Classical.byContradiction a16)) (o16 (Classical.byContradiction a2) a5 (Classical.byContradiction a9) a12 (Classical.byContradiction a16)) (o17 (Classical.byContradiction a2) a5 (Classical.byContradiction a9) a12 (Classical.byContradiction a16)) (hT.1 [] 6 (D + 3) 201 _ _ (And.intro (fun a18 => (hT.1 [] 6 (D + 3) 201 (23, [(0, zr 74), (1, zi 61)], [zi 1, zi (m 74 16), zr 74], m) _ (And.intro trivial (And.intro (z_b01L rfl) (hT.1 [] 6 (D + 4) 208 _ _ (And.intro (fun a20 => (z_litF a20 rfl).elim) (fun _ => (o18 (Classical.byContradiction a2) a5 (Classical.byContradiction a9) a12 (Classical.byContradiction a16) a18)))))))) (fun a19 => (And.intro (z_b01L rfl) (hT.1 [] 6 (D + 4) 208 _ _ (And.intro (fun _ => (o19 (Classical.byContradiction a2) a5 (Classical.byContradiction a9) a12 (Classical.byContradiction a16) a19)) (fun a21 => (a21 (z_litT rfl)).elim)))))))))))))))))) (fun a14 => (a14 (z_litT rfl)).elim)))))))))))))))))) (fun a7 => (a7 (z_litT rfl)).elim))))))))))))))))))
theorem zb208_5_80 (hT : zRules T) {D : Nat} {κ : Option zA → zM → Prop} {m : zM} {d : Nat} {v : Int} {lo : zL} (hlo : z_keep [0, 1] lo = [(0, zr 74), (1, zi (d : Int))])  (hB : zB m) (hrd : m 74 13 = 80) (h_d : d ≤ 4) (h_v : (-2147483648) ≤ v ∧ v ≤ 2147483647) (hf0 : (-1) ≤ m 74 17 ∧ m 74 17 ≤ (-1)) (hf1 : 0 ≤ m 74 16 ∧ m 74 16 ≤ 90) (hf2 : 0 ≤ m 74 15 ∧ m 74 15 ≤ 80) 
    (k1 : (hrR m 80) = 60 → zB (zu m 74 16 ((m 74 16) + 1)) → T (D + 3) 209 (0, [(0, zr 74), (1, zi (d : Int))], [], (zu m 74 16 ((m 74 16) + 1))) (fun r m1 => T (D + 4) 208 (21, [(0, zr 74), (1, zi (d : Int)), (2, zi v)], r.toList ++ [zi v], m1) κ))
    (k2 : ¬ (hrR m 80) = 60 → (hrR m 80) = 62 → zB (zu m 74 16 ((m 74 16) + 1)) → T (D + 3) 209 (0, [(0, zr 74), (1, zi (d : Int))], [], (zu m 74 16 ((m 74 16) + 1))) (fun r m1 => T (D + 4) 208 (45, [(0, zr 74), (1, zi (d : Int)), (2, zi v)], r.toList ++ [zi v], m1) κ))
    (k3 : ¬ (hrR m 80) = 60 → ¬ (hrR m 80) = 62 → (hrR m 80) = 61 → zB (zu m 74 16 ((m 74 16) + 1)) → T (D + 3) 209 (0, [(0, zr 74), (1, zi (d : Int))], [], (zu m 74 16 ((m 74 16) + 1))) (fun r m1 => T (D + 4) 208 (69, [(0, zr 74), (1, zi (d : Int)), (2, zi v)], r.toList ++ [zi v], m1) κ))
    (k4 : ¬ (hrR m 80) = 60 → ¬ (hrR m 80) = 62 → ¬ (hrR m 80) = 61 → κ (some (zi v)) m) :
    T (D + 4) 208 (5, lo, [zi v], m) κ := by
  have hb5 : 0 ≤ (m 74 14) ∧ (m 74 14) ≤ 80 := hB 74 14
  have hb6 : (-1) ≤ (hrR m 80) ∧ (hrR m 80) ≤ 255 := hrRB m 80
  have he0 : wr (m 74 17) = (m 74 17) := wr_id (by omega) (by omega)
  have he1 : wr (hrR m 80) = (hrR m 80) := wr_id (by omega) (by omega)
  have he2 : wr v = v := wr_id (by omega) (by omega)
  have key := @zb208_5_80r T hT D κ m d v lo hlo
  simp only [he0, he1, he2, Int.toNat_natCast] at key
  exact key
    (fun x0 => by omega)
    (fun x0 => hrd)
    (fun x0 => by refine ⟨?_, ?_⟩ <;> omega)
    (fun x0 => by refine ⟨?_, ?_⟩ <;> omega)
    (fun x0 => by refine ⟨?_, ?_⟩ <;> omega)
    (fun x0 x1 => k1 x1 (zB_u hB (show 0 ≤ ((m 74 16) + 1) ∧ ((m 74 16) + 1) ≤ 100 from ⟨by omega, by omega⟩)))
    (fun x0 x1 x2 => by omega)
    (fun x0 x1 x2 => hrd)
    (fun x0 x1 x2 => by refine ⟨?_, ?_⟩ <;> omega)
    (fun x0 x1 x2 => by refine ⟨?_, ?_⟩ <;> omega)
    (fun x0 x1 x2 => by refine ⟨?_, ?_⟩ <;> omega)
    (fun x0 x1 x2 x3 => k2 x1 x3 (zB_u hB (show 0 ≤ ((m 74 16) + 1) ∧ ((m 74 16) + 1) ≤ 100 from ⟨by omega, by omega⟩)))
    (fun x0 x1 x2 x3 x4 => by omega)
    (fun x0 x1 x2 x3 x4 => hrd)
    (fun x0 x1 x2 x3 x4 => by refine ⟨?_, ?_⟩ <;> omega)
    (fun x0 x1 x2 x3 x4 => by refine ⟨?_, ?_⟩ <;> omega)
    (fun x0 x1 x2 x3 x4 => by refine ⟨?_, ?_⟩ <;> omega)
    (fun x0 x1 x2 x3 x4 x5 => k3 x1 x3 x5 (zB_u hB (show 0 ≤ ((m 74 16) + 1) ∧ ((m 74 16) + 1) ≤ 100 from ⟨by omega, by omega⟩)))
    (fun x0 x1 x2 x3 x4 x5 => k4 x1 x3 x5)
theorem zb208_5_80fr (hT : zRules T) {D : Nat} {κ : Option zA → zM → Prop} {m : zM} {d : Nat} {v : Int} {lo : zL} (hlo : z_keep [0, 1] lo = [(0, zr 74), (1, zi (d : Int))]) 
    (o1 : ¬ wr (m 74 17) = (-1) → ¬ wr (m 74 17) = (-1) → ¬ wr (m 74 17) = (-1) → κ (some (zi (wr v))) m)
    (o2 : ¬ wr (m 74 17) = (-1) → ¬ wr (m 74 17) = (-1) → wr (m 74 17) = (-1) → False)
    (o3 : ¬ wr (m 74 17) = (-1) → wr (m 74 17) = (-1) → False)
    (o4 : wr (m 74 17) = (-1) → False) :
    T (D + 4) 208 (5, lo, [zi v], m) κ :=
  zkeep hT hlo (hT.1 [] 6 (D + 4) 208 _ κ (hT.1 [] 6 (D + 3) 201 _ _ (hT.1 [] 6 (D + 2) 199 _ _ (And.intro (fun a1 => (And.intro (z_b01L rfl) (hT.1 [] 6 (D + 3) 201 _ _ (And.intro (fun _ => (And.intro (z_b01L rfl) (hT.1 [] 6 (D + 4) 208 _ _ (And.intro (fun _ => (hT.1 [] 6 (D + 3) 201 _ _ (hT.1 [] 6 (D + 2) 199 _ _ (And.intro (fun a5 => (And.intro (z_b01L rfl) (hT.1 [] 6 (D + 3) 201 _ _ (And.intro (fun _ => (And.intro (z_b01L rfl) (hT.1 [] 6 (D + 4) 208 _ _ (And.intro (fun _ => (hT.1 [] 6 (D + 3) 201 _ _ (hT.1 [] 6 (D + 2) 199 _ _ (And.intro (fun a9 => (And.intro (z_b01L rfl) (hT.1 [] 6 (D + 3) 201 _ _ (And.intro (fun _ => (And.intro (z_b01L rfl) (hT.1 [] 6 (D + 4) 208 _ _ (And.intro (fun _ => (o1 a1 a5 a9)) (fun a12 => (a12 (z_litT rfl)).elim))))) (fun a11 => (a11 (z_litT rfl)).elim))))) (fun a10 => (o2 a1 a5 (Classical.byContradiction a10)).elim))))) (fun a8 => (a8 (z_litT rfl)).elim))))) (fun a7 => (a7 (z_litT rfl)).elim))))) (fun a6 => (o3 a1 (Classical.byContradiction a6)).elim))))) (fun a4 => (a4 (z_litT rfl)).elim))))) (fun a3 => (a3 (z_litT rfl)).elim))))) (fun a2 => (o4 (Classical.byContradiction a2)).elim)))))
theorem zb208_5_80f (hT : zRules T) {D : Nat} {κ : Option zA → zM → Prop} {m : zM} {d : Nat} {v : Int} {lo : zL} (hlo : z_keep [0, 1] lo = [(0, zr 74), (1, zi (d : Int))])  (hB : zB m) (hrd : m 74 13 = 80) (h_d : d ≤ 4) (h_v : (-2147483648) ≤ v ∧ v ≤ 2147483647) (hf0 : 0 ≤ m 74 17 ∧ m 74 17 ≤ 100) 
    (k1 : κ (some (zi v)) m) :
    T (D + 4) 208 (5, lo, [zi v], m) κ := by
  have he0 : wr (m 74 17) = (m 74 17) := wr_id (by omega) (by omega)
  have he1 : wr v = v := wr_id (by omega) (by omega)
  have key := @zb208_5_80fr T hT D κ m d v lo hlo
  simp only [he0, he1, Int.toNat_natCast] at key
  exact key
    (fun x0 x1 x2 => k1 )
    (fun x0 x1 x2 => by omega)
    (fun x0 x1 => by omega)
    (fun x0 => by omega)
theorem zb208_21_80r (hT : zRules T) {D : Nat} {κ : Option zA → zM → Prop} {m : zM} {v : Int} {w : Int} {lo : zL} (hlo : z_keep [] lo = []) 
    (o1 : ¬ wr v < wr w → κ (some (zi 0)) m)
    (o2 : wr v < wr w → κ (some (zi 1)) m) :
    T (D + 4) 208 (21, lo, [zi w, zi v], m) κ :=
  zkeep hT hlo (hT.1 [] 6 (D + 4) 208 _ κ (And.intro (fun a1 => (o1 a1)) (fun a2 => (o2 (Classical.byContradiction a2)))))
theorem zb208_21_80 (hT : zRules T) {D : Nat} {κ : Option zA → zM → Prop} {m : zM} {v : Int} {w : Int} {lo : zL} (hlo : z_keep [] lo = [])  (h_v : (-2147483648) ≤ v ∧ v ≤ 2147483647) (h_w : (-2147483648) ≤ w ∧ w ≤ 2147483647) 
    (k1 : ¬ v < w → κ (some (zi 0)) m)
    (k2 : v < w → κ (some (zi 1)) m) :
    T (D + 4) 208 (21, lo, [zi w, zi v], m) κ := by
  have he0 : wr v = v := wr_id (by omega) (by omega)
  have he1 : wr w = w := wr_id (by omega) (by omega)
  have key := @zb208_21_80r T hT D κ m v w lo hlo
  simp only [he0, he1, Int.toNat_natCast] at key
  exact key
    k1
    k2
theorem zb208_45_80r (hT : zRules T) {D : Nat} {κ : Option zA → zM → Prop} {m : zM} {v : Int} {w : Int} {lo : zL} (hlo : z_keep [] lo = []) 
    (o1 : ¬ wr w < wr v → κ (some (zi 0)) m)
    (o2 : wr w < wr v → κ (some (zi 1)) m) :
    T (D + 4) 208 (45, lo, [zi w, zi v], m) κ :=
  zkeep hT hlo (hT.1 [] 6 (D + 4) 208 _ κ (And.intro (fun a1 => (o1 a1)) (fun a2 => (o2 (Classical.byContradiction a2)))))
theorem zb208_45_80 (hT : zRules T) {D : Nat} {κ : Option zA → zM → Prop} {m : zM} {v : Int} {w : Int} {lo : zL} (hlo : z_keep [] lo = [])  (h_v : (-2147483648) ≤ v ∧ v ≤ 2147483647) (h_w : (-2147483648) ≤ w ∧ w ≤ 2147483647) 
    (k1 : ¬ w < v → κ (some (zi 0)) m)
    (k2 : w < v → κ (some (zi 1)) m) :
    T (D + 4) 208 (45, lo, [zi w, zi v], m) κ := by
  have he0 : wr w = w := wr_id (by omega) (by omega)
  have he1 : wr v = v := wr_id (by omega) (by omega)
  have key := @zb208_45_80r T hT D κ m v w lo hlo
  simp only [he0, he1, Int.toNat_natCast] at key
  exact key
    k1
    k2
theorem zb208_69_80r (hT : zRules T) {D : Nat} {κ : Option zA → zM → Prop} {m : zM} {v : Int} {w : Int} {lo : zL} (hlo : z_keep [] lo = []) 
    (o1 : ¬ wr v = wr w → κ (some (zi 0)) m)
    (o2 : wr v = wr w → κ (some (zi 1)) m) :
    T (D + 4) 208 (69, lo, [zi w, zi v], m) κ :=
  zkeep hT hlo (hT.1 [] 6 (D + 4) 208 _ κ (And.intro (fun a1 => (o1 a1)) (fun a2 => (o2 (Classical.byContradiction a2)))))
theorem zb208_69_80 (hT : zRules T) {D : Nat} {κ : Option zA → zM → Prop} {m : zM} {v : Int} {w : Int} {lo : zL} (hlo : z_keep [] lo = [])  (h_v : (-2147483648) ≤ v ∧ v ≤ 2147483647) (h_w : (-2147483648) ≤ w ∧ w ≤ 2147483647) 
    (k1 : ¬ v = w → κ (some (zi 0)) m)
    (k2 : v = w → κ (some (zi 1)) m) :
    T (D + 4) 208 (69, lo, [zi w, zi v], m) κ := by
  have he0 : wr v = v := wr_id (by omega) (by omega)
  have he1 : wr w = w := wr_id (by omega) (by omega)
  have key := @zb208_69_80r T hT D κ m v w lo hlo
  simp only [he0, he1, Int.toNat_natCast] at key
  exact key
    k1
    k2
theorem zb209_0_80r (hT : zRules T) {D : Nat} {κ : Option zA → zM → Prop} {m : zM} {d : Nat} 
    (o1 : T (D + 3) 210 (0, [(0, zr 74), (1, zi (d : Int))], [], m) (fun r m1 => T (D + 4) 209 (5, [(0, zr 74), (1, zi (d : Int))], r.toList ++ [], m1) κ)) :
    T (D + 4) 209 (0, [(0, zr 74), (1, zi (d : Int))], [], m) κ :=
  hT.1 [(6, [0, 1, 2])] 6 (D + 4) 209 _ κ (o1)
theorem zb209_0_80 (hT : zRules T) {D : Nat} {κ : Option zA → zM → Prop} {m : zM} {d : Nat}  (hB : zB m) (hrd : m 74 13 = 80) (h_d : d ≤ 4) (hf0 : (-1) ≤ m 74 17 ∧ m 74 17 ≤ (-1)) (hf1 : 0 ≤ m 74 16 ∧ m 74 16 ≤ 90) (hf2 : 0 ≤ m 74 15 ∧ m 74 15 ≤ 80) 
    (k1 : T (D + 3) 210 (0, [(0, zr 74), (1, zi (d : Int))], [], m) (fun r m1 => T (D + 4) 209 (5, [(0, zr 74), (1, zi (d : Int))], r.toList ++ [], m1) κ)) :
    T (D + 4) 209 (0, [(0, zr 74), (1, zi (d : Int))], [], m) κ := by
  exact zb209_0_80r hT
    k1
theorem zb209_5_80r (hT : zRules T) {D : Nat} {κ : Option zA → zM → Prop} {m : zM} {d : Nat} {v : Int} {lo : zL} (hlo : z_keep [0, 1] lo = [(0, zr 74), (1, zi (d : Int))]) 
    (o1 : T (D + 4) 209 (6, [(0, zr 74), (1, zi (d : Int)), (2, zi v)], [], m) κ) :
    T (D + 4) 209 (5, lo, [zi v], m) κ :=
  zkeep hT hlo (hT.1 [(6, [0, 1, 2])] 6 (D + 4) 209 _ κ (o1))
theorem zb209_5_80 (hT : zRules T) {D : Nat} {κ : Option zA → zM → Prop} {m : zM} {d : Nat} {v : Int} {lo : zL} (hlo : z_keep [0, 1] lo = [(0, zr 74), (1, zi (d : Int))])  (h_d : d ≤ 4) 
    (k1 : T (D + 4) 209 (6, [(0, zr 74), (1, zi (d : Int)), (2, zi v)], [], m) κ) :
    T (D + 4) 209 (5, lo, [zi v], m) κ := by
  exact zb209_5_80r hT hlo
    k1
theorem zb209_61_80r (hT : zRules T) {D : Nat} {κ : Option zA → zM → Prop} {m : zM} {d : Nat} {v : Int} {w : Int} {pl : Int} {lo : zL} (hlo : z_keep [0, 1, 2, 3] lo = [(0, zr 74), (1, zi (d : Int)), (2, zi v), (3, zi pl)]) 
    (o1 : wr pl = 0 → T (D + 4) 209 (6, [(0, zr 74), (1, zi (d : Int)), (2, zi (v - w))], [], m) κ)
    (o2 : ¬ wr pl = 0 → T (D + 4) 209 (6, [(0, zr 74), (1, zi (d : Int)), (2, zi (v + w))], [], m) κ) :
    T (D + 4) 209 (61, lo, [zi w], m) κ :=
  zkeep hT hlo (hT.1 [(6, [0, 1, 2])] 6 (D + 4) 209 _ κ (And.intro (fun a1 => (hT.1 [(6, [0, 1, 2])] 6 (D + 4) 209 (78, [(0, zr 74), (1, zi (d : Int)), (2, zi v), (3, zi pl), (4, zi w)], [zi (v - w)], m) _ (o1 a1))) (fun a2 => (hT.1 [(6, [0, 1, 2])] 6 (D + 4) 209 (71, [(0, zr 74), (1, zi (d : Int)), (2, zi v), (3, zi pl), (4, zi w)], [zi (v + w)], m) _ (o2 a2)))))
theorem zb209_61_80 (hT : zRules T) {D : Nat} {κ : Option zA → zM → Prop} {m : zM} {d : Nat} {v : Int} {w : Int} {pl : Int} {lo : zL} (hlo : z_keep [0, 1, 2, 3] lo = [(0, zr 74), (1, zi (d : Int)), (2, zi v), (3, zi pl)])  (h_d : d ≤ 4) (h_pl : 0 ≤ pl ∧ pl ≤ 1) 
    (k1 : pl = 0 → T (D + 4) 209 (6, [(0, zr 74), (1, zi (d : Int)), (2, zi (v - w))], [], m) κ)
    (k2 : ¬ pl = 0 → T (D + 4) 209 (6, [(0, zr 74), (1, zi (d : Int)), (2, zi (v + w))], [], m) κ) :
    T (D + 4) 209 (61, lo, [zi w], m) κ := by
  have he0 : wr pl = pl := wr_id (by omega) (by omega)
  have key := @zb209_61_80r T hT D κ m d v w pl lo hlo
  simp only [he0, Int.toNat_natCast] at key
  exact key
    k1
    k2
theorem zb209_6_80r (hT : zRules T) {D : Nat} {κ : Option zA → zM → Prop} {m : zM} {d : Nat} {v : Int} {lo : zL} (hlo : z_keep [0, 1, 2] lo = [(0, zr 74), (1, zi (d : Int)), (2, zi v)]) 
    (o1 : ¬ wr (m 74 17) = (-1) → False)
    (o2 : wr (m 74 17) = (-1) → (m 74 13) = 80)
    (o3 : wr (m 74 17) = (-1) → (0 ≤ (m 74 16) ∧ (m 74 16) ≤ 1000))
    (o4 : wr (m 74 17) = (-1) → (0 ≤ (m 74 14) ∧ (m 74 14) ≤ 80))
    (o5 : wr (m 74 17) = (-1) → (0 ≤ (m 74 15) ∧ (m 74 15) ≤ 80))
    (o6 : wr (m 74 17) = (-1) → wr (hrR m 80) = 43 → (m 74 13) = 80)
    (o7 : wr (m 74 17) = (-1) → wr (hrR m 80) = 43 → (0 ≤ (m 74 16) ∧ (m 74 16) ≤ 1000))
    (o8 : wr (m 74 17) = (-1) → wr (hrR m 80) = 43 → (0 ≤ (m 74 14) ∧ (m 74 14) ≤ 80))
    (o9 : wr (m 74 17) = (-1) → wr (hrR m 80) = 43 → (0 ≤ (m 74 15) ∧ (m 74 15) ≤ 80))
    (o10 : wr (m 74 17) = (-1) → wr (hrR m 80) = 43 → ¬ wr (hrR m 80) = 43 → False)
    (o11 : wr (m 74 17) = (-1) → wr (hrR m 80) = 43 → wr (hrR m 80) = 43 → T (D + 3) 210 (0, [(0, zr 74), (1, zi (d : Int))], [], (zu m 74 16 ((m 74 16) + 1))) (fun r m1 => T (D + 4) 209 (61, [(0, zr 74), (1, zi (d : Int)), (2, zi v), (3, zi 1)], r.toList ++ [], m1) κ))
    (o12 : wr (m 74 17) = (-1) → ¬ wr (hrR m 80) = 43 → (m 74 13) = 80)
    (o13 : wr (m 74 17) = (-1) → ¬ wr (hrR m 80) = 43 → (0 ≤ (m 74 16) ∧ (m 74 16) ≤ 1000))
    (o14 : wr (m 74 17) = (-1) → ¬ wr (hrR m 80) = 43 → (0 ≤ (m 74 14) ∧ (m 74 14) ≤ 80))
    (o15 : wr (m 74 17) = (-1) → ¬ wr (hrR m 80) = 43 → (0 ≤ (m 74 15) ∧ (m 74 15) ≤ 80))
    (o16 : wr (m 74 17) = (-1) → ¬ wr (hrR m 80) = 43 → ¬ wr (hrR m 80) = 45 → κ (some (zi (wr v))) m)
    (o17 : wr (m 74 17) = (-1) → ¬ wr (hrR m 80) = 43 → wr (hrR m 80) = 45 → (m 74 13) = 80)
    (o18 : wr (m 74 17) = (-1) → ¬ wr (hrR m 80) = 43 → wr (hrR m 80) = 45 → (0 ≤ (m 74 16) ∧ (m 74 16) ≤ 1000))
    (o19 : wr (m 74 17) = (-1) → ¬ wr (hrR m 80) = 43 → wr (hrR m 80) = 45 → (0 ≤ (m 74 14) ∧ (m 74 14) ≤ 80))
    (o20 : wr (m 74 17) = (-1) → ¬ wr (hrR m 80) = 43 → wr (hrR m 80) = 45 → (0 ≤ (m 74 15) ∧ (m 74 15) ≤ 80))
    (o21 : wr (m 74 17) = (-1) → ¬ wr (hrR m 80) = 43 → wr (hrR m 80) = 45 → ¬ wr (hrR m 80) = 43 → T (D + 3) 210 (0, [(0, zr 74), (1, zi (d : Int))], [], (zu m 74 16 ((m 74 16) + 1))) (fun r m1 => T (D + 4) 209 (61, [(0, zr 74), (1, zi (d : Int)), (2, zi v), (3, zi 0)], r.toList ++ [], m1) κ))
    (o22 : wr (m 74 17) = (-1) → ¬ wr (hrR m 80) = 43 → wr (hrR m 80) = 45 → wr (hrR m 80) = 43 → False) :
    T (D + 4) 209 (6, lo, [], m) κ :=
  zkeep hT hlo (hT.1 [(6, [0, 1, 2])] 6 (D + 4) 209 _ κ (hT.1 [] 6 (D + 3) 199 _ _ (And.intro (fun a1 => (o1 a1).elim) (fun a2 => (hT.1 [] 6 (D + 3) 199 (13, [(0, zr 74)], [zi 1], m) _ (And.intro (z_b01L rfl) (hT.1 [(6, [0, 1, 2])] 6 (D + 4) 209 _ _ (And.intro (fun a3 => (z_litF a3 rfl).elim) (fun _ => (z_here80 hT (o2 (Classical.byContradiction a2)) (o3 (Classical.byContradiction a2)) (o4 (Classical.byContradiction a2)) (o5 (Classical.byContradiction a2)) (hT.1 [(6, [0, 1, 2])] 6 (D + 4) 209 _ _ (And.intro (fun a4 => (z_here80 hT (o6 (Classical.byContradiction a2) a4) (o7 (Classical.byContradiction a2) a4) (o8 (Classical.byContradiction a2) a4) (o9 (Classical.byContradiction a2) a4) (hT.1 [(6, [0, 1, 2])] 6 (D + 4) 209 _ _ (And.intro (fun a6 => (o10 (Classical.byContradiction a2) a4 a6).elim) (fun a7 => (hT.1 [(6, [0, 1, 2])] 6 (D + 4) 209 (47, [(0, zr 74), (1, zi (d : Int)), (2, zi v), (3, zi 1)], [zr 74], m) _ (And.intro trivial (hT.1 [(6, [0, 1, 2])] 6 (D + 4) 209 (57, [(0, zr 74), (1, zi (d : Int)), (2, zi v), (3, zi 1)], [zr 74], (zu m 74 16 ((m 74 16) + 1))) _ (o11 (Classical.byContradiction a2) a4 (Classical.byContradiction a7)))))))))) (fun a5 => (z_here80 hT (o12 (Classical.byContradiction a2) a5) (o13 (Classical.byContradiction a2) a5) (o14 (Classical.byContradiction a2) a5) (o15 (Classical.byContradiction a2) a5) (hT.1 [(6, [0, 1, 2])] 6 (D + 4) 209 _ _ (And.intro (fun a8 => (o16 (Classical.byContradiction a2) a5 a8)) (fun a9 => (z_here80 hT (o17 (Classical.byContradiction a2) a5 (Classical.byContradiction a9)) (o18 (Classical.byContradiction a2) a5 (Classical.byContradiction a9)) (o19 (Classical.byContradiction a2) a5 (Classical.byContradiction a9)) (o20 (Classical.byContradiction a2) a5 (Classical.byContradiction a9)) (hT.1 [(6, [0, 1, 2])] 6 (D + 4) 209 _ _ (And.intro (fun a10 => (hT.1 [(6, [0, 1, 2])] 6 (D + 4) 209 (48, [(0, zr 74), (1, zi (d : Int)), (2, zi v), (3, zi 0)], [zr 74, zr 74], m) _ (And.intro trivial (hT.1 [(6, [0, 1, 2])] 6 (D + 4) 209 (58, [(0, zr 74), (1, zi (d : Int)), (2, zi v), (3, zi 0)], [zi (d : Int), zr 74], (zu m 74 16 ((m 74 16) + 1))) _ (o21 (Classical.byContradiction a2) a5 (Classical.byContradiction a9) a10))))) (fun a11 => (o22 (Classical.byContradiction a2) a5 (Classical.byContradiction a9) (Classical.byContradiction a11)).elim)))))))))))))))))))))
theorem zb209_6_80 (hT : zRules T) {D : Nat} {κ : Option zA → zM → Prop} {m : zM} {d : Nat} {v : Int} {lo : zL} (hlo : z_keep [0, 1, 2] lo = [(0, zr 74), (1, zi (d : Int)), (2, zi v)])  (hB : zB m) (hrd : m 74 13 = 80) (h_d : d ≤ 4) (hf0 : (-1) ≤ m 74 17 ∧ m 74 17 ≤ (-1)) (hf1 : 0 ≤ m 74 16 ∧ m 74 16 ≤ 90) (hf2 : 0 ≤ m 74 15 ∧ m 74 15 ≤ 80) 
    (k1 : (hrR m 80) = 43 → zB (zu m 74 16 ((m 74 16) + 1)) → T (D + 3) 210 (0, [(0, zr 74), (1, zi (d : Int))], [], (zu m 74 16 ((m 74 16) + 1))) (fun r m1 => T (D + 4) 209 (61, [(0, zr 74), (1, zi (d : Int)), (2, zi v), (3, zi 1)], r.toList ++ [], m1) κ))
    (k2 : ¬ (hrR m 80) = 43 → ¬ (hrR m 80) = 45 → κ (some (zi (wr v))) m)
    (k3 : ¬ (hrR m 80) = 43 → (hrR m 80) = 45 → zB (zu m 74 16 ((m 74 16) + 1)) → T (D + 3) 210 (0, [(0, zr 74), (1, zi (d : Int))], [], (zu m 74 16 ((m 74 16) + 1))) (fun r m1 => T (D + 4) 209 (61, [(0, zr 74), (1, zi (d : Int)), (2, zi v), (3, zi 0)], r.toList ++ [], m1) κ)) :
    T (D + 4) 209 (6, lo, [], m) κ := by
  have hb4 : 0 ≤ (m 74 14) ∧ (m 74 14) ≤ 80 := hB 74 14
  have hb5 : (-1) ≤ (hrR m 80) ∧ (hrR m 80) ≤ 255 := hrRB m 80
  have hb6 : (-2147483648) ≤ wr v ∧ wr v ≤ 2147483647 := wrB v
  have he0 : wr (m 74 17) = (m 74 17) := wr_id (by omega) (by omega)
  have he1 : wr (hrR m 80) = (hrR m 80) := wr_id (by omega) (by omega)
  have key := @zb209_6_80r T hT D κ m d v lo hlo
  simp only [he0, he1, Int.toNat_natCast] at key
  exact key
    (fun x0 => by omega)
    (fun x0 => hrd)
    (fun x0 => by refine ⟨?_, ?_⟩ <;> omega)
    (fun x0 => by refine ⟨?_, ?_⟩ <;> omega)
    (fun x0 => by refine ⟨?_, ?_⟩ <;> omega)
    (fun x0 x1 => hrd)
    (fun x0 x1 => by refine ⟨?_, ?_⟩ <;> omega)
    (fun x0 x1 => by refine ⟨?_, ?_⟩ <;> omega)
    (fun x0 x1 => by refine ⟨?_, ?_⟩ <;> omega)
    (fun x0 x1 x2 => by omega)
    (fun x0 x1 x2 => k1 x1 (zB_u hB (show 0 ≤ ((m 74 16) + 1) ∧ ((m 74 16) + 1) ≤ 100 from ⟨by omega, by omega⟩)))
    (fun x0 x1 => hrd)
    (fun x0 x1 => by refine ⟨?_, ?_⟩ <;> omega)
    (fun x0 x1 => by refine ⟨?_, ?_⟩ <;> omega)
    (fun x0 x1 => by refine ⟨?_, ?_⟩ <;> omega)
    (fun x0 x1 x2 => k2 x1 x2)
    (fun x0 x1 x2 => hrd)
    (fun x0 x1 x2 => by refine ⟨?_, ?_⟩ <;> omega)
    (fun x0 x1 x2 => by refine ⟨?_, ?_⟩ <;> omega)
    (fun x0 x1 x2 => by refine ⟨?_, ?_⟩ <;> omega)
    (fun x0 x1 x2 x3 => k3 x1 x2 (zB_u hB (show 0 ≤ ((m 74 16) + 1) ∧ ((m 74 16) + 1) ≤ 100 from ⟨by omega, by omega⟩)))
    (fun x0 x1 x2 x3 => by omega)
theorem zb209_6_80fr (hT : zRules T) {D : Nat} {κ : Option zA → zM → Prop} {m : zM} {d : Nat} {v : Int} {lo : zL} (hlo : z_keep [0, 1, 2] lo = [(0, zr 74), (1, zi (d : Int)), (2, zi v)]) 
    (o1 : ¬ wr (m 74 17) = (-1) → κ (some (zi (wr v))) m)
    (o2 : wr (m 74 17) = (-1) → False) :
    T (D + 4) 209 (6, lo, [], m) κ :=
  zkeep hT hlo (hT.1 [(6, [0, 1, 2])] 6 (D + 4) 209 _ κ (hT.1 [] 6 (D + 3) 199 _ _ (And.intro (fun a1 => (And.intro (z_b01L rfl) (hT.1 [(6, [0, 1, 2])] 6 (D + 4) 209 _ _ (And.intro (fun _ => (o1 a1)) (fun a3 => (a3 (z_litT rfl)).elim))))) (fun a2 => (o2 (Classical.byContradiction a2)).elim))))
theorem zb209_6_80f (hT : zRules T) {D : Nat} {κ : Option zA → zM → Prop} {m : zM} {d : Nat} {v : Int} {lo : zL} (hlo : z_keep [0, 1, 2] lo = [(0, zr 74), (1, zi (d : Int)), (2, zi v)])  (hB : zB m) (hrd : m 74 13 = 80) (h_d : d ≤ 4) (hf0 : 0 ≤ m 74 17 ∧ m 74 17 ≤ 100) 
    (k1 : κ (some (zi (wr v))) m) :
    T (D + 4) 209 (6, lo, [], m) κ := by
  have hb2 : (-2147483648) ≤ wr v ∧ wr v ≤ 2147483647 := wrB v
  have he0 : wr (m 74 17) = (m 74 17) := wr_id (by omega) (by omega)
  have key := @zb209_6_80fr T hT D κ m d v lo hlo
  simp only [he0, Int.toNat_natCast] at key
  exact key
    (fun x0 => k1 )
    (fun x0 => by omega)
theorem zb210_0_80r (hT : zRules T) {D : Nat} {κ : Option zA → zM → Prop} {m : zM} {d : Nat} 
    (o1 : T (D + 3) 211 (0, [(0, zr 74), (1, zi (d : Int))], [], m) (fun r m1 => T (D + 4) 210 (5, [(0, zr 74), (1, zi (d : Int))], r.toList ++ [], m1) κ)) :
    T (D + 4) 210 (0, [(0, zr 74), (1, zi (d : Int))], [], m) κ :=
  hT.1 [(6, [0, 1, 2])] 6 (D + 4) 210 _ κ (o1)
theorem zb210_0_80 (hT : zRules T) {D : Nat} {κ : Option zA → zM → Prop} {m : zM} {d : Nat}  (hB : zB m) (hrd : m 74 13 = 80) (h_d : d ≤ 4) (hf0 : (-1) ≤ m 74 17 ∧ m 74 17 ≤ (-1)) (hf1 : 0 ≤ m 74 16 ∧ m 74 16 ≤ 90) (hf2 : 0 ≤ m 74 15 ∧ m 74 15 ≤ 80) 
    (k1 : T (D + 3) 211 (0, [(0, zr 74), (1, zi (d : Int))], [], m) (fun r m1 => T (D + 4) 210 (5, [(0, zr 74), (1, zi (d : Int))], r.toList ++ [], m1) κ)) :
    T (D + 4) 210 (0, [(0, zr 74), (1, zi (d : Int))], [], m) κ := by
  exact zb210_0_80r hT
    k1
theorem zb210_5_80r (hT : zRules T) {D : Nat} {κ : Option zA → zM → Prop} {m : zM} {d : Nat} {v : Int} {lo : zL} (hlo : z_keep [0, 1] lo = [(0, zr 74), (1, zi (d : Int))]) 
    (o1 : T (D + 4) 210 (6, [(0, zr 74), (1, zi (d : Int)), (2, zi v)], [], m) κ) :
    T (D + 4) 210 (5, lo, [zi v], m) κ :=
  zkeep hT hlo (hT.1 [(6, [0, 1, 2])] 6 (D + 4) 210 _ κ (o1))
theorem zb210_5_80 (hT : zRules T) {D : Nat} {κ : Option zA → zM → Prop} {m : zM} {d : Nat} {v : Int} {lo : zL} (hlo : z_keep [0, 1] lo = [(0, zr 74), (1, zi (d : Int))])  (h_d : d ≤ 4) 
    (k1 : T (D + 4) 210 (6, [(0, zr 74), (1, zi (d : Int)), (2, zi v)], [], m) κ) :
    T (D + 4) 210 (5, lo, [zi v], m) κ := by
  exact zb210_5_80r hT hlo
    k1
theorem zb210_61_80r (hT : zRules T) {D : Nat} {κ : Option zA → zM → Prop} {m : zM} {d : Nat} {v : Int} {w : Int} {bq : Int} {lo : zL} (hlo : z_keep [0, 1, 2, 3] lo = [(0, zr 74), (1, zi (d : Int)), (2, zi v), (3, zi bq)]) 
    (o1 : wr bq = 0 → ¬ wr w = 0 → ¬ wr w = 0)
    (o2 : wr bq = 0 → ¬ wr w = 0 → T (D + 4) 210 (6, [(0, zr 74), (1, zi (d : Int)), (2, zi (Int.tdiv (wr v) (wr w)))], [], m) κ)
    (o3 : wr bq = 0 → wr w = 0 → T (D + 4) 210 (6, [(0, zr 74), (1, zi (d : Int)), (2, zi 0)], [], m) κ)
    (o4 : ¬ wr bq = 0 → T (D + 4) 210 (6, [(0, zr 74), (1, zi (d : Int)), (2, zi (v * w))], [], m) κ) :
    T (D + 4) 210 (61, lo, [zi w], m) κ :=
  zkeep hT hlo (hT.1 [(6, [0, 1, 2])] 6 (D + 4) 210 _ κ (And.intro (fun a1 => (And.intro (fun a3 => (hT.1 [(6, [0, 1, 2])] 6 (D + 4) 210 (84, [(0, zr 74), (1, zi (d : Int)), (2, zi v), (3, zi bq), (4, zi w)], [zi v], m) _ (And.intro (o1 a1 a3) (o2 a1 a3)))) (fun a4 => (hT.1 [(6, [0, 1, 2])] 6 (D + 4) 210 (80, [(0, zr 74), (1, zi (d : Int)), (2, zi v), (3, zi bq), (4, zi w)], [zi 0], m) _ (o3 a1 (Classical.byContradiction a4)))))) (fun a2 => (hT.1 [(6, [0, 1, 2])] 6 (D + 4) 210 (71, [(0, zr 74), (1, zi (d : Int)), (2, zi v), (3, zi bq), (4, zi w)], [zi (v * w)], m) _ (o4 a2)))))
theorem zb210_61_80 (hT : zRules T) {D : Nat} {κ : Option zA → zM → Prop} {m : zM} {d : Nat} {v : Int} {w : Int} {bq : Int} {lo : zL} (hlo : z_keep [0, 1, 2, 3] lo = [(0, zr 74), (1, zi (d : Int)), (2, zi v), (3, zi bq)])  (h_d : d ≤ 4) (h_bq : 0 ≤ bq ∧ bq ≤ 1) 
    (k1 : bq = 0 → ¬ wr w = 0 → T (D + 4) 210 (6, [(0, zr 74), (1, zi (d : Int)), (2, zi (Int.tdiv (wr v) (wr w)))], [], m) κ)
    (k2 : bq = 0 → wr w = 0 → T (D + 4) 210 (6, [(0, zr 74), (1, zi (d : Int)), (2, zi 0)], [], m) κ)
    (k3 : ¬ bq = 0 → T (D + 4) 210 (6, [(0, zr 74), (1, zi (d : Int)), (2, zi (v * w))], [], m) κ) :
    T (D + 4) 210 (61, lo, [zi w], m) κ := by
  have hb2 : (-2147483648) ≤ wr w ∧ wr w ≤ 2147483647 := wrB w
  have hb3 : (-2147483648) ≤ wr v ∧ wr v ≤ 2147483647 := wrB v
  have he0 : wr bq = bq := wr_id (by omega) (by omega)
  have key := @zb210_61_80r T hT D κ m d v w bq lo hlo
  simp only [he0, Int.toNat_natCast] at key
  exact key
    (fun x0 x1 => by omega)
    k1
    k2
    k3
theorem zb210_6_80r (hT : zRules T) {D : Nat} {κ : Option zA → zM → Prop} {m : zM} {d : Nat} {v : Int} {lo : zL} (hlo : z_keep [0, 1, 2] lo = [(0, zr 74), (1, zi (d : Int)), (2, zi v)]) 
    (o1 : ¬ wr (m 74 17) = (-1) → False)
    (o2 : wr (m 74 17) = (-1) → (m 74 13) = 80)
    (o3 : wr (m 74 17) = (-1) → (0 ≤ (m 74 16) ∧ (m 74 16) ≤ 1000))
    (o4 : wr (m 74 17) = (-1) → (0 ≤ (m 74 14) ∧ (m 74 14) ≤ 80))
    (o5 : wr (m 74 17) = (-1) → (0 ≤ (m 74 15) ∧ (m 74 15) ≤ 80))
    (o6 : wr (m 74 17) = (-1) → wr (hrR m 80) = 42 → (m 74 13) = 80)
    (o7 : wr (m 74 17) = (-1) → wr (hrR m 80) = 42 → (0 ≤ (m 74 16) ∧ (m 74 16) ≤ 1000))
    (o8 : wr (m 74 17) = (-1) → wr (hrR m 80) = 42 → (0 ≤ (m 74 14) ∧ (m 74 14) ≤ 80))
    (o9 : wr (m 74 17) = (-1) → wr (hrR m 80) = 42 → (0 ≤ (m 74 15) ∧ (m 74 15) ≤ 80))
    (o10 : wr (m 74 17) = (-1) → wr (hrR m 80) = 42 → ¬ wr (hrR m 80) = 42 → False)
    (o11 : wr (m 74 17) = (-1) → wr (hrR m 80) = 42 → wr (hrR m 80) = 42 → T (D + 3) 211 (0, [(0, zr 74), (1, zi (d : Int))], [], (zu m 74 16 ((m 74 16) + 1))) (fun r m1 => T (D + 4) 210 (61, [(0, zr 74), (1, zi (d : Int)), (2, zi v), (3, zi 1)], r.toList ++ [], m1) κ))
    (o12 : wr (m 74 17) = (-1) → ¬ wr (hrR m 80) = 42 → (m 74 13) = 80)
    (o13 : wr (m 74 17) = (-1) → ¬ wr (hrR m 80) = 42 → (0 ≤ (m 74 16) ∧ (m 74 16) ≤ 1000))
    (o14 : wr (m 74 17) = (-1) → ¬ wr (hrR m 80) = 42 → (0 ≤ (m 74 14) ∧ (m 74 14) ≤ 80))
    (o15 : wr (m 74 17) = (-1) → ¬ wr (hrR m 80) = 42 → (0 ≤ (m 74 15) ∧ (m 74 15) ≤ 80))
    (o16 : wr (m 74 17) = (-1) → ¬ wr (hrR m 80) = 42 → ¬ wr (hrR m 80) = 47 → κ (some (zi (wr v))) m)
    (o17 : wr (m 74 17) = (-1) → ¬ wr (hrR m 80) = 42 → wr (hrR m 80) = 47 → (m 74 13) = 80)
    (o18 : wr (m 74 17) = (-1) → ¬ wr (hrR m 80) = 42 → wr (hrR m 80) = 47 → (0 ≤ (m 74 16) ∧ (m 74 16) ≤ 1000))
    (o19 : wr (m 74 17) = (-1) → ¬ wr (hrR m 80) = 42 → wr (hrR m 80) = 47 → (0 ≤ (m 74 14) ∧ (m 74 14) ≤ 80))
    (o20 : wr (m 74 17) = (-1) → ¬ wr (hrR m 80) = 42 → wr (hrR m 80) = 47 → (0 ≤ (m 74 15) ∧ (m 74 15) ≤ 80))
    (o21 : wr (m 74 17) = (-1) → ¬ wr (hrR m 80) = 42 → wr (hrR m 80) = 47 → ¬ wr (hrR m 80) = 42 → T (D + 3) 211 (0, [(0, zr 74), (1, zi (d : Int))], [], (zu m 74 16 ((m 74 16) + 1))) (fun r m1 => T (D + 4) 210 (61, [(0, zr 74), (1, zi (d : Int)), (2, zi v), (3, zi 0)], r.toList ++ [], m1) κ))
    (o22 : wr (m 74 17) = (-1) → ¬ wr (hrR m 80) = 42 → wr (hrR m 80) = 47 → wr (hrR m 80) = 42 → False) :
    T (D + 4) 210 (6, lo, [], m) κ :=
  zkeep hT hlo (hT.1 [(6, [0, 1, 2])] 6 (D + 4) 210 _ κ (hT.1 [] 6 (D + 3) 199 _ _ (And.intro (fun a1 => (o1 a1).elim) (fun a2 => (hT.1 [] 6 (D + 3) 199 (13, [(0, zr 74)], [zi 1], m) _ (And.intro (z_b01L rfl) (hT.1 [(6, [0, 1, 2])] 6 (D + 4) 210 _ _ (And.intro (fun a3 => (z_litF a3 rfl).elim) (fun _ => (z_here80 hT (o2 (Classical.byContradiction a2)) (o3 (Classical.byContradiction a2)) (o4 (Classical.byContradiction a2)) (o5 (Classical.byContradiction a2)) (hT.1 [(6, [0, 1, 2])] 6 (D + 4) 210 _ _ (And.intro (fun a4 => (z_here80 hT (o6 (Classical.byContradiction a2) a4) (o7 (Classical.byContradiction a2) a4) (o8 (Classical.byContradiction a2) a4) (o9 (Classical.byContradiction a2) a4) (hT.1 [(6, [0, 1, 2])] 6 (D + 4) 210 _ _ (And.intro (fun a6 => (o10 (Classical.byContradiction a2) a4 a6).elim) (fun a7 => (hT.1 [(6, [0, 1, 2])] 6 (D + 4) 210 (47, [(0, zr 74), (1, zi (d : Int)), (2, zi v), (3, zi 1)], [zr 74], m) _ (And.intro trivial (hT.1 [(6, [0, 1, 2])] 6 (D + 4) 210 (57, [(0, zr 74), (1, zi (d : Int)), (2, zi v), (3, zi 1)], [zr 74], (zu m 74 16 ((m 74 16) + 1))) _ (o11 (Classical.byContradiction a2) a4 (Classical.byContradiction a7)))))))))) (fun a5 => (z_here80 hT (o12 (Classical.byContradiction a2) a5) (o13 (Classical.byContradiction a2) a5) (o14 (Classical.byContradiction a2) a5) (o15 (Classical.byContradiction a2) a5) (hT.1 [(6, [0, 1, 2])] 6 (D + 4) 210 _ _ (And.intro (fun a8 => (o16 (Classical.byContradiction a2) a5 a8)) (fun a9 => (z_here80 hT (o17 (Classical.byContradiction a2) a5 (Classical.byContradiction a9)) (o18 (Classical.byContradiction a2) a5 (Classical.byContradiction a9)) (o19 (Classical.byContradiction a2) a5 (Classical.byContradiction a9)) (o20 (Classical.byContradiction a2) a5 (Classical.byContradiction a9)) (hT.1 [(6, [0, 1, 2])] 6 (D + 4) 210 _ _ (And.intro (fun a10 => (hT.1 [(6, [0, 1, 2])] 6 (D + 4) 210 (48, [(0, zr 74), (1, zi (d : Int)), (2, zi v), (3, zi 0)], [zr 74, zr 74], m) _ (And.intro trivial (hT.1 [(6, [0, 1, 2])] 6 (D + 4) 210 (58, [(0, zr 74), (1, zi (d : Int)), (2, zi v), (3, zi 0)], [zi (d : Int), zr 74], (zu m 74 16 ((m 74 16) + 1))) _ (o21 (Classical.byContradiction a2) a5 (Classical.byContradiction a9) a10))))) (fun a11 => (o22 (Classical.byContradiction a2) a5 (Classical.byContradiction a9) (Classical.byContradiction a11)).elim)))))))))))))))))))))
theorem zb210_6_80 (hT : zRules T) {D : Nat} {κ : Option zA → zM → Prop} {m : zM} {d : Nat} {v : Int} {lo : zL} (hlo : z_keep [0, 1, 2] lo = [(0, zr 74), (1, zi (d : Int)), (2, zi v)])  (hB : zB m) (hrd : m 74 13 = 80) (h_d : d ≤ 4) (hf0 : (-1) ≤ m 74 17 ∧ m 74 17 ≤ (-1)) (hf1 : 0 ≤ m 74 16 ∧ m 74 16 ≤ 90) (hf2 : 0 ≤ m 74 15 ∧ m 74 15 ≤ 80) 
    (k1 : (hrR m 80) = 42 → zB (zu m 74 16 ((m 74 16) + 1)) → T (D + 3) 211 (0, [(0, zr 74), (1, zi (d : Int))], [], (zu m 74 16 ((m 74 16) + 1))) (fun r m1 => T (D + 4) 210 (61, [(0, zr 74), (1, zi (d : Int)), (2, zi v), (3, zi 1)], r.toList ++ [], m1) κ))
    (k2 : ¬ (hrR m 80) = 42 → ¬ (hrR m 80) = 47 → κ (some (zi (wr v))) m)
    (k3 : ¬ (hrR m 80) = 42 → (hrR m 80) = 47 → zB (zu m 74 16 ((m 74 16) + 1)) → T (D + 3) 211 (0, [(0, zr 74), (1, zi (d : Int))], [], (zu m 74 16 ((m 74 16) + 1))) (fun r m1 => T (D + 4) 210 (61, [(0, zr 74), (1, zi (d : Int)), (2, zi v), (3, zi 0)], r.toList ++ [], m1) κ)) :
    T (D + 4) 210 (6, lo, [], m) κ := by
  have hb4 : 0 ≤ (m 74 14) ∧ (m 74 14) ≤ 80 := hB 74 14
  have hb5 : (-1) ≤ (hrR m 80) ∧ (hrR m 80) ≤ 255 := hrRB m 80
  have hb6 : (-2147483648) ≤ wr v ∧ wr v ≤ 2147483647 := wrB v
  have he0 : wr (m 74 17) = (m 74 17) := wr_id (by omega) (by omega)
  have he1 : wr (hrR m 80) = (hrR m 80) := wr_id (by omega) (by omega)
  have key := @zb210_6_80r T hT D κ m d v lo hlo
  simp only [he0, he1, Int.toNat_natCast] at key
  exact key
    (fun x0 => by omega)
    (fun x0 => hrd)
    (fun x0 => by refine ⟨?_, ?_⟩ <;> omega)
    (fun x0 => by refine ⟨?_, ?_⟩ <;> omega)
    (fun x0 => by refine ⟨?_, ?_⟩ <;> omega)
    (fun x0 x1 => hrd)
    (fun x0 x1 => by refine ⟨?_, ?_⟩ <;> omega)
    (fun x0 x1 => by refine ⟨?_, ?_⟩ <;> omega)
    (fun x0 x1 => by refine ⟨?_, ?_⟩ <;> omega)
    (fun x0 x1 x2 => by omega)
    (fun x0 x1 x2 => k1 x1 (zB_u hB (show 0 ≤ ((m 74 16) + 1) ∧ ((m 74 16) + 1) ≤ 100 from ⟨by omega, by omega⟩)))
    (fun x0 x1 => hrd)
    (fun x0 x1 => by refine ⟨?_, ?_⟩ <;> omega)
    (fun x0 x1 => by refine ⟨?_, ?_⟩ <;> omega)
    (fun x0 x1 => by refine ⟨?_, ?_⟩ <;> omega)
    (fun x0 x1 x2 => k2 x1 x2)
    (fun x0 x1 x2 => hrd)
    (fun x0 x1 x2 => by refine ⟨?_, ?_⟩ <;> omega)
    (fun x0 x1 x2 => by refine ⟨?_, ?_⟩ <;> omega)
    (fun x0 x1 x2 => by refine ⟨?_, ?_⟩ <;> omega)
    (fun x0 x1 x2 x3 => k3 x1 x2 (zB_u hB (show 0 ≤ ((m 74 16) + 1) ∧ ((m 74 16) + 1) ≤ 100 from ⟨by omega, by omega⟩)))
    (fun x0 x1 x2 x3 => by omega)
theorem zb210_6_80fr (hT : zRules T) {D : Nat} {κ : Option zA → zM → Prop} {m : zM} {d : Nat} {v : Int} {lo : zL} (hlo : z_keep [0, 1, 2] lo = [(0, zr 74), (1, zi (d : Int)), (2, zi v)]) 
    (o1 : ¬ wr (m 74 17) = (-1) → κ (some (zi (wr v))) m)
    (o2 : wr (m 74 17) = (-1) → False) :
    T (D + 4) 210 (6, lo, [], m) κ :=
  zkeep hT hlo (hT.1 [(6, [0, 1, 2])] 6 (D + 4) 210 _ κ (hT.1 [] 6 (D + 3) 199 _ _ (And.intro (fun a1 => (And.intro (z_b01L rfl) (hT.1 [(6, [0, 1, 2])] 6 (D + 4) 210 _ _ (And.intro (fun _ => (o1 a1)) (fun a3 => (a3 (z_litT rfl)).elim))))) (fun a2 => (o2 (Classical.byContradiction a2)).elim))))
theorem zb210_6_80f (hT : zRules T) {D : Nat} {κ : Option zA → zM → Prop} {m : zM} {d : Nat} {v : Int} {lo : zL} (hlo : z_keep [0, 1, 2] lo = [(0, zr 74), (1, zi (d : Int)), (2, zi v)])  (hB : zB m) (hrd : m 74 13 = 80) (h_d : d ≤ 4) (hf0 : 0 ≤ m 74 17 ∧ m 74 17 ≤ 100) 
    (k1 : κ (some (zi (wr v))) m) :
    T (D + 4) 210 (6, lo, [], m) κ := by
  have hb2 : (-2147483648) ≤ wr v ∧ wr v ≤ 2147483647 := wrB v
  have he0 : wr (m 74 17) = (m 74 17) := wr_id (by omega) (by omega)
  have key := @zb210_6_80fr T hT D κ m d v lo hlo
  simp only [he0, Int.toNat_natCast] at key
  exact key
    (fun x0 => k1 )
    (fun x0 => by omega)
theorem zb211_0_80r (hT : zRules T) {D : Nat} {κ : Option zA → zM → Prop} {m : zM} {d : Nat} 
    (o1 : ¬ wr (m 74 17) = (-1) → False)
    (o2 : wr (m 74 17) = (-1) → (m 74 13) = 80)
    (o3 : wr (m 74 17) = (-1) → (0 ≤ (m 74 16) ∧ (m 74 16) ≤ 1000))
    (o4 : wr (m 74 17) = (-1) → (0 ≤ (m 74 14) ∧ (m 74 14) ≤ 80))
    (o5 : wr (m 74 17) = (-1) → (0 ≤ (m 74 15) ∧ (m 74 15) ≤ 80))
    (o6 : wr (m 74 17) = (-1) → wr (hrR m 80) = 45 → T (D + 3) 211 (0, [(0, zr 74), (1, zi (d : Int))], [], (zu m 74 16 ((m 74 16) + 1))) (fun r m1 => T (D + 4) 211 (14, [(0, zr 74), (1, zi (d : Int))], r.toList ++ [], m1) κ))
    (o7 : wr (m 74 17) = (-1) → ¬ wr (hrR m 80) = 45 → ¬ wr (m 74 17) = (-1) → False)
    (o8 : wr (m 74 17) = (-1) → ¬ wr (hrR m 80) = 45 → wr (m 74 17) = (-1) → (m 74 13) = 80)
    (o9 : wr (m 74 17) = (-1) → ¬ wr (hrR m 80) = 45 → wr (m 74 17) = (-1) → (0 ≤ (m 74 16) ∧ (m 74 16) ≤ 1000))
    (o10 : wr (m 74 17) = (-1) → ¬ wr (hrR m 80) = 45 → wr (m 74 17) = (-1) → (0 ≤ (m 74 14) ∧ (m 74 14) ≤ 80))
    (o11 : wr (m 74 17) = (-1) → ¬ wr (hrR m 80) = 45 → wr (m 74 17) = (-1) → (0 ≤ (m 74 15) ∧ (m 74 15) ≤ 80))
    (o12 : wr (m 74 17) = (-1) → ¬ wr (hrR m 80) = 45 → wr (m 74 17) = (-1) → ¬ wr (hrR m 80) = 40 → wr (hrR m 80) < 48 → wr (hrR m 80) = 104 → False)
    (o13 : wr (m 74 17) = (-1) → ¬ wr (hrR m 80) = 45 → wr (m 74 17) = (-1) → ¬ wr (hrR m 80) = 40 → wr (hrR m 80) < 48 → ¬ wr (hrR m 80) = 104 → wr (hrR m 80) = 108 → False)
    (o14 : wr (m 74 17) = (-1) → ¬ wr (hrR m 80) = 45 → wr (m 74 17) = (-1) → ¬ wr (hrR m 80) = 40 → wr (hrR m 80) < 48 → ¬ wr (hrR m 80) = 104 → ¬ wr (hrR m 80) = 108 → wr (hrR m 80) = 119 → False)
    (o15 : wr (m 74 17) = (-1) → ¬ wr (hrR m 80) = 45 → wr (m 74 17) = (-1) → ¬ wr (hrR m 80) = 40 → wr (hrR m 80) < 48 → ¬ wr (hrR m 80) = 104 → ¬ wr (hrR m 80) = 108 → ¬ wr (hrR m 80) = 119 → wr (hrR m 80) = 112 → False)
    (o16 : wr (m 74 17) = (-1) → ¬ wr (hrR m 80) = 45 → wr (m 74 17) = (-1) → ¬ wr (hrR m 80) = 40 → wr (hrR m 80) < 48 → ¬ wr (hrR m 80) = 104 → ¬ wr (hrR m 80) = 108 → ¬ wr (hrR m 80) = 119 → ¬ wr (hrR m 80) = 112 → wr (hrR m 80) = 105 → False)
    (o17 : wr (m 74 17) = (-1) → ¬ wr (hrR m 80) = 45 → wr (m 74 17) = (-1) → ¬ wr (hrR m 80) = 40 → wr (hrR m 80) < 48 → ¬ wr (hrR m 80) = 104 → ¬ wr (hrR m 80) = 108 → ¬ wr (hrR m 80) = 119 → ¬ wr (hrR m 80) = 112 → ¬ wr (hrR m 80) = 105 → ¬ wr (m 74 17) = (-1) → False)
    (o18 : wr (m 74 17) = (-1) → ¬ wr (hrR m 80) = 45 → wr (m 74 17) = (-1) → ¬ wr (hrR m 80) = 40 → wr (hrR m 80) < 48 → ¬ wr (hrR m 80) = 104 → ¬ wr (hrR m 80) = 108 → ¬ wr (hrR m 80) = 119 → ¬ wr (hrR m 80) = 112 → ¬ wr (hrR m 80) = 105 → wr (m 74 17) = (-1) → κ (some (zi 0)) (zu m 74 17 (m 74 16)))
    (o19 : wr (m 74 17) = (-1) → ¬ wr (hrR m 80) = 45 → wr (m 74 17) = (-1) → ¬ wr (hrR m 80) = 40 → ¬ wr (hrR m 80) < 48 → 57 < wr (hrR m 80) → wr (hrR m 80) = 104 → ¬ wr (m 74 26) = 0 → ¬ wr (hrR m 80) = 104 → False)
    (o20 : wr (m 74 17) = (-1) → ¬ wr (hrR m 80) = 45 → wr (m 74 17) = (-1) → ¬ wr (hrR m 80) = 40 → ¬ wr (hrR m 80) < 48 → 57 < wr (hrR m 80) → wr (hrR m 80) = 104 → ¬ wr (m 74 26) = 0 → wr (hrR m 80) = 104 → κ (some (zi (wr (m 74 28)))) (zu m 74 16 ((m 74 16) + 1)))
    (o21 : wr (m 74 17) = (-1) → ¬ wr (hrR m 80) = 45 → wr (m 74 17) = (-1) → ¬ wr (hrR m 80) = 40 → ¬ wr (hrR m 80) < 48 → 57 < wr (hrR m 80) → wr (hrR m 80) = 104 → wr (m 74 26) = 0 → κ (some (zi 0)) (zu m 74 16 ((m 74 16) + 1)))
    (o22 : wr (m 74 17) = (-1) → ¬ wr (hrR m 80) = 45 → wr (m 74 17) = (-1) → ¬ wr (hrR m 80) = 40 → ¬ wr (hrR m 80) < 48 → 57 < wr (hrR m 80) → ¬ wr (hrR m 80) = 104 → wr (hrR m 80) = 108 → ¬ wr (m 74 26) = 0 → ¬ wr (hrR m 80) = 104 → ¬ wr (hrR m 80) = 108 → False)
    (o23 : wr (m 74 17) = (-1) → ¬ wr (hrR m 80) = 45 → wr (m 74 17) = (-1) → ¬ wr (hrR m 80) = 40 → ¬ wr (hrR m 80) < 48 → 57 < wr (hrR m 80) → ¬ wr (hrR m 80) = 104 → wr (hrR m 80) = 108 → ¬ wr (m 74 26) = 0 → ¬ wr (hrR m 80) = 104 → wr (hrR m 80) = 108 → (0 ≤ wr (m 74 29) ∧ wr (m 74 29) < 4))
    (o24 : wr (m 74 17) = (-1) → ¬ wr (hrR m 80) = 45 → wr (m 74 17) = (-1) → ¬ wr (hrR m 80) = 40 → ¬ wr (hrR m 80) < 48 → 57 < wr (hrR m 80) → ¬ wr (hrR m 80) = 104 → wr (hrR m 80) = 108 → ¬ wr (m 74 26) = 0 → ¬ wr (hrR m 80) = 104 → wr (hrR m 80) = 108 → ¬ wr (m 77 ((wr (m 74 29)).toNat)) = 0)
    (o25 : wr (m 74 17) = (-1) → ¬ wr (hrR m 80) = 45 → wr (m 74 17) = (-1) → ¬ wr (hrR m 80) = 40 → ¬ wr (hrR m 80) < 48 → 57 < wr (hrR m 80) → ¬ wr (hrR m 80) = 104 → wr (hrR m 80) = 108 → ¬ wr (m 74 26) = 0 → ¬ wr (hrR m 80) = 104 → wr (hrR m 80) = 108 → (0 ≤ wr ((26 * (m 74 29)) + (Int.tmod (wr (m 74 30)) (wr (m 77 ((wr (m 74 29)).toNat))))) ∧ wr ((26 * (m 74 29)) + (Int.tmod (wr (m 74 30)) (wr (m 77 ((wr (m 74 29)).toNat))))) < 104))
    (o26 : wr (m 74 17) = (-1) → ¬ wr (hrR m 80) = 45 → wr (m 74 17) = (-1) → ¬ wr (hrR m 80) = 40 → ¬ wr (hrR m 80) < 48 → 57 < wr (hrR m 80) → ¬ wr (hrR m 80) = 104 → wr (hrR m 80) = 108 → ¬ wr (m 74 26) = 0 → ¬ wr (hrR m 80) = 104 → wr (hrR m 80) = 108 → κ (some (zi (wr (wr (m 76 ((wr ((26 * (m 74 29)) + (Int.tmod (wr (m 74 30)) (wr (m 77 ((wr (m 74 29)).toNat)))))).toNat)))))) (zu m 74 16 ((m 74 16) + 1)))
    (o27 : wr (m 74 17) = (-1) → ¬ wr (hrR m 80) = 45 → wr (m 74 17) = (-1) → ¬ wr (hrR m 80) = 40 → ¬ wr (hrR m 80) < 48 → 57 < wr (hrR m 80) → ¬ wr (hrR m 80) = 104 → wr (hrR m 80) = 108 → ¬ wr (m 74 26) = 0 → wr (hrR m 80) = 104 → False)
    (o28 : wr (m 74 17) = (-1) → ¬ wr (hrR m 80) = 45 → wr (m 74 17) = (-1) → ¬ wr (hrR m 80) = 40 → ¬ wr (hrR m 80) < 48 → 57 < wr (hrR m 80) → ¬ wr (hrR m 80) = 104 → wr (hrR m 80) = 108 → wr (m 74 26) = 0 → κ (some (zi 0)) (zu m 74 16 ((m 74 16) + 1)))
    (o29 : wr (m 74 17) = (-1) → ¬ wr (hrR m 80) = 45 → wr (m 74 17) = (-1) → ¬ wr (hrR m 80) = 40 → ¬ wr (hrR m 80) < 48 → 57 < wr (hrR m 80) → ¬ wr (hrR m 80) = 104 → ¬ wr (hrR m 80) = 108 → wr (hrR m 80) = 119 → ¬ wr (m 74 26) = 0 → ¬ wr (hrR m 80) = 104 → ¬ wr (hrR m 80) = 108 → ¬ wr (hrR m 80) = 119 → False)
    (o30 : wr (m 74 17) = (-1) → ¬ wr (hrR m 80) = 45 → wr (m 74 17) = (-1) → ¬ wr (hrR m 80) = 40 → ¬ wr (hrR m 80) < 48 → 57 < wr (hrR m 80) → ¬ wr (hrR m 80) = 104 → ¬ wr (hrR m 80) = 108 → wr (hrR m 80) = 119 → ¬ wr (m 74 26) = 0 → ¬ wr (hrR m 80) = 104 → ¬ wr (hrR m 80) = 108 → wr (hrR m 80) = 119 → κ (some (zi (wr (m 74 30)))) (zu m 74 16 ((m 74 16) + 1)))
    (o31 : wr (m 74 17) = (-1) → ¬ wr (hrR m 80) = 45 → wr (m 74 17) = (-1) → ¬ wr (hrR m 80) = 40 → ¬ wr (hrR m 80) < 48 → 57 < wr (hrR m 80) → ¬ wr (hrR m 80) = 104 → ¬ wr (hrR m 80) = 108 → wr (hrR m 80) = 119 → ¬ wr (m 74 26) = 0 → ¬ wr (hrR m 80) = 104 → wr (hrR m 80) = 108 → False)
    (o32 : wr (m 74 17) = (-1) → ¬ wr (hrR m 80) = 45 → wr (m 74 17) = (-1) → ¬ wr (hrR m 80) = 40 → ¬ wr (hrR m 80) < 48 → 57 < wr (hrR m 80) → ¬ wr (hrR m 80) = 104 → ¬ wr (hrR m 80) = 108 → wr (hrR m 80) = 119 → ¬ wr (m 74 26) = 0 → wr (hrR m 80) = 104 → False)
    (o33 : wr (m 74 17) = (-1) → ¬ wr (hrR m 80) = 45 → wr (m 74 17) = (-1) → ¬ wr (hrR m 80) = 40 → ¬ wr (hrR m 80) < 48 → 57 < wr (hrR m 80) → ¬ wr (hrR m 80) = 104 → ¬ wr (hrR m 80) = 108 → wr (hrR m 80) = 119 → wr (m 74 26) = 0 → κ (some (zi 0)) (zu m 74 16 ((m 74 16) + 1)))
    (o34 : wr (m 74 17) = (-1) → ¬ wr (hrR m 80) = 45 → wr (m 74 17) = (-1) → ¬ wr (hrR m 80) = 40 → ¬ wr (hrR m 80) < 48 → 57 < wr (hrR m 80) → ¬ wr (hrR m 80) = 104 → ¬ wr (hrR m 80) = 108 → ¬ wr (hrR m 80) = 119 → wr (hrR m 80) = 112 → ¬ wr (m 74 26) = 0 → ¬ wr (hrR m 80) = 104 → ¬ wr (hrR m 80) = 108 → ¬ wr (hrR m 80) = 119 → ¬ wr (hrR m 80) = 112 → False)
    (o35 : wr (m 74 17) = (-1) → ¬ wr (hrR m 80) = 45 → wr (m 74 17) = (-1) → ¬ wr (hrR m 80) = 40 → ¬ wr (hrR m 80) < 48 → 57 < wr (hrR m 80) → ¬ wr (hrR m 80) = 104 → ¬ wr (hrR m 80) = 108 → ¬ wr (hrR m 80) = 119 → wr (hrR m 80) = 112 → ¬ wr (m 74 26) = 0 → ¬ wr (hrR m 80) = 104 → ¬ wr (hrR m 80) = 108 → ¬ wr (hrR m 80) = 119 → wr (hrR m 80) = 112 → κ (some (zi (wr (m 74 29)))) (zu m 74 16 ((m 74 16) + 1)))
    (o36 : wr (m 74 17) = (-1) → ¬ wr (hrR m 80) = 45 → wr (m 74 17) = (-1) → ¬ wr (hrR m 80) = 40 → ¬ wr (hrR m 80) < 48 → 57 < wr (hrR m 80) → ¬ wr (hrR m 80) = 104 → ¬ wr (hrR m 80) = 108 → ¬ wr (hrR m 80) = 119 → wr (hrR m 80) = 112 → ¬ wr (m 74 26) = 0 → ¬ wr (hrR m 80) = 104 → ¬ wr (hrR m 80) = 108 → wr (hrR m 80) = 119 → False)
    (o37 : wr (m 74 17) = (-1) → ¬ wr (hrR m 80) = 45 → wr (m 74 17) = (-1) → ¬ wr (hrR m 80) = 40 → ¬ wr (hrR m 80) < 48 → 57 < wr (hrR m 80) → ¬ wr (hrR m 80) = 104 → ¬ wr (hrR m 80) = 108 → ¬ wr (hrR m 80) = 119 → wr (hrR m 80) = 112 → ¬ wr (m 74 26) = 0 → ¬ wr (hrR m 80) = 104 → wr (hrR m 80) = 108 → False)
    (o38 : wr (m 74 17) = (-1) → ¬ wr (hrR m 80) = 45 → wr (m 74 17) = (-1) → ¬ wr (hrR m 80) = 40 → ¬ wr (hrR m 80) < 48 → 57 < wr (hrR m 80) → ¬ wr (hrR m 80) = 104 → ¬ wr (hrR m 80) = 108 → ¬ wr (hrR m 80) = 119 → wr (hrR m 80) = 112 → ¬ wr (m 74 26) = 0 → wr (hrR m 80) = 104 → False)
    (o39 : wr (m 74 17) = (-1) → ¬ wr (hrR m 80) = 45 → wr (m 74 17) = (-1) → ¬ wr (hrR m 80) = 40 → ¬ wr (hrR m 80) < 48 → 57 < wr (hrR m 80) → ¬ wr (hrR m 80) = 104 → ¬ wr (hrR m 80) = 108 → ¬ wr (hrR m 80) = 119 → wr (hrR m 80) = 112 → wr (m 74 26) = 0 → κ (some (zi 0)) (zu m 74 16 ((m 74 16) + 1)))
    (o40 : wr (m 74 17) = (-1) → ¬ wr (hrR m 80) = 45 → wr (m 74 17) = (-1) → ¬ wr (hrR m 80) = 40 → ¬ wr (hrR m 80) < 48 → 57 < wr (hrR m 80) → ¬ wr (hrR m 80) = 104 → ¬ wr (hrR m 80) = 108 → ¬ wr (hrR m 80) = 119 → ¬ wr (hrR m 80) = 112 → wr (hrR m 80) = 105 → ¬ wr (m 74 26) = 0 → ¬ wr (hrR m 80) = 104 → ¬ wr (hrR m 80) = 108 → ¬ wr (hrR m 80) = 119 → ¬ wr (hrR m 80) = 112 → κ (some (zi (wr (m 74 27)))) (zu m 74 16 ((m 74 16) + 1)))
    (o41 : wr (m 74 17) = (-1) → ¬ wr (hrR m 80) = 45 → wr (m 74 17) = (-1) → ¬ wr (hrR m 80) = 40 → ¬ wr (hrR m 80) < 48 → 57 < wr (hrR m 80) → ¬ wr (hrR m 80) = 104 → ¬ wr (hrR m 80) = 108 → ¬ wr (hrR m 80) = 119 → ¬ wr (hrR m 80) = 112 → wr (hrR m 80) = 105 → ¬ wr (m 74 26) = 0 → ¬ wr (hrR m 80) = 104 → ¬ wr (hrR m 80) = 108 → ¬ wr (hrR m 80) = 119 → wr (hrR m 80) = 112 → False)
    (o42 : wr (m 74 17) = (-1) → ¬ wr (hrR m 80) = 45 → wr (m 74 17) = (-1) → ¬ wr (hrR m 80) = 40 → ¬ wr (hrR m 80) < 48 → 57 < wr (hrR m 80) → ¬ wr (hrR m 80) = 104 → ¬ wr (hrR m 80) = 108 → ¬ wr (hrR m 80) = 119 → ¬ wr (hrR m 80) = 112 → wr (hrR m 80) = 105 → ¬ wr (m 74 26) = 0 → ¬ wr (hrR m 80) = 104 → ¬ wr (hrR m 80) = 108 → wr (hrR m 80) = 119 → False)
    (o43 : wr (m 74 17) = (-1) → ¬ wr (hrR m 80) = 45 → wr (m 74 17) = (-1) → ¬ wr (hrR m 80) = 40 → ¬ wr (hrR m 80) < 48 → 57 < wr (hrR m 80) → ¬ wr (hrR m 80) = 104 → ¬ wr (hrR m 80) = 108 → ¬ wr (hrR m 80) = 119 → ¬ wr (hrR m 80) = 112 → wr (hrR m 80) = 105 → ¬ wr (m 74 26) = 0 → ¬ wr (hrR m 80) = 104 → wr (hrR m 80) = 108 → False)
    (o44 : wr (m 74 17) = (-1) → ¬ wr (hrR m 80) = 45 → wr (m 74 17) = (-1) → ¬ wr (hrR m 80) = 40 → ¬ wr (hrR m 80) < 48 → 57 < wr (hrR m 80) → ¬ wr (hrR m 80) = 104 → ¬ wr (hrR m 80) = 108 → ¬ wr (hrR m 80) = 119 → ¬ wr (hrR m 80) = 112 → wr (hrR m 80) = 105 → ¬ wr (m 74 26) = 0 → wr (hrR m 80) = 104 → False)
    (o45 : wr (m 74 17) = (-1) → ¬ wr (hrR m 80) = 45 → wr (m 74 17) = (-1) → ¬ wr (hrR m 80) = 40 → ¬ wr (hrR m 80) < 48 → 57 < wr (hrR m 80) → ¬ wr (hrR m 80) = 104 → ¬ wr (hrR m 80) = 108 → ¬ wr (hrR m 80) = 119 → ¬ wr (hrR m 80) = 112 → wr (hrR m 80) = 105 → wr (m 74 26) = 0 → κ (some (zi 0)) (zu m 74 16 ((m 74 16) + 1)))
    (o46 : wr (m 74 17) = (-1) → ¬ wr (hrR m 80) = 45 → wr (m 74 17) = (-1) → ¬ wr (hrR m 80) = 40 → ¬ wr (hrR m 80) < 48 → 57 < wr (hrR m 80) → ¬ wr (hrR m 80) = 104 → ¬ wr (hrR m 80) = 108 → ¬ wr (hrR m 80) = 119 → ¬ wr (hrR m 80) = 112 → ¬ wr (hrR m 80) = 105 → ¬ wr (m 74 17) = (-1) → False)
    (o47 : wr (m 74 17) = (-1) → ¬ wr (hrR m 80) = 45 → wr (m 74 17) = (-1) → ¬ wr (hrR m 80) = 40 → ¬ wr (hrR m 80) < 48 → 57 < wr (hrR m 80) → ¬ wr (hrR m 80) = 104 → ¬ wr (hrR m 80) = 108 → ¬ wr (hrR m 80) = 119 → ¬ wr (hrR m 80) = 112 → ¬ wr (hrR m 80) = 105 → wr (m 74 17) = (-1) → κ (some (zi 0)) (zu m 74 17 (m 74 16)))
    (o48 : wr (m 74 17) = (-1) → ¬ wr (hrR m 80) = 45 → wr (m 74 17) = (-1) → ¬ wr (hrR m 80) = 40 → ¬ wr (hrR m 80) < 48 → ¬ 57 < wr (hrR m 80) → T (D + 4) 211 (83, [(0, zr 74), (3, zi 0), (4, zi 0)], [], m) κ)
    (o49 : wr (m 74 17) = (-1) → ¬ wr (hrR m 80) = 45 → wr (m 74 17) = (-1) → wr (hrR m 80) = 40 → ¬ wr (d : Int) < 4 → wr (hrR m 80) < 48 → wr (hrR m 80) = 104 → False)
    (o50 : wr (m 74 17) = (-1) → ¬ wr (hrR m 80) = 45 → wr (m 74 17) = (-1) → wr (hrR m 80) = 40 → ¬ wr (d : Int) < 4 → wr (hrR m 80) < 48 → ¬ wr (hrR m 80) = 104 → wr (hrR m 80) = 108 → False)
    (o51 : wr (m 74 17) = (-1) → ¬ wr (hrR m 80) = 45 → wr (m 74 17) = (-1) → wr (hrR m 80) = 40 → ¬ wr (d : Int) < 4 → wr (hrR m 80) < 48 → ¬ wr (hrR m 80) = 104 → ¬ wr (hrR m 80) = 108 → wr (hrR m 80) = 119 → False)
    (o52 : wr (m 74 17) = (-1) → ¬ wr (hrR m 80) = 45 → wr (m 74 17) = (-1) → wr (hrR m 80) = 40 → ¬ wr (d : Int) < 4 → wr (hrR m 80) < 48 → ¬ wr (hrR m 80) = 104 → ¬ wr (hrR m 80) = 108 → ¬ wr (hrR m 80) = 119 → wr (hrR m 80) = 112 → False)
    (o53 : wr (m 74 17) = (-1) → ¬ wr (hrR m 80) = 45 → wr (m 74 17) = (-1) → wr (hrR m 80) = 40 → ¬ wr (d : Int) < 4 → wr (hrR m 80) < 48 → ¬ wr (hrR m 80) = 104 → ¬ wr (hrR m 80) = 108 → ¬ wr (hrR m 80) = 119 → ¬ wr (hrR m 80) = 112 → wr (hrR m 80) = 105 → False)
    (o54 : wr (m 74 17) = (-1) → ¬ wr (hrR m 80) = 45 → wr (m 74 17) = (-1) → wr (hrR m 80) = 40 → ¬ wr (d : Int) < 4 → wr (hrR m 80) < 48 → ¬ wr (hrR m 80) = 104 → ¬ wr (hrR m 80) = 108 → ¬ wr (hrR m 80) = 119 → ¬ wr (hrR m 80) = 112 → ¬ wr (hrR m 80) = 105 → ¬ wr (m 74 17) = (-1) → False)
    (o55 : wr (m 74 17) = (-1) → ¬ wr (hrR m 80) = 45 → wr (m 74 17) = (-1) → wr (hrR m 80) = 40 → ¬ wr (d : Int) < 4 → wr (hrR m 80) < 48 → ¬ wr (hrR m 80) = 104 → ¬ wr (hrR m 80) = 108 → ¬ wr (hrR m 80) = 119 → ¬ wr (hrR m 80) = 112 → ¬ wr (hrR m 80) = 105 → wr (m 74 17) = (-1) → κ (some (zi 0)) (zu m 74 17 (m 74 16)))
    (o56 : wr (m 74 17) = (-1) → ¬ wr (hrR m 80) = 45 → wr (m 74 17) = (-1) → wr (hrR m 80) = 40 → ¬ wr (d : Int) < 4 → ¬ wr (hrR m 80) < 48 → False)
    (o57 : wr (m 74 17) = (-1) → ¬ wr (hrR m 80) = 45 → wr (m 74 17) = (-1) → wr (hrR m 80) = 40 → wr (d : Int) < 4 → T (D + 3) 208 (0, [(0, zr 74), (1, zi ((d : Int) + 1))], [], (zu m 74 16 ((m 74 16) + 1))) (fun r m1 => T (D + 4) 211 (58, [(0, zr 74), (1, zi (d : Int)), (2, zi (hrR m 80))], r.toList ++ [], m1) κ)) :
    T (D + 4) 211 (0, [(0, zr 74), (1, zi (d : Int))], [], m) κ :=
  hT.1 [(83, [0, 3, 4])] 6 (D + 4) 211 _ κ (hT.1 [] 6 (D + 3) 201 _ _ (hT.1 [] 6 (D + 2) 199 _ _ (And.intro (fun a1 => (o1 a1).elim) (fun a2 => (hT.1 [] 6 (D + 2) 199 (13, [(0, zr 74)], [zi 1], m) _ (And.intro (z_b01L rfl) (hT.1 [] 6 (D + 3) 201 _ _ (And.intro (fun a3 => (z_litF a3 rfl).elim) (fun _ => (z_here80 hT (o2 (Classical.byContradiction a2)) (o3 (Classical.byContradiction a2)) (o4 (Classical.byContradiction a2)) (o5 (Classical.byContradiction a2)) (hT.1 [] 6 (D + 3) 201 _ _ (And.intro (fun a4 => (hT.1 [] 6 (D + 3) 201 (23, [(0, zr 74), (1, zi 45)], [zi 1, zi (m 74 16), zr 74], m) _ (And.intro trivial (And.intro (z_b01L rfl) (hT.1 [(83, [0, 3, 4])] 6 (D + 4) 211 _ _ (And.intro (fun a6 => (z_litF a6 rfl).elim) (fun _ => (o6 (Classical.byContradiction a2) a4)))))))) (fun a5 => (And.intro (z_b01L rfl) (hT.1 [(83, [0, 3, 4])] 6 (D + 4) 211 _ _ (And.intro (fun _ => (hT.1 [] 6 (D + 3) 199 _ _ (And.intro (fun a8 => (o7 (Classical.byContradiction a2) a5 a8).elim) (fun a9 => (hT.1 [] 6 (D + 3) 199 (13, [(0, zr 74)], [zi 1], m) _ (And.intro (z_b01L rfl) (hT.1 [(83, [0, 3, 4])] 6 (D + 4) 211 _ _ (And.intro (fun _ => (z_here80 hT (o8 (Classical.byContradiction a2) a5 (Classical.byContradiction a9)) (o9 (Classical.byContradiction a2) a5 (Classical.byContradiction a9)) (o10 (Classical.byContradiction a2) a5 (Classical.byContradiction a9)) (o11 (Classical.byContradiction a2) a5 (Classical.byContradiction a9)) (hT.1 [(83, [0, 3, 4])] 6 (D + 4) 211 _ _ (And.intro (fun a11 => (hT.1 [(83, [0, 3, 4])] 6 (D + 4) 211 (70, [(0, zr 74), (1, zi (d : Int)), (2, zi (hrR m 80))], [zi 48, zi (hrR m 80)], m) _ (hT.1 [] 6 (D + 3) 186 _ _ (And.intro (fun a13 => (And.intro (z_b01L rfl) (hT.1 [(83, [0, 3, 4])] 6 (D + 4) 211 _ _ (And.intro (fun _ => (And.intro (fun a16 => (o12 (Classical.byContradiction a2) a5 (Classical.byContradiction a9) a11 a13 a16).elim) (fun a17 => (hT.1 [(83, [0, 3, 4])] 6 (D + 4) 211 (133, [(0, zr 74), (1, zi (d : Int)), (2, zi (hrR m 80))], [zi 108, zi (hrR m 80)], m) _ (And.intro (fun a18 => (o13 (Classical.byContradiction a2) a5 (Classical.byContradiction a9) a11 a13 a17 a18).elim) (fun a19 => (And.intro (fun a20 => (o14 (Classical.byContradiction a2) a5 (Classical.byContradiction a9) a11 a13 a17 a19 a20).elim) (fun a21 => (hT.1 [(83, [0, 3, 4])] 6 (D + 4) 211 (145, [(0, zr 74), (1, zi (d : Int)), (2, zi (hrR m 80))], [zi 112, zi (hrR m 80)], m) _ (And.intro (fun a22 => (o15 (Classical.byContradiction a2) a5 (Classical.byContradiction a9) a11 a13 a17 a19 a21 a22).elim) (fun a23 => (And.intro (fun a24 => (o16 (Classical.byContradiction a2) a5 (Classical.byContradiction a9) a11 a13 a17 a19 a21 a23 a24).elim) (fun a25 => (hT.1 [(83, [0, 3, 4])] 6 (D + 4) 211 (156, [(0, zr 74), (1, zi (d : Int)), (2, zi (hrR m 80))], [zr 74, zr 74], m) _ (hT.1 [] 6 (D + 3) 200 _ _ (hT.1 [] 6 (D + 2) 199 _ _ (And.intro (fun a26 => (o17 (Classical.byContradiction a2) a5 (Classical.byContradiction a9) a11 a13 a17 a19 a21 a23 a25 a26).elim) (fun a27 => (hT.1 [] 6 (D + 2) 199 (13, [(0, zr 74)], [zi 1], m) _ (And.intro (z_b01L rfl) (hT.1 [] 6 (D + 3) 200 _ _ (And.intro (fun a28 => (z_litF a28 rfl).elim) (fun _ => (And.intro trivial (hT.1 [(83, [0, 3, 4])] 6 (D + 4) 211 _ _ (o18 (Classical.byContradiction a2) a5 (Classical.byContradiction a9) a11 a13 a17 a19 a21 a23 a25 (Classical.byContradiction a27))))))))))))))))))))))))))) (fun a15 => (a15 (z_litT rfl)).elim))))) (fun a14 => (And.intro (fun a29 => (hT.1 [] 6 (D + 3) 186 (14, [(0, zi (hrR m 80)), (1, zi 48), (2, zi 57)], [], m) _ (And.intro (z_b01L rfl) (hT.1 [(83, [0, 3, 4])] 6 (D + 4) 211 _ _ (And.intro (fun _ => (And.intro (fun a32 => (hT.1 [(83, [0, 3, 4])] 6 (D + 4) 211 (166, [(0, zr 74), (1, zi (d : Int)), (2, zi (hrR m 80))], [zr 74, zr 74], m) _ (And.intro trivial (hT.1 [(83, [0, 3, 4])] 6 (D + 4) 211 (178, [(0, zr 74), (1, zi (d : Int)), (2, zi (hrR m 80))], [zi (m 74 26)], (zu m 74 16 ((m 74 16) + 1))) _ (And.intro (fun a34 => (And.intro (fun a36 => (o19 (Classical.byContradiction a2) a5 (Classical.byContradiction a9) a11 a14 a29 a32 a34 a36).elim) (fun a37 => (hT.1 [(83, [0, 3, 4])] 6 (D + 4) 211 (193, [(0, zr 74), (1, zi (d : Int)), (2, zi (hrR m 80))], [zi (m 74 28)], (zu m 74 16 ((m 74 16) + 1))) _ (o20 (Classical.byContradiction a2) a5 (Classical.byContradiction a9) a11 a14 a29 a32 a34 (Classical.byContradiction a37)))))) (fun a35 => (o21 (Classical.byContradiction a2) a5 (Classical.byContradiction a9) a11 a14 a29 a32 (Classical.byContradiction a35)))))))) (fun a33 => (hT.1 [(83, [0, 3, 4])] 6 (D + 4) 211 (133, [(0, zr 74), (1, zi (d : Int)), (2, zi (hrR m 80))], [zi 108, zi (hrR m 80)], m) _ (And.intro (fun a38 => (hT.1 [(83, [0, 3, 4])] 6 (D + 4) 211 (171, [(0, zr 74), (1, zi (d : Int)), (2, zi (hrR m 80))], [zi ((m 74 16) + 1), zr 74], m) _ (And.intro trivial (And.intro (fun a40 => (hT.1 [(83, [0, 3, 4])] 6 (D + 4) 211 (186, [(0, zr 74), (1, zi (d : Int)), (2, zi (hrR m 80))], [zi 104, zi (hrR m 80)], (zu m 74 16 ((m 74 16) + 1))) _ (And.intro (fun a42 => (And.intro (fun a44 => (o22 (Classical.byContradiction a2) a5 (Classical.byContradiction a9) a11 a14 a29 a33 a38 a40 a42 a44).elim) (fun a45 => (hT.1 [(83, [0, 3, 4])] 6 (D + 4) 211 (204, [(0, zr 74), (1, zi (d : Int)), (2, zi (hrR m 80))], [zr 74, zr 74], (zu m 74 16 ((m 74 16) + 1))) _ (hT.1 [] 6 (D + 3) 213 _ _ (hT.1 [] 6 (D + 3) 213 (9, [(0, zr 74), (1, zi (m 74 29)), (2, zi (m 74 30))], [zi (m 74 30), zi (26 * (m 74 29)), zr 76], (zu m 74 16 ((m 74 16) + 1))) _ (And.intro (o23 (Classical.byContradiction a2) a5 (Classical.byContradiction a9) a11 a14 a29 a33 a38 a40 a42 (Classical.byContradiction a45)) (And.intro (o24 (Classical.byContradiction a2) a5 (Classical.byContradiction a9) a11 a14 a29 a33 a38 a40 a42 (Classical.byContradiction a45)) (hT.1 [] 6 (D + 3) 213 (17, [(0, zr 74), (1, zi (m 74 29)), (2, zi (m 74 30))], [zi ((26 * (m 74 29)) + (Int.tmod (wr (m 74 30)) (wr (m 77 ((wr (m 74 29)).toNat))))), zr 76], (zu m 74 16 ((m 74 16) + 1))) _ (And.intro (o25 (Classical.byContradiction a2) a5 (Classical.byContradiction a9) a11 a14 a29 a33 a38 a40 a42 (Classical.byContradiction a45)) (hT.1 [(83, [0, 3, 4])] 6 (D + 4) 211 _ _ (o26 (Classical.byContradiction a2) a5 (Classical.byContradiction a9) a11 a14 a29 a33 a38 a40 a42 (Classical.byContradiction a45))))))))))))) (fun a43 => (o27 (Classical.byContradiction a2) a5 (Classical.byContradiction a9) a11 a14 a29 a33 a38 a40 (Classical.byContradiction a43)).elim)))) (fun a41 => (o28 (Classical.byContradiction a2) a5 (Classical.byContradiction a9) a11 a14 a29 a33 a38 (Classical.byContradiction a41))))))) (fun a39 => (And.intro (fun a46 => (hT.1 [(83, [0, 3, 4])] 6 (D + 4) 211 (166, [(0, zr 74), (1, zi (d : Int)), (2, zi (hrR m 80))], [zr 74, zr 74], m) _ (And.intro trivial (hT.1 [(83, [0, 3, 4])] 6 (D + 4) 211 (178, [(0, zr 74), (1, zi (d : Int)), (2, zi (hrR m 80))], [zi (m 74 26)], (zu m 74 16 ((m 74 16) + 1))) _ (And.intro (fun a48 => (And.intro (fun a50 => (hT.1 [(83, [0, 3, 4])] 6 (D + 4) 211 (199, [(0, zr 74), (1, zi (d : Int)), (2, zi (hrR m 80))], [zi 108, zi (hrR m 80)], (zu m 74 16 ((m 74 16) + 1))) _ (And.intro (fun a52 => (And.intro (fun a54 => (o29 (Classical.byContradiction a2) a5 (Classical.byContradiction a9) a11 a14 a29 a33 a39 a46 a48 a50 a52 a54).elim) (fun a55 => (hT.1 [(83, [0, 3, 4])] 6 (D + 4) 211 (227, [(0, zr 74), (1, zi (d : Int)), (2, zi (hrR m 80))], [zi (m 74 30)], (zu m 74 16 ((m 74 16) + 1))) _ (o30 (Classical.byContradiction a2) a5 (Classical.byContradiction a9) a11 a14 a29 a33 a39 a46 a48 a50 a52 (Classical.byContradiction a55)))))) (fun a53 => (o31 (Classical.byContradiction a2) a5 (Classical.byContradiction a9) a11 a14 a29 a33 a39 a46 a48 a50 (Classical.byContradiction a53)).elim)))) (fun a51 => (o32 (Classical.byContradiction a2) a5 (Classical.byContradiction a9) a11 a14 a29 a33 a39 a46 a48 (Classical.byContradiction a51)).elim))) (fun a49 => (o33 (Classical.byContradiction a2) a5 (Classical.byContradiction a9) a11 a14 a29 a33 a39 a46 (Classical.byContradiction a49)))))))) (fun a47 => (hT.1 [(83, [0, 3, 4])] 6 (D + 4) 211 (145, [(0, zr 74), (1, zi (d : Int)), (2, zi (hrR m 80))], [zi 112, zi (hrR m 80)], m) _ (And.intro (fun a56 => (hT.1 [(83, [0, 3, 4])] 6 (D + 4) 211 (171, [(0, zr 74), (1, zi (d : Int)), (2, zi (hrR m 80))], [zi ((m 74 16) + 1), zr 74], m) _ (And.intro trivial (And.intro (fun a58 => (hT.1 [(83, [0, 3, 4])] 6 (D + 4) 211 (186, [(0, zr 74), (1, zi (d : Int)), (2, zi (hrR m 80))], [zi 104, zi (hrR m 80)], (zu m 74 16 ((m 74 16) + 1))) _ (And.intro (fun a60 => (And.intro (fun a62 => (hT.1 [(83, [0, 3, 4])] 6 (D + 4) 211 (220, [(0, zr 74), (1, zi (d : Int)), (2, zi (hrR m 80))], [zi 119, zi (hrR m 80)], (zu m 74 16 ((m 74 16) + 1))) _ (And.intro (fun a64 => (And.intro (fun a66 => (o34 (Classical.byContradiction a2) a5 (Classical.byContradiction a9) a11 a14 a29 a33 a39 a47 a56 a58 a60 a62 a64 a66).elim) (fun a67 => (hT.1 [(83, [0, 3, 4])] 6 (D + 4) 211 (240, [(0, zr 74), (1, zi (d : Int)), (2, zi (hrR m 80))], [zi (m 74 29)], (zu m 74 16 ((m 74 16) + 1))) _ (o35 (Classical.byContradiction a2) a5 (Classical.byContradiction a9) a11 a14 a29 a33 a39 a47 a56 a58 a60 a62 a64 (Classical.byContradiction a67)))))) (fun a65 => (o36 (Classical.byContradiction a2) a5 (Classical.byContradiction a9) a11 a14 a29 a33 a39 a47 a56 a58 a60 a62 (Classical.byContradiction a65)).elim)))) (fun a63 => (o37 (Classical.byContradiction a2) a5 (Classical.byContradiction a9) a11 a14 a29 a33 a39 a47 a56 a58 a60 (Classical.byContradiction a63)).elim))) (fun a61 => (o38 (Classical.byContradiction a2) a5 (Classical.byContradiction a9) a11 a14 a29 a33 a39 a47 a56 a58 (Classical.byContradiction a61)).elim)))) (fun a59 => (o39 (Classical.byContradiction a2) a5 (Classical.byContradiction a9) a11 a14 a29 a33 a39 a47 a56 (Classical.byContradiction a59))))))) (fun a57 => (And.intro (fun a68 => (hT.1 [(83, [0, 3, 4])] 6 (D + 4) 211 (166, [(0, zr 74), (1, zi (d : Int)), (2, zi (hrR m 80))], [zr 74, zr 74], m) _ (And.intro trivial (hT.1 [(83, [0, 3, 4])] 6 (D + 4) 211 (178, [(0, zr 74), (1, zi (d : Int)), (2, zi (hrR m 80))], [zi (m 74 26)], (zu m 74 16 ((m 74 16) + 1))) _ (And.intro (fun a70 => (And.intro (fun a72 => (hT.1 [(83, [0, 3, 4])] 6 (D + 4) 211 (199, [(0, zr 74), (1, zi (d : Int)), (2, zi (hrR m 80))], [zi 108, zi (hrR m 80)], (zu m 74 16 ((m 74 16) + 1))) _ (And.intro (fun a74 => (And.intro (fun a76 => (hT.1 [(83, [0, 3, 4])] 6 (D + 4) 211 (233, [(0, zr 74), (1, zi (d : Int)), (2, zi (hrR m 80))], [zi 112, zi (hrR m 80)], (zu m 74 16 ((m 74 16) + 1))) _ (And.intro (fun a78 => (o40 (Classical.byContradiction a2) a5 (Classical.byContradiction a9) a11 a14 a29 a33 a39 a47 a57 a68 a70 a72 a74 a76 a78)) (fun a79 => (o41 (Classical.byContradiction a2) a5 (Classical.byContradiction a9) a11 a14 a29 a33 a39 a47 a57 a68 a70 a72 a74 a76 (Classical.byContradiction a79)).elim)))) (fun a77 => (o42 (Classical.byContradiction a2) a5 (Classical.byContradiction a9) a11 a14 a29 a33 a39 a47 a57 a68 a70 a72 a74 (Classical.byContradiction a77)).elim))) (fun a75 => (o43 (Classical.byContradiction a2) a5 (Classical.byContradiction a9) a11 a14 a29 a33 a39 a47 a57 a68 a70 a72 (Classical.byContradiction a75)).elim)))) (fun a73 => (o44 (Classical.byContradiction a2) a5 (Classical.byContradiction a9) a11 a14 a29 a33 a39 a47 a57 a68 a70 (Classical.byContradiction a73)).elim))) (fun a71 => (o45 (Classical.byContradiction a2) a5 (Classical.byContradiction a9) a11 a14 a29 a33 a39 a47 a57 a68 (Classical.byContradiction a71)))))))) (fun a69 => (hT.1 [(83, [0, 3, 4])] 6 (D + 4) 211 (156, [(0, zr 74), (1, zi (d : Int)), (2, zi (hrR m 80))], [zr 74, zr 74], m) _ (hT.1 [] 6 (D + 3) 200 _ _ (hT.1 [] 6 (D + 2) 199 _ _ (And.intro (fun a80 => (o46 (Classical.byContradiction a2) a5 (Classical.byContradiction a9) a11 a14 a29 a33 a39 a47 a57 a69 a80).elim) (fun a81 => (hT.1 [] 6 (D + 2) 199 (13, [(0, zr 74)], [zi 1], m) _ (And.intro (z_b01L rfl) (hT.1 [] 6 (D + 3) 200 _ _ (And.intro (fun a82 => (z_litF a82 rfl).elim) (fun _ => (And.intro trivial (hT.1 [(83, [0, 3, 4])] 6 (D + 4) 211 _ _ (o47 (Classical.byContradiction a2) a5 (Classical.byContradiction a9) a11 a14 a29 a33 a39 a47 a57 a69 (Classical.byContradiction a81))))))))))))))))))))))))))) (fun a31 => (a31 (z_litT rfl)).elim)))))) (fun a30 => (hT.1 [] 6 (D + 3) 186 (10, [(0, zi (hrR m 80)), (1, zi 48), (2, zi 57)], [], m) _ (And.intro (z_b01L rfl) (hT.1 [(83, [0, 3, 4])] 6 (D + 4) 211 _ _ (And.intro (fun a83 => (z_litF a83 rfl).elim) (fun _ => (o48 (Classical.byContradiction a2) a5 (Classical.byContradiction a9) a11 a14 a30))))))))))))) (fun a12 => (hT.1 [(83, [0, 3, 4])] 6 (D + 4) 211 (38, [(0, zr 74), (1, zi (d : Int)), (2, zi (hrR m 80))], [zi 4, zi (d : Int)], m) _ (And.intro (fun a84 => (hT.1 [] 6 (D + 3) 186 _ _ (And.intro (fun a86 => (And.intro (z_b01L rfl) (hT.1 [(83, [0, 3, 4])] 6 (D + 4) 211 _ _ (And.intro (fun _ => (And.intro (fun a89 => (o49 (Classical.byContradiction a2) a5 (Classical.byContradiction a9) (Classical.byContradiction a12) a84 a86 a89).elim) (fun a90 => (hT.1 [(83, [0, 3, 4])] 6 (D + 4) 211 (133, [(0, zr 74), (1, zi (d : Int)), (2, zi (hrR m 80))], [zi 108, zi (hrR m 80)], m) _ (And.intro (fun a91 => (o50 (Classical.byContradiction a2) a5 (Classical.byContradiction a9) (Classical.byContradiction a12) a84 a86 a90 a91).elim) (fun a92 => (And.intro (fun a93 => (o51 (Classical.byContradiction a2) a5 (Classical.byContradiction a9) (Classical.byContradiction a12) a84 a86 a90 a92 a93).elim) (fun a94 => (hT.1 [(83, [0, 3, 4])] 6 (D + 4) 211 (145, [(0, zr 74), (1, zi (d : Int)), (2, zi (hrR m 80))], [zi 112, zi (hrR m 80)], m) _ (And.intro (fun a95 => (o52 (Classical.byContradiction a2) a5 (Classical.byContradiction a9) (Classical.byContradiction a12) a84 a86 a90 a92 a94 a95).elim) (fun a96 => (And.intro (fun a97 => (o53 (Classical.byContradiction a2) a5 (Classical.byContradiction a9) (Classical.byContradiction a12) a84 a86 a90 a92 a94 a96 a97).elim) (fun a98 => (hT.1 [(83, [0, 3, 4])] 6 (D + 4) 211 (156, [(0, zr 74), (1, zi (d : Int)), (2, zi (hrR m 80))], [zr 74, zr 74], m) _ (hT.1 [] 6 (D + 3) 200 _ _ (hT.1 [] 6 (D + 2) 199 _ _ (And.intro (fun a99 => (o54 (Classical.byContradiction a2) a5 (Classical.byContradiction a9) (Classical.byContradiction a12) a84 a86 a90 a92 a94 a96 a98 a99).elim) (fun a100 => (hT.1 [] 6 (D + 2) 199 (13, [(0, zr 74)], [zi 1], m) _ (And.intro (z_b01L rfl) (hT.1 [] 6 (D + 3) 200 _ _ (And.intro (fun a101 => (z_litF a101 rfl).elim) (fun _ => (And.intro trivial (hT.1 [(83, [0, 3, 4])] 6 (D + 4) 211 _ _ (o55 (Classical.byContradiction a2) a5 (Classical.byContradiction a9) (Classical.byContradiction a12) a84 a86 a90 a92 a94 a96 a98 (Classical.byContradiction a100))))))))))))))))))))))))))) (fun a88 => (a88 (z_litT rfl)).elim))))) (fun a87 => (o56 (Classical.byContradiction a2) a5 (Classical.byContradiction a9) (Classical.byContradiction a12) a84 a87).elim)))) (fun a85 => (hT.1 [(83, [0, 3, 4])] 6 (D + 4) 211 (48, [(0, zr 74), (1, zi (d : Int)), (2, zi (hrR m 80))], [zi ((m 74 16) + 1), zr 74], m) _ (And.intro trivial (o57 (Classical.byContradiction a2) a5 (Classical.byContradiction a9) (Classical.byContradiction a12) (Classical.byContradiction a85)))))))))))) (fun a10 => (a10 (z_litT rfl)).elim))))))))) (fun a7 => (a7 (z_litT rfl)).elim)))))))))))))))))
theorem zb211_0_80 (hT : zRules T) {D : Nat} {κ : Option zA → zM → Prop} {m : zM} {d : Nat}  (hB : zB m) (hrd : m 74 13 = 80) (h_d : d ≤ 4) (hf0 : (-1) ≤ m 74 17 ∧ m 74 17 ≤ (-1)) (hf1 : 0 ≤ m 74 16 ∧ m 74 16 ≤ 90) (hf2 : 0 ≤ m 74 15 ∧ m 74 15 ≤ 80) 
    (k1 : (hrR m 80) = 45 → zB (zu m 74 16 ((m 74 16) + 1)) → T (D + 3) 211 (0, [(0, zr 74), (1, zi (d : Int))], [], (zu m 74 16 ((m 74 16) + 1))) (fun r m1 => T (D + 4) 211 (14, [(0, zr 74), (1, zi (d : Int))], r.toList ++ [], m1) κ))
    (k2 : ¬ (hrR m 80) = 45 → ¬ (hrR m 80) = 40 → (hrR m 80) < 48 → zB (zu m 74 17 (m 74 16)) → κ (some (zi 0)) (zu m 74 17 (m 74 16)))
    (k3 : ¬ (hrR m 80) = 45 → ¬ (hrR m 80) = 40 → ¬ (hrR m 80) < 48 → 57 < (hrR m 80) → (hrR m 80) = 104 → ¬ (m 74 26) = 0 → zB (zu m 74 16 ((m 74 16) + 1)) → κ (some (zi (wr (m 74 28)))) (zu m 74 16 ((m 74 16) + 1)))
    (k4 : ¬ (hrR m 80) = 45 → ¬ (hrR m 80) = 40 → ¬ (hrR m 80) < 48 → 57 < (hrR m 80) → (hrR m 80) = 104 → (m 74 26) = 0 → zB (zu m 74 16 ((m 74 16) + 1)) → κ (some (zi 0)) (zu m 74 16 ((m 74 16) + 1)))
    (k5 : ¬ (hrR m 80) = 45 → ¬ (hrR m 80) = 40 → ¬ (hrR m 80) < 48 → 57 < (hrR m 80) → ¬ (hrR m 80) = 104 → (hrR m 80) = 108 → ¬ (m 74 26) = 0 → (0 ≤ wr (m 74 29) ∧ wr (m 74 29) < 4))
    (k6 : ¬ (hrR m 80) = 45 → ¬ (hrR m 80) = 40 → ¬ (hrR m 80) < 48 → 57 < (hrR m 80) → ¬ (hrR m 80) = 104 → (hrR m 80) = 108 → ¬ (m 74 26) = 0 → ¬ (m 77 ((wr (m 74 29)).toNat)) = 0)
    (k7 : ¬ (hrR m 80) = 45 → ¬ (hrR m 80) = 40 → ¬ (hrR m 80) < 48 → 57 < (hrR m 80) → ¬ (hrR m 80) = 104 → (hrR m 80) = 108 → ¬ (m 74 26) = 0 → (0 ≤ wr ((26 * (m 74 29)) + (Int.tmod (wr (m 74 30)) (m 77 ((wr (m 74 29)).toNat)))) ∧ wr ((26 * (m 74 29)) + (Int.tmod (wr (m 74 30)) (m 77 ((wr (m 74 29)).toNat)))) < 104))
    (k8 : ¬ (hrR m 80) = 45 → ¬ (hrR m 80) = 40 → ¬ (hrR m 80) < 48 → 57 < (hrR m 80) → ¬ (hrR m 80) = 104 → (hrR m 80) = 108 → ¬ (m 74 26) = 0 → zB (zu m 74 16 ((m 74 16) + 1)) → κ (some (zi (m 76 ((wr ((26 * (m 74 29)) + (Int.tmod (wr (m 74 30)) (m 77 ((wr (m 74 29)).toNat))))).toNat)))) (zu m 74 16 ((m 74 16) + 1)))
    (k9 : ¬ (hrR m 80) = 45 → ¬ (hrR m 80) = 40 → ¬ (hrR m 80) < 48 → 57 < (hrR m 80) → ¬ (hrR m 80) = 104 → (hrR m 80) = 108 → (m 74 26) = 0 → zB (zu m 74 16 ((m 74 16) + 1)) → κ (some (zi 0)) (zu m 74 16 ((m 74 16) + 1)))
    (k10 : ¬ (hrR m 80) = 45 → ¬ (hrR m 80) = 40 → ¬ (hrR m 80) < 48 → 57 < (hrR m 80) → ¬ (hrR m 80) = 104 → ¬ (hrR m 80) = 108 → (hrR m 80) = 119 → ¬ (m 74 26) = 0 → zB (zu m 74 16 ((m 74 16) + 1)) → κ (some (zi (wr (m 74 30)))) (zu m 74 16 ((m 74 16) + 1)))
    (k11 : ¬ (hrR m 80) = 45 → ¬ (hrR m 80) = 40 → ¬ (hrR m 80) < 48 → 57 < (hrR m 80) → ¬ (hrR m 80) = 104 → ¬ (hrR m 80) = 108 → (hrR m 80) = 119 → (m 74 26) = 0 → zB (zu m 74 16 ((m 74 16) + 1)) → κ (some (zi 0)) (zu m 74 16 ((m 74 16) + 1)))
    (k12 : ¬ (hrR m 80) = 45 → ¬ (hrR m 80) = 40 → ¬ (hrR m 80) < 48 → 57 < (hrR m 80) → ¬ (hrR m 80) = 104 → ¬ (hrR m 80) = 108 → ¬ (hrR m 80) = 119 → (hrR m 80) = 112 → ¬ (m 74 26) = 0 → zB (zu m 74 16 ((m 74 16) + 1)) → κ (some (zi (wr (m 74 29)))) (zu m 74 16 ((m 74 16) + 1)))
    (k13 : ¬ (hrR m 80) = 45 → ¬ (hrR m 80) = 40 → ¬ (hrR m 80) < 48 → 57 < (hrR m 80) → ¬ (hrR m 80) = 104 → ¬ (hrR m 80) = 108 → ¬ (hrR m 80) = 119 → (hrR m 80) = 112 → (m 74 26) = 0 → zB (zu m 74 16 ((m 74 16) + 1)) → κ (some (zi 0)) (zu m 74 16 ((m 74 16) + 1)))
    (k14 : ¬ (hrR m 80) = 45 → ¬ (hrR m 80) = 40 → ¬ (hrR m 80) < 48 → 57 < (hrR m 80) → ¬ (hrR m 80) = 104 → ¬ (hrR m 80) = 108 → ¬ (hrR m 80) = 119 → ¬ (hrR m 80) = 112 → (hrR m 80) = 105 → ¬ (m 74 26) = 0 → zB (zu m 74 16 ((m 74 16) + 1)) → κ (some (zi (wr (m 74 27)))) (zu m 74 16 ((m 74 16) + 1)))
    (k15 : ¬ (hrR m 80) = 45 → ¬ (hrR m 80) = 40 → ¬ (hrR m 80) < 48 → 57 < (hrR m 80) → ¬ (hrR m 80) = 104 → ¬ (hrR m 80) = 108 → ¬ (hrR m 80) = 119 → ¬ (hrR m 80) = 112 → (hrR m 80) = 105 → (m 74 26) = 0 → zB (zu m 74 16 ((m 74 16) + 1)) → κ (some (zi 0)) (zu m 74 16 ((m 74 16) + 1)))
    (k16 : ¬ (hrR m 80) = 45 → ¬ (hrR m 80) = 40 → ¬ (hrR m 80) < 48 → 57 < (hrR m 80) → ¬ (hrR m 80) = 104 → ¬ (hrR m 80) = 108 → ¬ (hrR m 80) = 119 → ¬ (hrR m 80) = 112 → ¬ (hrR m 80) = 105 → zB (zu m 74 17 (m 74 16)) → κ (some (zi 0)) (zu m 74 17 (m 74 16)))
    (k17 : ¬ (hrR m 80) = 45 → ¬ (hrR m 80) = 40 → ¬ (hrR m 80) < 48 → ¬ 57 < (hrR m 80) → T (D + 4) 211 (83, [(0, zr 74), (3, zi 0), (4, zi 0)], [], m) κ)
    (k18 : ¬ (hrR m 80) = 45 → (hrR m 80) = 40 → ¬ (d : Int) < 4 → zB (zu m 74 17 (m 74 16)) → κ (some (zi 0)) (zu m 74 17 (m 74 16)))
    (k19 : ¬ (hrR m 80) = 45 → (hrR m 80) = 40 → (d : Int) < 4 → zB (zu m 74 16 ((m 74 16) + 1)) → T (D + 3) 208 (0, [(0, zr 74), (1, zi ((d : Int) + 1))], [], (zu m 74 16 ((m 74 16) + 1))) (fun r m1 => T (D + 4) 211 (58, [(0, zr 74), (1, zi (d : Int)), (2, zi (hrR m 80))], r.toList ++ [], m1) κ)) :
    T (D + 4) 211 (0, [(0, zr 74), (1, zi (d : Int))], [], m) κ := by
  have hb4 : 0 ≤ (m 74 14) ∧ (m 74 14) ≤ 80 := hB 74 14
  have hb5 : (-1) ≤ (hrR m 80) ∧ (hrR m 80) ≤ 255 := hrRB m 80
  have hb6 : 0 ≤ (m 74 26) ∧ (m 74 26) ≤ 1 := hB 74 26
  have hb7 : (-2147483648) ≤ wr (m 74 28) ∧ wr (m 74 28) ≤ 2147483647 := wrB (m 74 28)
  have hb8 : (-2147483648) ≤ wr (m 74 29) ∧ wr (m 74 29) ≤ 2147483647 := wrB (m 74 29)
  have hb9 : 0 ≤ (m 77 ((wr (m 74 29)).toNat)) ∧ (m 77 ((wr (m 74 29)).toNat)) ≤ 26 := hB 77 ((wr (m 74 29)).toNat)
  have hb10 : (-2147483648) ≤ wr (m 74 30) ∧ wr (m 74 30) ≤ 2147483647 := wrB (m 74 30)
  have hb11 : (-2147483648) ≤ wr ((26 * (m 74 29)) + (Int.tmod (wr (m 74 30)) (m 77 ((wr (m 74 29)).toNat)))) ∧ wr ((26 * (m 74 29)) + (Int.tmod (wr (m 74 30)) (m 77 ((wr (m 74 29)).toNat)))) ≤ 2147483647 := wrB ((26 * (m 74 29)) + (Int.tmod (wr (m 74 30)) (m 77 ((wr (m 74 29)).toNat))))
  have hb12 : 0 ≤ (m 76 ((wr ((26 * (m 74 29)) + (Int.tmod (wr (m 74 30)) (m 77 ((wr (m 74 29)).toNat))))).toNat)) ∧ (m 76 ((wr ((26 * (m 74 29)) + (Int.tmod (wr (m 74 30)) (m 77 ((wr (m 74 29)).toNat))))).toNat)) ≤ 9 := hB 76 ((wr ((26 * (m 74 29)) + (Int.tmod (wr (m 74 30)) (m 77 ((wr (m 74 29)).toNat))))).toNat)
  have hb13 : (-2147483648) ≤ wr (m 74 27) ∧ wr (m 74 27) ≤ 2147483647 := wrB (m 74 27)
  have he0 : wr (m 74 17) = (m 74 17) := wr_id (by omega) (by omega)
  have he1 : wr (hrR m 80) = (hrR m 80) := wr_id (by omega) (by omega)
  have he2 : wr (d : Int) = (d : Int) := wr_id (by omega) (by omega)
  have he3 : wr (m 74 26) = (m 74 26) := wr_id (by omega) (by omega)
  have he4 : wr (m 77 ((wr (m 74 29)).toNat)) = (m 77 ((wr (m 74 29)).toNat)) := wr_id (by omega) (by omega)
  have he5 : wr (m 76 ((wr ((26 * (m 74 29)) + (Int.tmod (wr (m 74 30)) (m 77 ((wr (m 74 29)).toNat))))).toNat)) = (m 76 ((wr ((26 * (m 74 29)) + (Int.tmod (wr (m 74 30)) (m 77 ((wr (m 74 29)).toNat))))).toNat)) := wr_id (by omega) (by omega)
  have key := @zb211_0_80r T hT D κ m d
  simp only [he0, he1, he2, he3, he4, he5, Int.toNat_natCast] at key
  exact key
    (fun x0 => by omega)
    (fun x0 => hrd)
    (fun x0 => by refine ⟨?_, ?_⟩ <;> omega)
    (fun x0 => by refine ⟨?_, ?_⟩ <;> omega)
    (fun x0 => by refine ⟨?_, ?_⟩ <;> omega)
    (fun x0 x1 => k1 x1 (zB_u hB (show 0 ≤ ((m 74 16) + 1) ∧ ((m 74 16) + 1) ≤ 100 from ⟨by omega, by omega⟩)))
    (fun x0 x1 x2 => by omega)
    (fun x0 x1 x2 => hrd)
    (fun x0 x1 x2 => by refine ⟨?_, ?_⟩ <;> omega)
    (fun x0 x1 x2 => by refine ⟨?_, ?_⟩ <;> omega)
    (fun x0 x1 x2 => by refine ⟨?_, ?_⟩ <;> omega)
    (fun x0 x1 x2 x3 x4 x5 => by omega)
    (fun x0 x1 x2 x3 x4 x5 x6 => by omega)
    (fun x0 x1 x2 x3 x4 x5 x6 x7 => by omega)
    (fun x0 x1 x2 x3 x4 x5 x6 x7 x8 => by omega)
    (fun x0 x1 x2 x3 x4 x5 x6 x7 x8 x9 => by omega)
    (fun x0 x1 x2 x3 x4 x5 x6 x7 x8 x9 x10 => by omega)
    (fun x0 x1 x2 x3 x4 x5 x6 x7 x8 x9 x10 => k2 x1 x3 x4 (zB_u hB trivial))
    (fun x0 x1 x2 x3 x4 x5 x6 x7 x8 => by omega)
    (fun x0 x1 x2 x3 x4 x5 x6 x7 x8 => k3 x1 x3 x4 x5 x6 x7 (zB_u hB (show 0 ≤ ((m 74 16) + 1) ∧ ((m 74 16) + 1) ≤ 100 from ⟨by omega, by omega⟩)))
    (fun x0 x1 x2 x3 x4 x5 x6 x7 => k4 x1 x3 x4 x5 x6 x7 (zB_u hB (show 0 ≤ ((m 74 16) + 1) ∧ ((m 74 16) + 1) ≤ 100 from ⟨by omega, by omega⟩)))
    (fun x0 x1 x2 x3 x4 x5 x6 x7 x8 x9 x10 => by omega)
    (fun x0 x1 x2 x3 x4 x5 x6 x7 x8 x9 x10 => k5 x1 x3 x4 x5 x6 x7 x8)
    (fun x0 x1 x2 x3 x4 x5 x6 x7 x8 x9 x10 => k6 x1 x3 x4 x5 x6 x7 x8)
    (fun x0 x1 x2 x3 x4 x5 x6 x7 x8 x9 x10 => k7 x1 x3 x4 x5 x6 x7 x8)
    (fun x0 x1 x2 x3 x4 x5 x6 x7 x8 x9 x10 => k8 x1 x3 x4 x5 x6 x7 x8 (zB_u hB (show 0 ≤ ((m 74 16) + 1) ∧ ((m 74 16) + 1) ≤ 100 from ⟨by omega, by omega⟩)))
    (fun x0 x1 x2 x3 x4 x5 x6 x7 x8 x9 => by omega)
    (fun x0 x1 x2 x3 x4 x5 x6 x7 x8 => k9 x1 x3 x4 x5 x6 x7 x8 (zB_u hB (show 0 ≤ ((m 74 16) + 1) ∧ ((m 74 16) + 1) ≤ 100 from ⟨by omega, by omega⟩)))
    (fun x0 x1 x2 x3 x4 x5 x6 x7 x8 x9 x10 x11 x12 => by omega)
    (fun x0 x1 x2 x3 x4 x5 x6 x7 x8 x9 x10 x11 x12 => k10 x1 x3 x4 x5 x6 x7 x8 x9 (zB_u hB (show 0 ≤ ((m 74 16) + 1) ∧ ((m 74 16) + 1) ≤ 100 from ⟨by omega, by omega⟩)))
    (fun x0 x1 x2 x3 x4 x5 x6 x7 x8 x9 x10 x11 => by omega)
    (fun x0 x1 x2 x3 x4 x5 x6 x7 x8 x9 x10 => by omega)
    (fun x0 x1 x2 x3 x4 x5 x6 x7 x8 x9 => k11 x1 x3 x4 x5 x6 x7 x8 x9 (zB_u hB (show 0 ≤ ((m 74 16) + 1) ∧ ((m 74 16) + 1) ≤ 100 from ⟨by omega, by omega⟩)))
    (fun x0 x1 x2 x3 x4 x5 x6 x7 x8 x9 x10 x11 x12 x13 x14 => by omega)
    (fun x0 x1 x2 x3 x4 x5 x6 x7 x8 x9 x10 x11 x12 x13 x14 => k12 x1 x3 x4 x5 x6 x7 x8 x9 x10 (zB_u hB (show 0 ≤ ((m 74 16) + 1) ∧ ((m 74 16) + 1) ≤ 100 from ⟨by omega, by omega⟩)))
    (fun x0 x1 x2 x3 x4 x5 x6 x7 x8 x9 x10 x11 x12 x13 => by omega)
    (fun x0 x1 x2 x3 x4 x5 x6 x7 x8 x9 x10 x11 x12 => by omega)
    (fun x0 x1 x2 x3 x4 x5 x6 x7 x8 x9 x10 x11 => by omega)
    (fun x0 x1 x2 x3 x4 x5 x6 x7 x8 x9 x10 => k13 x1 x3 x4 x5 x6 x7 x8 x9 x10 (zB_u hB (show 0 ≤ ((m 74 16) + 1) ∧ ((m 74 16) + 1) ≤ 100 from ⟨by omega, by omega⟩)))
    (fun x0 x1 x2 x3 x4 x5 x6 x7 x8 x9 x10 x11 x12 x13 x14 x15 => k14 x1 x3 x4 x5 x6 x7 x8 x9 x10 x11 (zB_u hB (show 0 ≤ ((m 74 16) + 1) ∧ ((m 74 16) + 1) ≤ 100 from ⟨by omega, by omega⟩)))
    (fun x0 x1 x2 x3 x4 x5 x6 x7 x8 x9 x10 x11 x12 x13 x14 x15 => by omega)
    (fun x0 x1 x2 x3 x4 x5 x6 x7 x8 x9 x10 x11 x12 x13 x14 => by omega)
    (fun x0 x1 x2 x3 x4 x5 x6 x7 x8 x9 x10 x11 x12 x13 => by omega)
    (fun x0 x1 x2 x3 x4 x5 x6 x7 x8 x9 x10 x11 x12 => by omega)
    (fun x0 x1 x2 x3 x4 x5 x6 x7 x8 x9 x10 x11 => k15 x1 x3 x4 x5 x6 x7 x8 x9 x10 x11 (zB_u hB (show 0 ≤ ((m 74 16) + 1) ∧ ((m 74 16) + 1) ≤ 100 from ⟨by omega, by omega⟩)))
    (fun x0 x1 x2 x3 x4 x5 x6 x7 x8 x9 x10 x11 => by omega)
    (fun x0 x1 x2 x3 x4 x5 x6 x7 x8 x9 x10 x11 => k16 x1 x3 x4 x5 x6 x7 x8 x9 x10 (zB_u hB trivial))
    (fun x0 x1 x2 x3 x4 x5 => k17 x1 x3 x4 x5)
    (fun x0 x1 x2 x3 x4 x5 x6 => by omega)
    (fun x0 x1 x2 x3 x4 x5 x6 x7 => by omega)
    (fun x0 x1 x2 x3 x4 x5 x6 x7 x8 => by omega)
    (fun x0 x1 x2 x3 x4 x5 x6 x7 x8 x9 => by omega)
    (fun x0 x1 x2 x3 x4 x5 x6 x7 x8 x9 x10 => by omega)
    (fun x0 x1 x2 x3 x4 x5 x6 x7 x8 x9 x10 x11 => by omega)
    (fun x0 x1 x2 x3 x4 x5 x6 x7 x8 x9 x10 x11 => k18 x1 x3 x4 (zB_u hB trivial))
    (fun x0 x1 x2 x3 x4 x5 => by omega)
    (fun x0 x1 x2 x3 x4 => k19 x1 x3 x4 (zB_u hB (show 0 ≤ ((m 74 16) + 1) ∧ ((m 74 16) + 1) ≤ 100 from ⟨by omega, by omega⟩)))
theorem zb211_14_80r (hT : zRules T) {D : Nat} {κ : Option zA → zM → Prop} {m : zM} {v : Int} {lo : zL} (hlo : z_keep [] lo = []) 
    (o1 : κ (some (zi (wr (-v)))) m) :
    T (D + 4) 211 (14, lo, [zi v], m) κ :=
  zkeep hT hlo (hT.1 [(83, [0, 3, 4])] 6 (D + 4) 211 _ κ (o1))
theorem zb211_14_80 (hT : zRules T) {D : Nat} {κ : Option zA → zM → Prop} {m : zM} {v : Int} {lo : zL} (hlo : z_keep [] lo = [])  
    (k1 : κ (some (zi (wr (-v)))) m) :
    T (D + 4) 211 (14, lo, [zi v], m) κ := by
  have hb0 : (-2147483648) ≤ wr (-v) ∧ wr (-v) ≤ 2147483647 := wrB (-v)
  exact zb211_14_80r hT hlo
    k1
theorem zb211_58_80r (hT : zRules T) {D : Nat} {κ : Option zA → zM → Prop} {m : zM} {v : Int} {lo : zL} (hlo : z_keep [0] lo = [(0, zr 74)]) 
    (o1 : ¬ wr (m 74 17) = (-1) → False)
    (o2 : wr (m 74 17) = (-1) → (m 74 13) = 80)
    (o3 : wr (m 74 17) = (-1) → (0 ≤ (m 74 16) ∧ (m 74 16) ≤ 1000))
    (o4 : wr (m 74 17) = (-1) → (0 ≤ (m 74 14) ∧ (m 74 14) ≤ 80))
    (o5 : wr (m 74 17) = (-1) → (0 ≤ (m 74 15) ∧ (m 74 15) ≤ 80))
    (o6 : wr (m 74 17) = (-1) → wr (hrR m 80) = 41 → κ (some (zi (wr v))) (zu m 74 16 ((m 74 16) + 1)))
    (o7 : wr (m 74 17) = (-1) → ¬ wr (hrR m 80) = 41 → ¬ wr (m 74 17) = (-1) → False)
    (o8 : wr (m 74 17) = (-1) → ¬ wr (hrR m 80) = 41 → wr (m 74 17) = (-1) → κ (some (zi (wr v))) (zu m 74 17 (m 74 16))) :
    T (D + 4) 211 (58, lo, [zi v], m) κ :=
  zkeep hT hlo (hT.1 [(83, [0, 3, 4])] 6 (D + 4) 211 _ κ (hT.1 [] 6 (D + 3) 202 _ _ (hT.1 [] 6 (D + 2) 201 _ _ (hT.1 [] 6 (D + 1) 199 _ _ (And.intro (fun a1 => (o1 a1).elim) (fun a2 => (hT.1 [] 6 (D + 1) 199 (13, [(0, zr 74)], [zi 1], m) _ (And.intro (z_b01L rfl) (hT.1 [] 6 (D + 2) 201 _ _ (And.intro (fun a3 => (z_litF a3 rfl).elim) (fun _ => (z_here80 hT (o2 (Classical.byContradiction a2)) (o3 (Classical.byContradiction a2)) (o4 (Classical.byContradiction a2)) (o5 (Classical.byContradiction a2)) (hT.1 [] 6 (D + 2) 201 _ _ (And.intro (fun a4 => (hT.1 [] 6 (D + 2) 201 (23, [(0, zr 74), (1, zi 41)], [zi 1, zi (m 74 16), zr 74], m) _ (And.intro trivial (And.intro (z_b01L rfl) (hT.1 [] 6 (D + 3) 202 _ _ (And.intro (fun _ => (hT.1 [(83, [0, 3, 4])] 6 (D + 4) 211 _ _ (o6 (Classical.byContradiction a2) a4))) (fun a6 => (a6 (z_litT rfl)).elim))))))) (fun a5 => (And.intro (z_b01L rfl) (hT.1 [] 6 (D + 3) 202 _ _ (And.intro (fun a7 => (z_litF a7 rfl).elim) (fun _ => (hT.1 [] 6 (D + 2) 200 _ _ (hT.1 [] 6 (D + 1) 199 _ _ (And.intro (fun a8 => (o7 (Classical.byContradiction a2) a5 a8).elim) (fun a9 => (hT.1 [] 6 (D + 1) 199 (13, [(0, zr 74)], [zi 1], m) _ (And.intro (z_b01L rfl) (hT.1 [] 6 (D + 2) 200 _ _ (And.intro (fun a10 => (z_litF a10 rfl).elim) (fun _ => (And.intro trivial (hT.1 [] 6 (D + 3) 202 _ _ (hT.1 [(83, [0, 3, 4])] 6 (D + 4) 211 _ _ (o8 (Classical.byContradiction a2) a5 (Classical.byContradiction a9)))))))))))))))))))))))))))))))))
theorem zb211_58_80 (hT : zRules T) {D : Nat} {κ : Option zA → zM → Prop} {m : zM} {v : Int} {lo : zL} (hlo : z_keep [0] lo = [(0, zr 74)])  (hB : zB m) (hrd : m 74 13 = 80) (hf0 : (-1) ≤ m 74 17 ∧ m 74 17 ≤ (-1)) (hf1 : 0 ≤ m 74 16 ∧ m 74 16 ≤ 90) (hf2 : 0 ≤ m 74 15 ∧ m 74 15 ≤ 80) 
    (k1 : (hrR m 80) = 41 → zB (zu m 74 16 ((m 74 16) + 1)) → κ (some (zi (wr v))) (zu m 74 16 ((m 74 16) + 1)))
    (k2 : ¬ (hrR m 80) = 41 → zB (zu m 74 17 (m 74 16)) → κ (some (zi (wr v))) (zu m 74 17 (m 74 16))) :
    T (D + 4) 211 (58, lo, [zi v], m) κ := by
  have hb3 : 0 ≤ (m 74 14) ∧ (m 74 14) ≤ 80 := hB 74 14
  have hb4 : (-1) ≤ (hrR m 80) ∧ (hrR m 80) ≤ 255 := hrRB m 80
  have hb5 : (-2147483648) ≤ wr v ∧ wr v ≤ 2147483647 := wrB v
  have he0 : wr (m 74 17) = (m 74 17) := wr_id (by omega) (by omega)
  have he1 : wr (hrR m 80) = (hrR m 80) := wr_id (by omega) (by omega)
  have key := @zb211_58_80r T hT D κ m v lo hlo
  simp only [he0, he1, Int.toNat_natCast] at key
  exact key
    (fun x0 => by omega)
    (fun x0 => hrd)
    (fun x0 => by refine ⟨?_, ?_⟩ <;> omega)
    (fun x0 => by refine ⟨?_, ?_⟩ <;> omega)
    (fun x0 => by refine ⟨?_, ?_⟩ <;> omega)
    (fun x0 x1 => k1 x1 (zB_u hB (show 0 ≤ ((m 74 16) + 1) ∧ ((m 74 16) + 1) ≤ 100 from ⟨by omega, by omega⟩)))
    (fun x0 x1 x2 => by omega)
    (fun x0 x1 x2 => k2 x1 (zB_u hB trivial))
theorem zb211_58_80fr (hT : zRules T) {D : Nat} {κ : Option zA → zM → Prop} {m : zM} {v : Int} {lo : zL} (hlo : z_keep [0] lo = [(0, zr 74)]) 
    (o1 : ¬ wr (m 74 17) = (-1) → ¬ wr (m 74 17) = (-1) → κ (some (zi (wr v))) m)
    (o2 : ¬ wr (m 74 17) = (-1) → wr (m 74 17) = (-1) → False)
    (o3 : wr (m 74 17) = (-1) → False) :
    T (D + 4) 211 (58, lo, [zi v], m) κ :=
  zkeep hT hlo (hT.1 [(83, [0, 3, 4])] 6 (D + 4) 211 _ κ (hT.1 [] 6 (D + 3) 202 _ _ (hT.1 [] 6 (D + 2) 201 _ _ (hT.1 [] 6 (D + 1) 199 _ _ (And.intro (fun a1 => (And.intro (z_b01L rfl) (hT.1 [] 6 (D + 2) 201 _ _ (And.intro (fun _ => (And.intro (z_b01L rfl) (hT.1 [] 6 (D + 3) 202 _ _ (And.intro (fun a4 => (z_litF a4 rfl).elim) (fun _ => (hT.1 [] 6 (D + 2) 200 _ _ (hT.1 [] 6 (D + 1) 199 _ _ (And.intro (fun a5 => (And.intro (z_b01L rfl) (hT.1 [] 6 (D + 2) 200 _ _ (And.intro (fun _ => (hT.1 [] 6 (D + 3) 202 _ _ (hT.1 [(83, [0, 3, 4])] 6 (D + 4) 211 _ _ (o1 a1 a5)))) (fun a7 => (a7 (z_litT rfl)).elim))))) (fun a6 => (o2 a1 (Classical.byContradiction a6)).elim))))))))) (fun a3 => (a3 (z_litT rfl)).elim))))) (fun a2 => (o3 (Classical.byContradiction a2)).elim))))))
theorem zb211_58_80f (hT : zRules T) {D : Nat} {κ : Option zA → zM → Prop} {m : zM} {v : Int} {lo : zL} (hlo : z_keep [0] lo = [(0, zr 74)])  (hB : zB m) (hrd : m 74 13 = 80) (hf0 : 0 ≤ m 74 17 ∧ m 74 17 ≤ 100) 
    (k1 : κ (some (zi (wr v))) m) :
    T (D + 4) 211 (58, lo, [zi v], m) κ := by
  have hb1 : 0 ≤ (m 74 16) ∧ (m 74 16) ≤ 100 := hB 74 16
  have hb2 : (-2147483648) ≤ wr v ∧ wr v ≤ 2147483647 := wrB v
  have he0 : wr (m 74 17) = (m 74 17) := wr_id (by omega) (by omega)
  have key := @zb211_58_80fr T hT D κ m v lo hlo
  simp only [he0, Int.toNat_natCast] at key
  exact key
    (fun x0 x1 => k1 )
    (fun x0 x1 => by omega)
    (fun x0 => by omega)
theorem zb211_83_80r (hT : zRules T) {D : Nat} {κ : Option zA → zM → Prop} {m : zM} {v : Int} {k : Nat} {lo : zL} (hlo : z_keep [0, 3, 4] lo = [(0, zr 74), (3, zi v), (4, zi (k : Int))]) 
    (o1 : ¬ wr (k : Int) < 3 → κ (some (zi (wr v))) m)
    (o2 : wr (k : Int) < 3 → (m 74 13) = 80)
    (o3 : wr (k : Int) < 3 → (0 ≤ (m 74 16) ∧ (m 74 16) ≤ 1000))
    (o4 : wr (k : Int) < 3 → (0 ≤ (m 74 14) ∧ (m 74 14) ≤ 80))
    (o5 : wr (k : Int) < 3 → (0 ≤ (m 74 15) ∧ (m 74 15) ≤ 80))
    (o6 : wr (k : Int) < 3 → wr (hrR m 80) < 48 → κ (some (zi (wr v))) m)
    (o7 : wr (k : Int) < 3 → ¬ wr (hrR m 80) < 48 → 57 < wr (hrR m 80) → κ (some (zi (wr v))) m)
    (o8 : wr (k : Int) < 3 → ¬ wr (hrR m 80) < 48 → ¬ 57 < wr (hrR m 80) → ¬ wr (m 74 17) = (-1) → False)
    (o9 : wr (k : Int) < 3 → ¬ wr (hrR m 80) < 48 → ¬ 57 < wr (hrR m 80) → wr (m 74 17) = (-1) → (m 74 13) = 80)
    (o10 : wr (k : Int) < 3 → ¬ wr (hrR m 80) < 48 → ¬ 57 < wr (hrR m 80) → wr (m 74 17) = (-1) → (0 ≤ (m 74 16) ∧ (m 74 16) ≤ 1000))
    (o11 : wr (k : Int) < 3 → ¬ wr (hrR m 80) < 48 → ¬ 57 < wr (hrR m 80) → wr (m 74 17) = (-1) → (0 ≤ (m 74 14) ∧ (m 74 14) ≤ 80))
    (o12 : wr (k : Int) < 3 → ¬ wr (hrR m 80) < 48 → ¬ 57 < wr (hrR m 80) → wr (m 74 17) = (-1) → (0 ≤ (m 74 15) ∧ (m 74 15) ≤ 80))
    (o13 : wr (k : Int) < 3 → ¬ wr (hrR m 80) < 48 → ¬ 57 < wr (hrR m 80) → wr (m 74 17) = (-1) → wr (hrR m 80) < 48 → False)
    (o14 : wr (k : Int) < 3 → ¬ wr (hrR m 80) < 48 → ¬ 57 < wr (hrR m 80) → wr (m 74 17) = (-1) → ¬ wr (hrR m 80) < 48 → 57 < wr (hrR m 80) → False)
    (o15 : wr (k : Int) < 3 → ¬ wr (hrR m 80) < 48 → ¬ 57 < wr (hrR m 80) → wr (m 74 17) = (-1) → ¬ wr (hrR m 80) < 48 → ¬ 57 < wr (hrR m 80) → (m 74 13) = 80)
    (o16 : wr (k : Int) < 3 → ¬ wr (hrR m 80) < 48 → ¬ 57 < wr (hrR m 80) → wr (m 74 17) = (-1) → ¬ wr (hrR m 80) < 48 → ¬ 57 < wr (hrR m 80) → (0 ≤ wr (((m 74 16) + 1) - 1) ∧ wr (((m 74 16) + 1) - 1) < 80))
    (o17 : wr (k : Int) < 3 → ¬ wr (hrR m 80) < 48 → ¬ 57 < wr (hrR m 80) → wr (m 74 17) = (-1) → ¬ wr (hrR m 80) < 48 → ¬ 57 < wr (hrR m 80) → T (D + 4) 211 (83, [(0, zr 74), (3, zi ((10 * v) + wr ((m 80 ((wr (((m 74 16) + 1) - 1)).toNat)) - 48))), (4, zi ((k : Int) + 1))], [], (zu m 74 16 ((m 74 16) + 1))) κ) :
    T (D + 4) 211 (83, lo, [], m) κ :=
  zkeep hT hlo (hT.1 [(83, [0, 3, 4])] 6 (D + 4) 211 _ κ (And.intro (fun a1 => (o1 a1)) (fun a2 => (z_here80 hT (o2 (Classical.byContradiction a2)) (o3 (Classical.byContradiction a2)) (o4 (Classical.byContradiction a2)) (o5 (Classical.byContradiction a2)) (hT.1 [(83, [0, 3, 4])] 6 (D + 4) 211 _ _ (hT.1 [] 6 (D + 3) 186 _ _ (And.intro (fun a3 => (And.intro (z_b01L rfl) (hT.1 [(83, [0, 3, 4])] 6 (D + 4) 211 _ _ (And.intro (fun _ => (o6 (Classical.byContradiction a2) a3)) (fun a5 => (a5 (z_litT rfl)).elim))))) (fun a4 => (And.intro (fun a6 => (hT.1 [] 6 (D + 3) 186 (14, [(0, zi (hrR m 80)), (1, zi 48), (2, zi 57)], [], m) _ (And.intro (z_b01L rfl) (hT.1 [(83, [0, 3, 4])] 6 (D + 4) 211 _ _ (And.intro (fun _ => (o7 (Classical.byContradiction a2) a4 a6)) (fun a8 => (a8 (z_litT rfl)).elim)))))) (fun a7 => (hT.1 [] 6 (D + 3) 186 (10, [(0, zi (hrR m 80)), (1, zi 48), (2, zi 57)], [], m) _ (And.intro (z_b01L rfl) (hT.1 [(83, [0, 3, 4])] 6 (D + 4) 211 _ _ (And.intro (fun a9 => (z_litF a9 rfl).elim) (fun _ => (hT.1 [(83, [0, 3, 4])] 6 (D + 4) 211 (109, [(0, zr 74), (3, zi v), (4, zi (k : Int))], [zi 0, zr 74, zi (10 * v)], m) _ (hT.1 [] 6 (D + 3) 203 _ _ (hT.1 [] 6 (D + 2) 199 _ _ (And.intro (fun a10 => (o8 (Classical.byContradiction a2) a4 a7 a10).elim) (fun a11 => (hT.1 [] 6 (D + 2) 199 (13, [(0, zr 74)], [zi 1], m) _ (And.intro (z_b01L rfl) (hT.1 [] 6 (D + 3) 203 _ _ (And.intro (fun _ => (z_here80 hT (o9 (Classical.byContradiction a2) a4 a7 (Classical.byContradiction a11)) (o10 (Classical.byContradiction a2) a4 a7 (Classical.byContradiction a11)) (o11 (Classical.byContradiction a2) a4 a7 (Classical.byContradiction a11)) (o12 (Classical.byContradiction a2) a4 a7 (Classical.byContradiction a11)) (hT.1 [] 6 (D + 3) 203 _ _ (hT.1 [] 6 (D + 3) 203 (21, [(0, zr 74), (1, zi 0), (2, zi 9)], [zi 57, zi 48, zi (hrR m 80)], m) _ (hT.1 [] 6 (D + 2) 186 _ _ (And.intro (fun a13 => (o13 (Classical.byContradiction a2) a4 a7 (Classical.byContradiction a11) a13).elim) (fun a14 => (And.intro (fun a15 => (o14 (Classical.byContradiction a2) a4 a7 (Classical.byContradiction a11) a14 a15).elim) (fun a16 => (hT.1 [] 6 (D + 2) 186 (10, [(0, zi (hrR m 80)), (1, zi 48), (2, zi 57)], [], m) _ (And.intro (z_b01L rfl) (hT.1 [] 6 (D + 3) 203 _ _ (And.intro (fun _ => (hT.1 [] 6 (D + 3) 203 (44, [(0, zr 74), (1, zi 0), (2, zi 9)], [zi ((m 74 16) + 1), zr 74], m) _ (And.intro trivial (And.intro (Or.inl (o15 (Classical.byContradiction a2) a4 a7 (Classical.byContradiction a11) a14 a16)) (And.intro (fun _ => (hT.1 [] 6 (D + 3) 203 (56, [(0, zr 74), (1, zi 0), (2, zi 9)], [zi 1, zi ((m 74 16) + 1), zr 80], (zu m 74 16 ((m 74 16) + 1))) _ (And.intro (o16 (Classical.byContradiction a2) a4 a7 (Classical.byContradiction a11) a14 a16) (hT.1 [(83, [0, 3, 4])] 6 (D + 4) 211 _ _ (o17 (Classical.byContradiction a2) a4 a7 (Classical.byContradiction a11) a14 a16))))) (fun a18 => (z_n8086 (o15 (Classical.byContradiction a2) a4 a7 (Classical.byContradiction a11) a14 a16) a18).elim)))))) (fun a17 => (a17 (z_litT rfl)).elim)))))))))))))) (fun a12 => (a12 (z_litT rfl)).elim)))))))))))))))))))))))))
theorem zb211_83_80 (hT : zRules T) {D : Nat} {κ : Option zA → zM → Prop} {m : zM} {v : Int} {k : Nat} {lo : zL} (hlo : z_keep [0, 3, 4] lo = [(0, zr 74), (3, zi v), (4, zi (k : Int))])  (hB : zB m) (hrd : m 74 13 = 80) (h_v : 0 ≤ v ∧ v ≤ 1000) (h_k : k ≤ 3) (hf0 : (-1) ≤ m 74 17 ∧ m 74 17 ≤ (-1)) (hf1 : 0 ≤ m 74 16 ∧ m 74 16 ≤ 90) (hf2 : 0 ≤ m 74 15 ∧ m 74 15 ≤ 80) 
    (k1 : ¬ (k : Int) < 3 → κ (some (zi v)) m)
    (k2 : (k : Int) < 3 → (hrR m 80) < 48 → κ (some (zi v)) m)
    (k3 : (k : Int) < 3 → ¬ (hrR m 80) < 48 → 57 < (hrR m 80) → κ (some (zi v)) m)
    (k4 : (k : Int) < 3 → ¬ (hrR m 80) < 48 → ¬ 57 < (hrR m 80) → (0 ≤ (((m 74 16) + 1) - 1) ∧ (((m 74 16) + 1) - 1) < 80))
    (k5 : (k : Int) < 3 → ¬ (hrR m 80) < 48 → ¬ 57 < (hrR m 80) → zB (zu m 74 16 ((m 74 16) + 1)) → T (D + 4) 211 (83, [(0, zr 74), (3, zi ((10 * v) + ((m 80 ((((m 74 16) + 1) - 1).toNat)) - 48))), (4, zi ((k : Int) + 1))], [], (zu m 74 16 ((m 74 16) + 1))) κ) :
    T (D + 4) 211 (83, lo, [], m) κ := by
  have hb5 : 0 ≤ (m 74 14) ∧ (m 74 14) ≤ 80 := hB 74 14
  have hb6 : (-1) ≤ (hrR m 80) ∧ (hrR m 80) ≤ 255 := hrRB m 80
  have hb7 : (-128) ≤ (m 80 ((((m 74 16) + 1) - 1).toNat)) ∧ (m 80 ((((m 74 16) + 1) - 1).toNat)) ≤ 127 := hB 80 ((((m 74 16) + 1) - 1).toNat)
  have he0 : wr (k : Int) = (k : Int) := wr_id (by omega) (by omega)
  have he1 : wr (hrR m 80) = (hrR m 80) := wr_id (by omega) (by omega)
  have he2 : wr v = v := wr_id (by omega) (by omega)
  have he3 : wr (m 74 17) = (m 74 17) := wr_id (by omega) (by omega)
  have he4 : wr (((m 74 16) + 1) - 1) = (((m 74 16) + 1) - 1) := wr_id (by omega) (by omega)
  have he5 : wr ((m 80 ((((m 74 16) + 1) - 1).toNat)) - 48) = ((m 80 ((((m 74 16) + 1) - 1).toNat)) - 48) := wr_id (by omega) (by omega)
  have key := @zb211_83_80r T hT D κ m v k lo hlo
  simp only [he0, he1, he2, he3, he4, he5, Int.toNat_natCast] at key
  exact key
    k1
    (fun x0 => hrd)
    (fun x0 => by refine ⟨?_, ?_⟩ <;> omega)
    (fun x0 => by refine ⟨?_, ?_⟩ <;> omega)
    (fun x0 => by refine ⟨?_, ?_⟩ <;> omega)
    k2
    k3
    (fun x0 x1 x2 x3 => by omega)
    (fun x0 x1 x2 x3 => hrd)
    (fun x0 x1 x2 x3 => by refine ⟨?_, ?_⟩ <;> omega)
    (fun x0 x1 x2 x3 => by refine ⟨?_, ?_⟩ <;> omega)
    (fun x0 x1 x2 x3 => by refine ⟨?_, ?_⟩ <;> omega)
    (fun x0 x1 x2 x3 x4 => by omega)
    (fun x0 x1 x2 x3 x4 x5 => by omega)
    (fun x0 x1 x2 x3 x4 x5 => hrd)
    (fun x0 x1 x2 x3 x4 x5 => k4 x0 x1 x2)
    (fun x0 x1 x2 x3 x4 x5 => k5 x0 x1 x2 (zB_u hB (show 0 ≤ ((m 74 16) + 1) ∧ ((m 74 16) + 1) ≤ 100 from ⟨by omega, by omega⟩)))
theorem zb208_0_86r (hT : zRules T) {D : Nat} {κ : Option zA → zM → Prop} {m : zM} {d : Nat} 
    (o1 : T (D + 3) 209 (0, [(0, zr 74), (1, zi (d : Int))], [], m) (fun r m1 => T (D + 4) 208 (5, [(0, zr 74), (1, zi (d : Int))], r.toList ++ [], m1) κ)) :
    T (D + 4) 208 (0, [(0, zr 74), (1, zi (d : Int))], [], m) κ :=
  hT.1 [] 6 (D + 4) 208 _ κ (o1)
theorem zb208_0_86 (hT : zRules T) {D : Nat} {κ : Option zA → zM → Prop} {m : zM} {d : Nat}  (hB : zB m) (hrd : m 74 13 = 86) (h_d : d ≤ 4) (hf0 : (-1) ≤ m 74 17 ∧ m 74 17 ≤ (-1)) (hf1 : 0 ≤ m 74 16 ∧ m 74 16 ≤ 90) (hf2 : 0 ≤ m 74 15 ∧ m 74 15 ≤ 40) 
    (k1 : T (D + 3) 209 (0, [(0, zr 74), (1, zi (d : Int))], [], m) (fun r m1 => T (D + 4) 208 (5, [(0, zr 74), (1, zi (d : Int))], r.toList ++ [], m1) κ)) :
    T (D + 4) 208 (0, [(0, zr 74), (1, zi (d : Int))], [], m) κ := by
  exact zb208_0_86r hT
    k1
theorem zb208_5_86r (hT : zRules T) {D : Nat} {κ : Option zA → zM → Prop} {m : zM} {d : Nat} {v : Int} {lo : zL} (hlo : z_keep [0, 1] lo = [(0, zr 74), (1, zi (d : Int))]) 
    (o1 : ¬ wr (m 74 17) = (-1) → False)
    (o2 : wr (m 74 17) = (-1) → (m 74 13) = 86)
    (o3 : wr (m 74 17) = (-1) → (0 ≤ (m 74 16) ∧ (m 74 16) ≤ 1000))
    (o4 : wr (m 74 17) = (-1) → (0 ≤ (m 74 14) ∧ (m 74 14) ≤ 80))
    (o5 : wr (m 74 17) = (-1) → (0 ≤ (m 74 15) ∧ (m 74 15) ≤ 40))
    (o6 : wr (m 74 17) = (-1) → wr (hrR m 86) = 60 → T (D + 3) 209 (0, [(0, zr 74), (1, zi (d : Int))], [], (zu m 74 16 ((m 74 16) + 1))) (fun r m1 => T (D + 4) 208 (21, [(0, zr 74), (1, zi (d : Int)), (2, zi v)], r.toList ++ [zi v], m1) κ))
    (o7 : wr (m 74 17) = (-1) → ¬ wr (hrR m 86) = 60 → ¬ wr (m 74 17) = (-1) → False)
    (o8 : wr (m 74 17) = (-1) → ¬ wr (hrR m 86) = 60 → wr (m 74 17) = (-1) → (m 74 13) = 86)
    (o9 : wr (m 74 17) = (-1) → ¬ wr (hrR m 86) = 60 → wr (m 74 17) = (-1) → (0 ≤ (m 74 16) ∧ (m 74 16) ≤ 1000))
    (o10 : wr (m 74 17) = (-1) → ¬ wr (hrR m 86) = 60 → wr (m 74 17) = (-1) → (0 ≤ (m 74 14) ∧ (m 74 14) ≤ 80))
    (o11 : wr (m 74 17) = (-1) → ¬ wr (hrR m 86) = 60 → wr (m 74 17) = (-1) → (0 ≤ (m 74 15) ∧ (m 74 15) ≤ 40))
    (o12 : wr (m 74 17) = (-1) → ¬ wr (hrR m 86) = 60 → wr (m 74 17) = (-1) → wr (hrR m 86) = 62 → T (D + 3) 209 (0, [(0, zr 74), (1, zi (d : Int))], [], (zu m 74 16 ((m 74 16) + 1))) (fun r m1 => T (D + 4) 208 (45, [(0, zr 74), (1, zi (d : Int)), (2, zi v)], r.toList ++ [zi v], m1) κ))
    (o13 : wr (m 74 17) = (-1) → ¬ wr (hrR m 86) = 60 → wr (m 74 17) = (-1) → ¬ wr (hrR m 86) = 62 → ¬ wr (m 74 17) = (-1) → False)
    (o14 : wr (m 74 17) = (-1) → ¬ wr (hrR m 86) = 60 → wr (m 74 17) = (-1) → ¬ wr (hrR m 86) = 62 → wr (m 74 17) = (-1) → (m 74 13) = 86)
    (o15 : wr (m 74 17) = (-1) → ¬ wr (hrR m 86) = 60 → wr (m 74 17) = (-1) → ¬ wr (hrR m 86) = 62 → wr (m 74 17) = (-1) → (0 ≤ (m 74 16) ∧ (m 74 16) ≤ 1000))
    (o16 : wr (m 74 17) = (-1) → ¬ wr (hrR m 86) = 60 → wr (m 74 17) = (-1) → ¬ wr (hrR m 86) = 62 → wr (m 74 17) = (-1) → (0 ≤ (m 74 14) ∧ (m 74 14) ≤ 80))
    (o17 : wr (m 74 17) = (-1) → ¬ wr (hrR m 86) = 60 → wr (m 74 17) = (-1) → ¬ wr (hrR m 86) = 62 → wr (m 74 17) = (-1) → (0 ≤ (m 74 15) ∧ (m 74 15) ≤ 40))
    (o18 : wr (m 74 17) = (-1) → ¬ wr (hrR m 86) = 60 → wr (m 74 17) = (-1) → ¬ wr (hrR m 86) = 62 → wr (m 74 17) = (-1) → wr (hrR m 86) = 61 → T (D + 3) 209 (0, [(0, zr 74), (1, zi (d : Int))], [], (zu m 74 16 ((m 74 16) + 1))) (fun r m1 => T (D + 4) 208 (69, [(0, zr 74), (1, zi (d : Int)), (2, zi v)], r.toList ++ [zi v], m1) κ))
    (o19 : wr (m 74 17) = (-1) → ¬ wr (hrR m 86) = 60 → wr (m 74 17) = (-1) → ¬ wr (hrR m 86) = 62 → wr (m 74 17) = (-1) → ¬ wr (hrR m 86) = 61 → κ (some (zi (wr v))) m) :
    T (D + 4) 208 (5, lo, [zi v], m) κ :=
  zkeep hT hlo (hT.1 [] 6 (D + 4) 208 _ κ (hT.1 [] 6 (D + 3) 201 _ _ (hT.1 [] 6 (D + 2) 199 _ _ (And.intro (fun a1 => (o1 a1).elim) (fun a2 => (hT.1 [] 6 (D + 2) 199 (13, [(0, zr 74)], [zi 1], m) _ (And.intro (z_b01L rfl) (hT.1 [] 6 (D + 3) 201 _ _ (And.intro (fun a3 => (z_litF a3 rfl).elim) (fun _ => (z_here86 hT (o2 (Classical.byContradiction a2)) (o3 (Classical.byContradiction a2)) (o4 (Classical.byContradiction a2)) (o5 (Classical.byContradiction a2)) (hT.1 [] 6 (D + 3) 201 _ _ (And.intro (fun a4 => (hT.1 [] 6 (D + 3) 201 (23, [(0, zr 74), (1, zi 60)], [zi 1, zi (m 74 16), zr 74], m) _ (And.intro trivial (And.intro (z_b01L rfl) (hT.1 [] 6 (D + 4) 208 _ _ (And.intro (fun a6 => (z_litF a6 rfl).elim) (fun _ => (o6 (Classical.byContradiction a2) a4)))))))) (fun a5 => (And.intro (z_b01L rfl) (hT.1 [] 6 (D + 4) 208 _ _ (And.intro (fun _ => (hT.1 [] 6 (D + 3) 201 _ _ (hT.1 [] 6 (D + 2) 199 _ _ (And.intro (fun a8 => (o7 (Classical.byContradiction a2) a5 a8).elim) (fun a9 => (hT.1 [] 6 (D + 2) 199 (13, [(0, zr 74)], [zi 1], m) _ (And.intro (z_b01L rfl) (hT.1 [] 6 (D + 3) 201 _ _ (And.intro (fun a10 => (z_litF a10 rfl).elim) (fun _ => (z_here86 hT (o8 (Classical.byContradiction a2) a5 (Classical.byContradiction a9)) (o9 (Classical.byContradiction a2) a5 (Classical.byContradiction a9)) (o10 (Classical.byContradiction a2) a5 (Classical.byContradiction a9)) (o11 (Classical.byContradiction a2) a5 (Classical.byContradiction a9)) (hT.1 [] 6 (D + 3) 201 _ _ (And.intro (fun a11 => (hT.1 [] 6 (D + 3) 201 (23, [(0, zr 74), (1, zi 62)], [zi 1, zi (m 74 16), zr 74], m) _ (And.intro trivial (And.intro (z_b01L rfl) (hT.1 [] 6 (D + 4) 208 _ _ (And.intro (fun a13 => (z_litF a13 rfl).elim) (fun _ => (o12 (Classical.byContradiction a2) a5 (Classical.byContradiction a9) a11)))))))) (fun a12 => (And.intro (z_b01L rfl) (hT.1 [] 6 (D + 4) 208 _ _ (And.intro (fun _ => (hT.1 [] 6 (D + 3) 201 _ _ (hT.1 [] 6 (D + 2) 199 _ _ (And.intro (fun a15 => (o13 (Classical.byContradiction a2) a5 (Classical.byContradiction a9) a12 a15).elim) (fun a16 => (hT.1 [] 6 (D + 2) 199 (13, [(0, zr 74)], [zi 1], m) _ (And.intro (z_b01L rfl) (hT.1 [] 6 (D + 3) 201 _ _ (And.intro (fun a17 => (z_litF a17 rfl).elim) (fun _ => (z_here86 hT (o14 (Classical.byContradiction a2) a5 (Classical.byContradiction a9) a12 (Classical.byContradiction a16)) (o15 (Classical.byContradiction a2) a5 (Classical.byContradiction a9) a12 (Classical.byContradiction a16)) (o16 (Classical.byContradiction a2) a5 (Classical.byContradiction a9) a12 (Classical.byContradiction a16)) (o17 (Classical.byContradiction a2) a5 (Classical.byContradiction a9) a12 (Classical.byContradiction a16)) (hT.1 [] 6 (D + 3) 201 _ _ (And.intro (fun a18 => (hT.1 [] 6 (D + 3) 201 (23, [(0, zr 74), (1, zi 61)], [zi 1, zi (m 74 16), zr 74], m) _ (And.intro trivial (And.intro (z_b01L rfl) (hT.1 [] 6 (D + 4) 208 _ _ (And.intro (fun a20 => (z_litF a20 rfl).elim) (fun _ => (o18 (Classical.byContradiction a2) a5 (Classical.byContradiction a9) a12 (Classical.byContradiction a16) a18)))))))) (fun a19 => (And.intro (z_b01L rfl) (hT.1 [] 6 (D + 4) 208 _ _ (And.intro (fun _ => (o19 (Classical.byContradiction a2) a5 (Classical.byContradiction a9) a12 (Classical.byContradiction a16) a19)) (fun a21 => (a21 (z_litT rfl)).elim)))))))))))))))))) (fun a14 => (a14 (z_litT rfl)).elim)))))))))))))))))) (fun a7 => (a7 (z_litT rfl)).elim))))))))))))))))))
theorem zb208_5_86 (hT : zRules T) {D : Nat} {κ : Option zA → zM → Prop} {m : zM} {d : Nat} {v : Int} {lo : zL} (hlo : z_keep [0, 1] lo = [(0, zr 74), (1, zi (d : Int))])  (hB : zB m) (hrd : m 74 13 = 86) (h_d : d ≤ 4) (h_v : (-2147483648) ≤ v ∧ v ≤ 2147483647) (hf0 : (-1) ≤ m 74 17 ∧ m 74 17 ≤ (-1)) (hf1 : 0 ≤ m 74 16 ∧ m 74 16 ≤ 90) (hf2 : 0 ≤ m 74 15 ∧ m 74 15 ≤ 40) 
    (k1 : (hrR m 86) = 60 → zB (zu m 74 16 ((m 74 16) + 1)) → T (D + 3) 209 (0, [(0, zr 74), (1, zi (d : Int))], [], (zu m 74 16 ((m 74 16) + 1))) (fun r m1 => T (D + 4) 208 (21, [(0, zr 74), (1, zi (d : Int)), (2, zi v)], r.toList ++ [zi v], m1) κ))
    (k2 : ¬ (hrR m 86) = 60 → (hrR m 86) = 62 → zB (zu m 74 16 ((m 74 16) + 1)) → T (D + 3) 209 (0, [(0, zr 74), (1, zi (d : Int))], [], (zu m 74 16 ((m 74 16) + 1))) (fun r m1 => T (D + 4) 208 (45, [(0, zr 74), (1, zi (d : Int)), (2, zi v)], r.toList ++ [zi v], m1) κ))
    (k3 : ¬ (hrR m 86) = 60 → ¬ (hrR m 86) = 62 → (hrR m 86) = 61 → zB (zu m 74 16 ((m 74 16) + 1)) → T (D + 3) 209 (0, [(0, zr 74), (1, zi (d : Int))], [], (zu m 74 16 ((m 74 16) + 1))) (fun r m1 => T (D + 4) 208 (69, [(0, zr 74), (1, zi (d : Int)), (2, zi v)], r.toList ++ [zi v], m1) κ))
    (k4 : ¬ (hrR m 86) = 60 → ¬ (hrR m 86) = 62 → ¬ (hrR m 86) = 61 → κ (some (zi v)) m) :
    T (D + 4) 208 (5, lo, [zi v], m) κ := by
  have hb5 : 0 ≤ (m 74 14) ∧ (m 74 14) ≤ 80 := hB 74 14
  have hb6 : (-1) ≤ (hrR m 86) ∧ (hrR m 86) ≤ 255 := hrRB m 86
  have he0 : wr (m 74 17) = (m 74 17) := wr_id (by omega) (by omega)
  have he1 : wr (hrR m 86) = (hrR m 86) := wr_id (by omega) (by omega)
  have he2 : wr v = v := wr_id (by omega) (by omega)
  have key := @zb208_5_86r T hT D κ m d v lo hlo
  simp only [he0, he1, he2, Int.toNat_natCast] at key
  exact key
    (fun x0 => by omega)
    (fun x0 => hrd)
    (fun x0 => by refine ⟨?_, ?_⟩ <;> omega)
    (fun x0 => by refine ⟨?_, ?_⟩ <;> omega)
    (fun x0 => by refine ⟨?_, ?_⟩ <;> omega)
    (fun x0 x1 => k1 x1 (zB_u hB (show 0 ≤ ((m 74 16) + 1) ∧ ((m 74 16) + 1) ≤ 100 from ⟨by omega, by omega⟩)))
    (fun x0 x1 x2 => by omega)
    (fun x0 x1 x2 => hrd)
    (fun x0 x1 x2 => by refine ⟨?_, ?_⟩ <;> omega)
    (fun x0 x1 x2 => by refine ⟨?_, ?_⟩ <;> omega)
    (fun x0 x1 x2 => by refine ⟨?_, ?_⟩ <;> omega)
    (fun x0 x1 x2 x3 => k2 x1 x3 (zB_u hB (show 0 ≤ ((m 74 16) + 1) ∧ ((m 74 16) + 1) ≤ 100 from ⟨by omega, by omega⟩)))
    (fun x0 x1 x2 x3 x4 => by omega)
    (fun x0 x1 x2 x3 x4 => hrd)
    (fun x0 x1 x2 x3 x4 => by refine ⟨?_, ?_⟩ <;> omega)
    (fun x0 x1 x2 x3 x4 => by refine ⟨?_, ?_⟩ <;> omega)
    (fun x0 x1 x2 x3 x4 => by refine ⟨?_, ?_⟩ <;> omega)
    (fun x0 x1 x2 x3 x4 x5 => k3 x1 x3 x5 (zB_u hB (show 0 ≤ ((m 74 16) + 1) ∧ ((m 74 16) + 1) ≤ 100 from ⟨by omega, by omega⟩)))
    (fun x0 x1 x2 x3 x4 x5 => k4 x1 x3 x5)
theorem zb208_5_86fr (hT : zRules T) {D : Nat} {κ : Option zA → zM → Prop} {m : zM} {d : Nat} {v : Int} {lo : zL} (hlo : z_keep [0, 1] lo = [(0, zr 74), (1, zi (d : Int))]) 
    (o1 : ¬ wr (m 74 17) = (-1) → ¬ wr (m 74 17) = (-1) → ¬ wr (m 74 17) = (-1) → κ (some (zi (wr v))) m)
    (o2 : ¬ wr (m 74 17) = (-1) → ¬ wr (m 74 17) = (-1) → wr (m 74 17) = (-1) → False)
    (o3 : ¬ wr (m 74 17) = (-1) → wr (m 74 17) = (-1) → False)
    (o4 : wr (m 74 17) = (-1) → False) :
    T (D + 4) 208 (5, lo, [zi v], m) κ :=
  zkeep hT hlo (hT.1 [] 6 (D + 4) 208 _ κ (hT.1 [] 6 (D + 3) 201 _ _ (hT.1 [] 6 (D + 2) 199 _ _ (And.intro (fun a1 => (And.intro (z_b01L rfl) (hT.1 [] 6 (D + 3) 201 _ _ (And.intro (fun _ => (And.intro (z_b01L rfl) (hT.1 [] 6 (D + 4) 208 _ _ (And.intro (fun _ => (hT.1 [] 6 (D + 3) 201 _ _ (hT.1 [] 6 (D + 2) 199 _ _ (And.intro (fun a5 => (And.intro (z_b01L rfl) (hT.1 [] 6 (D + 3) 201 _ _ (And.intro (fun _ => (And.intro (z_b01L rfl) (hT.1 [] 6 (D + 4) 208 _ _ (And.intro (fun _ => (hT.1 [] 6 (D + 3) 201 _ _ (hT.1 [] 6 (D + 2) 199 _ _ (And.intro (fun a9 => (And.intro (z_b01L rfl) (hT.1 [] 6 (D + 3) 201 _ _ (And.intro (fun _ => (And.intro (z_b01L rfl) (hT.1 [] 6 (D + 4) 208 _ _ (And.intro (fun _ => (o1 a1 a5 a9)) (fun a12 => (a12 (z_litT rfl)).elim))))) (fun a11 => (a11 (z_litT rfl)).elim))))) (fun a10 => (o2 a1 a5 (Classical.byContradiction a10)).elim))))) (fun a8 => (a8 (z_litT rfl)).elim))))) (fun a7 => (a7 (z_litT rfl)).elim))))) (fun a6 => (o3 a1 (Classical.byContradiction a6)).elim))))) (fun a4 => (a4 (z_litT rfl)).elim))))) (fun a3 => (a3 (z_litT rfl)).elim))))) (fun a2 => (o4 (Classical.byContradiction a2)).elim)))))
theorem zb208_5_86f (hT : zRules T) {D : Nat} {κ : Option zA → zM → Prop} {m : zM} {d : Nat} {v : Int} {lo : zL} (hlo : z_keep [0, 1] lo = [(0, zr 74), (1, zi (d : Int))])  (hB : zB m) (hrd : m 74 13 = 86) (h_d : d ≤ 4) (h_v : (-2147483648) ≤ v ∧ v ≤ 2147483647) (hf0 : 0 ≤ m 74 17 ∧ m 74 17 ≤ 100) 
    (k1 : κ (some (zi v)) m) :
    T (D + 4) 208 (5, lo, [zi v], m) κ := by
  have he0 : wr (m 74 17) = (m 74 17) := wr_id (by omega) (by omega)
  have he1 : wr v = v := wr_id (by omega) (by omega)
  have key := @zb208_5_86fr T hT D κ m d v lo hlo
  simp only [he0, he1, Int.toNat_natCast] at key
  exact key
    (fun x0 x1 x2 => k1 )
    (fun x0 x1 x2 => by omega)
    (fun x0 x1 => by omega)
    (fun x0 => by omega)
theorem zb208_21_86r (hT : zRules T) {D : Nat} {κ : Option zA → zM → Prop} {m : zM} {v : Int} {w : Int} {lo : zL} (hlo : z_keep [] lo = []) 
    (o1 : ¬ wr v < wr w → κ (some (zi 0)) m)
    (o2 : wr v < wr w → κ (some (zi 1)) m) :
    T (D + 4) 208 (21, lo, [zi w, zi v], m) κ :=
  zkeep hT hlo (hT.1 [] 6 (D + 4) 208 _ κ (And.intro (fun a1 => (o1 a1)) (fun a2 => (o2 (Classical.byContradiction a2)))))
theorem zb208_21_86 (hT : zRules T) {D : Nat} {κ : Option zA → zM → Prop} {m : zM} {v : Int} {w : Int} {lo : zL} (hlo : z_keep [] lo = [])  (h_v : (-2147483648) ≤ v ∧ v ≤ 2147483647) (h_w : (-2147483648) ≤ w ∧ w ≤ 2147483647) 
    (k1 : ¬ v < w → κ (some (zi 0)) m)
    (k2 : v < w → κ (some (zi 1)) m) :
    T (D + 4) 208 (21, lo, [zi w, zi v], m) κ := by
  have he0 : wr v = v := wr_id (by omega) (by omega)
  have he1 : wr w = w := wr_id (by omega) (by omega)
  have key := @zb208_21_86r T hT D κ m v w lo hlo
  simp only [he0, he1, Int.toNat_natCast] at key
  exact key
    k1
    k2
theorem zb208_45_86r (hT : zRules T) {D : Nat} {κ : Option zA → zM → Prop} {m : zM} {v : Int} {w : Int} {lo : zL} (hlo : z_keep [] lo = []) 
    (o1 : ¬ wr w < wr v → κ (some (zi 0)) m)
    (o2 : wr w < wr v → κ (some (zi 1)) m) :
    T (D + 4) 208 (45, lo, [zi w, zi v], m) κ :=
  zkeep hT hlo (hT.1 [] 6 (D + 4) 208 _ κ (And.intro (fun a1 => (o1 a1)) (fun a2 => (o2 (Classical.byContradiction a2)))))
theorem zb208_45_86 (hT : zRules T) {D : Nat} {κ : Option zA → zM → Prop} {m : zM} {v : Int} {w : Int} {lo : zL} (hlo : z_keep [] lo = [])  (h_v : (-2147483648) ≤ v ∧ v ≤ 2147483647) (h_w : (-2147483648) ≤ w ∧ w ≤ 2147483647) 
    (k1 : ¬ w < v → κ (some (zi 0)) m)
    (k2 : w < v → κ (some (zi 1)) m) :
    T (D + 4) 208 (45, lo, [zi w, zi v], m) κ := by
  have he0 : wr w = w := wr_id (by omega) (by omega)
  have he1 : wr v = v := wr_id (by omega) (by omega)
  have key := @zb208_45_86r T hT D κ m v w lo hlo
  simp only [he0, he1, Int.toNat_natCast] at key
  exact key
    k1
    k2
theorem zb208_69_86r (hT : zRules T) {D : Nat} {κ : Option zA → zM → Prop} {m : zM} {v : Int} {w : Int} {lo : zL} (hlo : z_keep [] lo = []) 
    (o1 : ¬ wr v = wr w → κ (some (zi 0)) m)
    (o2 : wr v = wr w → κ (some (zi 1)) m) :
    T (D + 4) 208 (69, lo, [zi w, zi v], m) κ :=
  zkeep hT hlo (hT.1 [] 6 (D + 4) 208 _ κ (And.intro (fun a1 => (o1 a1)) (fun a2 => (o2 (Classical.byContradiction a2)))))
theorem zb208_69_86 (hT : zRules T) {D : Nat} {κ : Option zA → zM → Prop} {m : zM} {v : Int} {w : Int} {lo : zL} (hlo : z_keep [] lo = [])  (h_v : (-2147483648) ≤ v ∧ v ≤ 2147483647) (h_w : (-2147483648) ≤ w ∧ w ≤ 2147483647) 
    (k1 : ¬ v = w → κ (some (zi 0)) m)
    (k2 : v = w → κ (some (zi 1)) m) :
    T (D + 4) 208 (69, lo, [zi w, zi v], m) κ := by
  have he0 : wr v = v := wr_id (by omega) (by omega)
  have he1 : wr w = w := wr_id (by omega) (by omega)
  have key := @zb208_69_86r T hT D κ m v w lo hlo
  simp only [he0, he1, Int.toNat_natCast] at key
  exact key
    k1
    k2
theorem zb209_0_86r (hT : zRules T) {D : Nat} {κ : Option zA → zM → Prop} {m : zM} {d : Nat} 
    (o1 : T (D + 3) 210 (0, [(0, zr 74), (1, zi (d : Int))], [], m) (fun r m1 => T (D + 4) 209 (5, [(0, zr 74), (1, zi (d : Int))], r.toList ++ [], m1) κ)) :
    T (D + 4) 209 (0, [(0, zr 74), (1, zi (d : Int))], [], m) κ :=
  hT.1 [(6, [0, 1, 2])] 6 (D + 4) 209 _ κ (o1)
theorem zb209_0_86 (hT : zRules T) {D : Nat} {κ : Option zA → zM → Prop} {m : zM} {d : Nat}  (hB : zB m) (hrd : m 74 13 = 86) (h_d : d ≤ 4) (hf0 : (-1) ≤ m 74 17 ∧ m 74 17 ≤ (-1)) (hf1 : 0 ≤ m 74 16 ∧ m 74 16 ≤ 90) (hf2 : 0 ≤ m 74 15 ∧ m 74 15 ≤ 40) 
    (k1 : T (D + 3) 210 (0, [(0, zr 74), (1, zi (d : Int))], [], m) (fun r m1 => T (D + 4) 209 (5, [(0, zr 74), (1, zi (d : Int))], r.toList ++ [], m1) κ)) :
    T (D + 4) 209 (0, [(0, zr 74), (1, zi (d : Int))], [], m) κ := by
  exact zb209_0_86r hT
    k1
theorem zb209_5_86r (hT : zRules T) {D : Nat} {κ : Option zA → zM → Prop} {m : zM} {d : Nat} {v : Int} {lo : zL} (hlo : z_keep [0, 1] lo = [(0, zr 74), (1, zi (d : Int))]) 
    (o1 : T (D + 4) 209 (6, [(0, zr 74), (1, zi (d : Int)), (2, zi v)], [], m) κ) :
    T (D + 4) 209 (5, lo, [zi v], m) κ :=
  zkeep hT hlo (hT.1 [(6, [0, 1, 2])] 6 (D + 4) 209 _ κ (o1))
theorem zb209_5_86 (hT : zRules T) {D : Nat} {κ : Option zA → zM → Prop} {m : zM} {d : Nat} {v : Int} {lo : zL} (hlo : z_keep [0, 1] lo = [(0, zr 74), (1, zi (d : Int))])  (h_d : d ≤ 4) 
    (k1 : T (D + 4) 209 (6, [(0, zr 74), (1, zi (d : Int)), (2, zi v)], [], m) κ) :
    T (D + 4) 209 (5, lo, [zi v], m) κ := by
  exact zb209_5_86r hT hlo
    k1
theorem zb209_61_86r (hT : zRules T) {D : Nat} {κ : Option zA → zM → Prop} {m : zM} {d : Nat} {v : Int} {w : Int} {pl : Int} {lo : zL} (hlo : z_keep [0, 1, 2, 3] lo = [(0, zr 74), (1, zi (d : Int)), (2, zi v), (3, zi pl)]) 
    (o1 : wr pl = 0 → T (D + 4) 209 (6, [(0, zr 74), (1, zi (d : Int)), (2, zi (v - w))], [], m) κ)
    (o2 : ¬ wr pl = 0 → T (D + 4) 209 (6, [(0, zr 74), (1, zi (d : Int)), (2, zi (v + w))], [], m) κ) :
    T (D + 4) 209 (61, lo, [zi w], m) κ :=
  zkeep hT hlo (hT.1 [(6, [0, 1, 2])] 6 (D + 4) 209 _ κ (And.intro (fun a1 => (hT.1 [(6, [0, 1, 2])] 6 (D + 4) 209 (78, [(0, zr 74), (1, zi (d : Int)), (2, zi v), (3, zi pl), (4, zi w)], [zi (v - w)], m) _ (o1 a1))) (fun a2 => (hT.1 [(6, [0, 1, 2])] 6 (D + 4) 209 (71, [(0, zr 74), (1, zi (d : Int)), (2, zi v), (3, zi pl), (4, zi w)], [zi (v + w)], m) _ (o2 a2)))))
theorem zb209_61_86 (hT : zRules T) {D : Nat} {κ : Option zA → zM → Prop} {m : zM} {d : Nat} {v : Int} {w : Int} {pl : Int} {lo : zL} (hlo : z_keep [0, 1, 2, 3] lo = [(0, zr 74), (1, zi (d : Int)), (2, zi v), (3, zi pl)])  (h_d : d ≤ 4) (h_pl : 0 ≤ pl ∧ pl ≤ 1) 
    (k1 : pl = 0 → T (D + 4) 209 (6, [(0, zr 74), (1, zi (d : Int)), (2, zi (v - w))], [], m) κ)
    (k2 : ¬ pl = 0 → T (D + 4) 209 (6, [(0, zr 74), (1, zi (d : Int)), (2, zi (v + w))], [], m) κ) :
    T (D + 4) 209 (61, lo, [zi w], m) κ := by
  have he0 : wr pl = pl := wr_id (by omega) (by omega)
  have key := @zb209_61_86r T hT D κ m d v w pl lo hlo
  simp only [he0, Int.toNat_natCast] at key
  exact key
    k1
    k2
theorem zb209_6_86r (hT : zRules T) {D : Nat} {κ : Option zA → zM → Prop} {m : zM} {d : Nat} {v : Int} {lo : zL} (hlo : z_keep [0, 1, 2] lo = [(0, zr 74), (1, zi (d : Int)), (2, zi v)]) 
    (o1 : ¬ wr (m 74 17) = (-1) → False)
    (o2 : wr (m 74 17) = (-1) → (m 74 13) = 86)
    (o3 : wr (m 74 17) = (-1) → (0 ≤ (m 74 16) ∧ (m 74 16) ≤ 1000))
    (o4 : wr (m 74 17) = (-1) → (0 ≤ (m 74 14) ∧ (m 74 14) ≤ 80))
    (o5 : wr (m 74 17) = (-1) → (0 ≤ (m 74 15) ∧ (m 74 15) ≤ 40))
    (o6 : wr (m 74 17) = (-1) → wr (hrR m 86) = 43 → (m 74 13) = 86)
    (o7 : wr (m 74 17) = (-1) → wr (hrR m 86) = 43 → (0 ≤ (m 74 16) ∧ (m 74 16) ≤ 1000))
    (o8 : wr (m 74 17) = (-1) → wr (hrR m 86) = 43 → (0 ≤ (m 74 14) ∧ (m 74 14) ≤ 80))
    (o9 : wr (m 74 17) = (-1) → wr (hrR m 86) = 43 → (0 ≤ (m 74 15) ∧ (m 74 15) ≤ 40))
    (o10 : wr (m 74 17) = (-1) → wr (hrR m 86) = 43 → ¬ wr (hrR m 86) = 43 → False)
    (o11 : wr (m 74 17) = (-1) → wr (hrR m 86) = 43 → wr (hrR m 86) = 43 → T (D + 3) 210 (0, [(0, zr 74), (1, zi (d : Int))], [], (zu m 74 16 ((m 74 16) + 1))) (fun r m1 => T (D + 4) 209 (61, [(0, zr 74), (1, zi (d : Int)), (2, zi v), (3, zi 1)], r.toList ++ [], m1) κ))
    (o12 : wr (m 74 17) = (-1) → ¬ wr (hrR m 86) = 43 → (m 74 13) = 86)
    (o13 : wr (m 74 17) = (-1) → ¬ wr (hrR m 86) = 43 → (0 ≤ (m 74 16) ∧ (m 74 16) ≤ 1000))
    (o14 : wr (m 74 17) = (-1) → ¬ wr (hrR m 86) = 43 → (0 ≤ (m 74 14) ∧ (m 74 14) ≤ 80))
    (o15 : wr (m 74 17) = (-1) → ¬ wr (hrR m 86) = 43 → (0 ≤ (m 74 15) ∧ (m 74 15) ≤ 40))
    (o16 : wr (m 74 17) = (-1) → ¬ wr (hrR m 86) = 43 → ¬ wr (hrR m 86) = 45 → κ (some (zi (wr v))) m)
    (o17 : wr (m 74 17) = (-1) → ¬ wr (hrR m 86) = 43 → wr (hrR m 86) = 45 → (m 74 13) = 86)
    (o18 : wr (m 74 17) = (-1) → ¬ wr (hrR m 86) = 43 → wr (hrR m 86) = 45 → (0 ≤ (m 74 16) ∧ (m 74 16) ≤ 1000))
    (o19 : wr (m 74 17) = (-1) → ¬ wr (hrR m 86) = 43 → wr (hrR m 86) = 45 → (0 ≤ (m 74 14) ∧ (m 74 14) ≤ 80))
    (o20 : wr (m 74 17) = (-1) → ¬ wr (hrR m 86) = 43 → wr (hrR m 86) = 45 → (0 ≤ (m 74 15) ∧ (m 74 15) ≤ 40))
    (o21 : wr (m 74 17) = (-1) → ¬ wr (hrR m 86) = 43 → wr (hrR m 86) = 45 → ¬ wr (hrR m 86) = 43 → T (D + 3) 210 (0, [(0, zr 74), (1, zi (d : Int))], [], (zu m 74 16 ((m 74 16) + 1))) (fun r m1 => T (D + 4) 209 (61, [(0, zr 74), (1, zi (d : Int)), (2, zi v), (3, zi 0)], r.toList ++ [], m1) κ))
    (o22 : wr (m 74 17) = (-1) → ¬ wr (hrR m 86) = 43 → wr (hrR m 86) = 45 → wr (hrR m 86) = 43 → False) :
    T (D + 4) 209 (6, lo, [], m) κ :=
  zkeep hT hlo (hT.1 [(6, [0, 1, 2])] 6 (D + 4) 209 _ κ (hT.1 [] 6 (D + 3) 199 _ _ (And.intro (fun a1 => (o1 a1).elim) (fun a2 => (hT.1 [] 6 (D + 3) 199 (13, [(0, zr 74)], [zi 1], m) _ (And.intro (z_b01L rfl) (hT.1 [(6, [0, 1, 2])] 6 (D + 4) 209 _ _ (And.intro (fun a3 => (z_litF a3 rfl).elim) (fun _ => (z_here86 hT (o2 (Classical.byContradiction a2)) (o3 (Classical.byContradiction a2)) (o4 (Classical.byContradiction a2)) (o5 (Classical.byContradiction a2)) (hT.1 [(6, [0, 1, 2])] 6 (D + 4) 209 _ _ (And.intro (fun a4 => (z_here86 hT (o6 (Classical.byContradiction a2) a4) (o7 (Classical.byContradiction a2) a4) (o8 (Classical.byContradiction a2) a4) (o9 (Classical.byContradiction a2) a4) (hT.1 [(6, [0, 1, 2])] 6 (D + 4) 209 _ _ (And.intro (fun a6 => (o10 (Classical.byContradiction a2) a4 a6).elim) (fun a7 => (hT.1 [(6, [0, 1, 2])] 6 (D + 4) 209 (47, [(0, zr 74), (1, zi (d : Int)), (2, zi v), (3, zi 1)], [zr 74], m) _ (And.intro trivial (hT.1 [(6, [0, 1, 2])] 6 (D + 4) 209 (57, [(0, zr 74), (1, zi (d : Int)), (2, zi v), (3, zi 1)], [zr 74], (zu m 74 16 ((m 74 16) + 1))) _ (o11 (Classical.byContradiction a2) a4 (Classical.byContradiction a7)))))))))) (fun a5 => (z_here86 hT (o12 (Classical.byContradiction a2) a5) (o13 (Classical.byContradiction a2) a5) (o14 (Classical.byContradiction a2) a5) (o15 (Classical.byContradiction a2) a5) (hT.1 [(6, [0, 1, 2])] 6 (D + 4) 209 _ _ (And.intro (fun a8 => (o16 (Classical.byContradiction a2) a5 a8)) (fun a9 => (z_here86 hT (o17 (Classical.byContradiction a2) a5 (Classical.byContradiction a9)) (o18 (Classical.byContradiction a2) a5 (Classical.byContradiction a9)) (o19 (Classical.byContradiction a2) a5 (Classical.byContradiction a9)) (o20 (Classical.byContradiction a2) a5 (Classical.byContradiction a9)) (hT.1 [(6, [0, 1, 2])] 6 (D + 4) 209 _ _ (And.intro (fun a10 => (hT.1 [(6, [0, 1, 2])] 6 (D + 4) 209 (48, [(0, zr 74), (1, zi (d : Int)), (2, zi v), (3, zi 0)], [zr 74, zr 74], m) _ (And.intro trivial (hT.1 [(6, [0, 1, 2])] 6 (D + 4) 209 (58, [(0, zr 74), (1, zi (d : Int)), (2, zi v), (3, zi 0)], [zi (d : Int), zr 74], (zu m 74 16 ((m 74 16) + 1))) _ (o21 (Classical.byContradiction a2) a5 (Classical.byContradiction a9) a10))))) (fun a11 => (o22 (Classical.byContradiction a2) a5 (Classical.byContradiction a9) (Classical.byContradiction a11)).elim)))))))))))))))))))))
theorem zb209_6_86 (hT : zRules T) {D : Nat} {κ : Option zA → zM → Prop} {m : zM} {d : Nat} {v : Int} {lo : zL} (hlo : z_keep [0, 1, 2] lo = [(0, zr 74), (1, zi (d : Int)), (2, zi v)])  (hB : zB m) (hrd : m 74 13 = 86) (h_d : d ≤ 4) (hf0 : (-1) ≤ m 74 17 ∧ m 74 17 ≤ (-1)) (hf1 : 0 ≤ m 74 16 ∧ m 74 16 ≤ 90) (hf2 : 0 ≤ m 74 15 ∧ m 74 15 ≤ 40) 
    (k1 : (hrR m 86) = 43 → zB (zu m 74 16 ((m 74 16) + 1)) → T (D + 3) 210 (0, [(0, zr 74), (1, zi (d : Int))], [], (zu m 74 16 ((m 74 16) + 1))) (fun r m1 => T (D + 4) 209 (61, [(0, zr 74), (1, zi (d : Int)), (2, zi v), (3, zi 1)], r.toList ++ [], m1) κ))
    (k2 : ¬ (hrR m 86) = 43 → ¬ (hrR m 86) = 45 → κ (some (zi (wr v))) m)
    (k3 : ¬ (hrR m 86) = 43 → (hrR m 86) = 45 → zB (zu m 74 16 ((m 74 16) + 1)) → T (D + 3) 210 (0, [(0, zr 74), (1, zi (d : Int))], [], (zu m 74 16 ((m 74 16) + 1))) (fun r m1 => T (D + 4) 209 (61, [(0, zr 74), (1, zi (d : Int)), (2, zi v), (3, zi 0)], r.toList ++ [], m1) κ)) :
    T (D + 4) 209 (6, lo, [], m) κ := by
  have hb4 : 0 ≤ (m 74 14) ∧ (m 74 14) ≤ 80 := hB 74 14
  have hb5 : (-1) ≤ (hrR m 86) ∧ (hrR m 86) ≤ 255 := hrRB m 86
  have hb6 : (-2147483648) ≤ wr v ∧ wr v ≤ 2147483647 := wrB v
  have he0 : wr (m 74 17) = (m 74 17) := wr_id (by omega) (by omega)
  have he1 : wr (hrR m 86) = (hrR m 86) := wr_id (by omega) (by omega)
  have key := @zb209_6_86r T hT D κ m d v lo hlo
  simp only [he0, he1, Int.toNat_natCast] at key
  exact key
    (fun x0 => by omega)
    (fun x0 => hrd)
    (fun x0 => by refine ⟨?_, ?_⟩ <;> omega)
    (fun x0 => by refine ⟨?_, ?_⟩ <;> omega)
    (fun x0 => by refine ⟨?_, ?_⟩ <;> omega)
    (fun x0 x1 => hrd)
    (fun x0 x1 => by refine ⟨?_, ?_⟩ <;> omega)
    (fun x0 x1 => by refine ⟨?_, ?_⟩ <;> omega)
    (fun x0 x1 => by refine ⟨?_, ?_⟩ <;> omega)
    (fun x0 x1 x2 => by omega)
    (fun x0 x1 x2 => k1 x1 (zB_u hB (show 0 ≤ ((m 74 16) + 1) ∧ ((m 74 16) + 1) ≤ 100 from ⟨by omega, by omega⟩)))
    (fun x0 x1 => hrd)
    (fun x0 x1 => by refine ⟨?_, ?_⟩ <;> omega)
    (fun x0 x1 => by refine ⟨?_, ?_⟩ <;> omega)
    (fun x0 x1 => by refine ⟨?_, ?_⟩ <;> omega)
    (fun x0 x1 x2 => k2 x1 x2)
    (fun x0 x1 x2 => hrd)
    (fun x0 x1 x2 => by refine ⟨?_, ?_⟩ <;> omega)
    (fun x0 x1 x2 => by refine ⟨?_, ?_⟩ <;> omega)
    (fun x0 x1 x2 => by refine ⟨?_, ?_⟩ <;> omega)
    (fun x0 x1 x2 x3 => k3 x1 x2 (zB_u hB (show 0 ≤ ((m 74 16) + 1) ∧ ((m 74 16) + 1) ≤ 100 from ⟨by omega, by omega⟩)))
    (fun x0 x1 x2 x3 => by omega)
theorem zb209_6_86fr (hT : zRules T) {D : Nat} {κ : Option zA → zM → Prop} {m : zM} {d : Nat} {v : Int} {lo : zL} (hlo : z_keep [0, 1, 2] lo = [(0, zr 74), (1, zi (d : Int)), (2, zi v)]) 
    (o1 : ¬ wr (m 74 17) = (-1) → κ (some (zi (wr v))) m)
    (o2 : wr (m 74 17) = (-1) → False) :
    T (D + 4) 209 (6, lo, [], m) κ :=
  zkeep hT hlo (hT.1 [(6, [0, 1, 2])] 6 (D + 4) 209 _ κ (hT.1 [] 6 (D + 3) 199 _ _ (And.intro (fun a1 => (And.intro (z_b01L rfl) (hT.1 [(6, [0, 1, 2])] 6 (D + 4) 209 _ _ (And.intro (fun _ => (o1 a1)) (fun a3 => (a3 (z_litT rfl)).elim))))) (fun a2 => (o2 (Classical.byContradiction a2)).elim))))
theorem zb209_6_86f (hT : zRules T) {D : Nat} {κ : Option zA → zM → Prop} {m : zM} {d : Nat} {v : Int} {lo : zL} (hlo : z_keep [0, 1, 2] lo = [(0, zr 74), (1, zi (d : Int)), (2, zi v)])  (hB : zB m) (hrd : m 74 13 = 86) (h_d : d ≤ 4) (hf0 : 0 ≤ m 74 17 ∧ m 74 17 ≤ 100) 
    (k1 : κ (some (zi (wr v))) m) :
    T (D + 4) 209 (6, lo, [], m) κ := by
  have hb2 : (-2147483648) ≤ wr v ∧ wr v ≤ 2147483647 := wrB v
  have he0 : wr (m 74 17) = (m 74 17) := wr_id (by omega) (by omega)
  have key := @zb209_6_86fr T hT D κ m d v lo hlo
  simp only [he0, Int.toNat_natCast] at key
  exact key
    (fun x0 => k1 )
    (fun x0 => by omega)
theorem zb210_0_86r (hT : zRules T) {D : Nat} {κ : Option zA → zM → Prop} {m : zM} {d : Nat} 
    (o1 : T (D + 3) 211 (0, [(0, zr 74), (1, zi (d : Int))], [], m) (fun r m1 => T (D + 4) 210 (5, [(0, zr 74), (1, zi (d : Int))], r.toList ++ [], m1) κ)) :
    T (D + 4) 210 (0, [(0, zr 74), (1, zi (d : Int))], [], m) κ :=
  hT.1 [(6, [0, 1, 2])] 6 (D + 4) 210 _ κ (o1)
theorem zb210_0_86 (hT : zRules T) {D : Nat} {κ : Option zA → zM → Prop} {m : zM} {d : Nat}  (hB : zB m) (hrd : m 74 13 = 86) (h_d : d ≤ 4) (hf0 : (-1) ≤ m 74 17 ∧ m 74 17 ≤ (-1)) (hf1 : 0 ≤ m 74 16 ∧ m 74 16 ≤ 90) (hf2 : 0 ≤ m 74 15 ∧ m 74 15 ≤ 40) 
    (k1 : T (D + 3) 211 (0, [(0, zr 74), (1, zi (d : Int))], [], m) (fun r m1 => T (D + 4) 210 (5, [(0, zr 74), (1, zi (d : Int))], r.toList ++ [], m1) κ)) :
    T (D + 4) 210 (0, [(0, zr 74), (1, zi (d : Int))], [], m) κ := by
  exact zb210_0_86r hT
    k1
theorem zb210_5_86r (hT : zRules T) {D : Nat} {κ : Option zA → zM → Prop} {m : zM} {d : Nat} {v : Int} {lo : zL} (hlo : z_keep [0, 1] lo = [(0, zr 74), (1, zi (d : Int))]) 
    (o1 : T (D + 4) 210 (6, [(0, zr 74), (1, zi (d : Int)), (2, zi v)], [], m) κ) :
    T (D + 4) 210 (5, lo, [zi v], m) κ :=
  zkeep hT hlo (hT.1 [(6, [0, 1, 2])] 6 (D + 4) 210 _ κ (o1))
theorem zb210_5_86 (hT : zRules T) {D : Nat} {κ : Option zA → zM → Prop} {m : zM} {d : Nat} {v : Int} {lo : zL} (hlo : z_keep [0, 1] lo = [(0, zr 74), (1, zi (d : Int))])  (h_d : d ≤ 4) 
    (k1 : T (D + 4) 210 (6, [(0, zr 74), (1, zi (d : Int)), (2, zi v)], [], m) κ) :
    T (D + 4) 210 (5, lo, [zi v], m) κ := by
  exact zb210_5_86r hT hlo
    k1
theorem zb210_61_86r (hT : zRules T) {D : Nat} {κ : Option zA → zM → Prop} {m : zM} {d : Nat} {v : Int} {w : Int} {bq : Int} {lo : zL} (hlo : z_keep [0, 1, 2, 3] lo = [(0, zr 74), (1, zi (d : Int)), (2, zi v), (3, zi bq)]) 
    (o1 : wr bq = 0 → ¬ wr w = 0 → ¬ wr w = 0)
    (o2 : wr bq = 0 → ¬ wr w = 0 → T (D + 4) 210 (6, [(0, zr 74), (1, zi (d : Int)), (2, zi (Int.tdiv (wr v) (wr w)))], [], m) κ)
    (o3 : wr bq = 0 → wr w = 0 → T (D + 4) 210 (6, [(0, zr 74), (1, zi (d : Int)), (2, zi 0)], [], m) κ)
    (o4 : ¬ wr bq = 0 → T (D + 4) 210 (6, [(0, zr 74), (1, zi (d : Int)), (2, zi (v * w))], [], m) κ) :
    T (D + 4) 210 (61, lo, [zi w], m) κ :=
  zkeep hT hlo (hT.1 [(6, [0, 1, 2])] 6 (D + 4) 210 _ κ (And.intro (fun a1 => (And.intro (fun a3 => (hT.1 [(6, [0, 1, 2])] 6 (D + 4) 210 (84, [(0, zr 74), (1, zi (d : Int)), (2, zi v), (3, zi bq), (4, zi w)], [zi v], m) _ (And.intro (o1 a1 a3) (o2 a1 a3)))) (fun a4 => (hT.1 [(6, [0, 1, 2])] 6 (D + 4) 210 (80, [(0, zr 74), (1, zi (d : Int)), (2, zi v), (3, zi bq), (4, zi w)], [zi 0], m) _ (o3 a1 (Classical.byContradiction a4)))))) (fun a2 => (hT.1 [(6, [0, 1, 2])] 6 (D + 4) 210 (71, [(0, zr 74), (1, zi (d : Int)), (2, zi v), (3, zi bq), (4, zi w)], [zi (v * w)], m) _ (o4 a2)))))
theorem zb210_61_86 (hT : zRules T) {D : Nat} {κ : Option zA → zM → Prop} {m : zM} {d : Nat} {v : Int} {w : Int} {bq : Int} {lo : zL} (hlo : z_keep [0, 1, 2, 3] lo = [(0, zr 74), (1, zi (d : Int)), (2, zi v), (3, zi bq)])  (h_d : d ≤ 4) (h_bq : 0 ≤ bq ∧ bq ≤ 1) 
    (k1 : bq = 0 → ¬ wr w = 0 → T (D + 4) 210 (6, [(0, zr 74), (1, zi (d : Int)), (2, zi (Int.tdiv (wr v) (wr w)))], [], m) κ)
    (k2 : bq = 0 → wr w = 0 → T (D + 4) 210 (6, [(0, zr 74), (1, zi (d : Int)), (2, zi 0)], [], m) κ)
    (k3 : ¬ bq = 0 → T (D + 4) 210 (6, [(0, zr 74), (1, zi (d : Int)), (2, zi (v * w))], [], m) κ) :
    T (D + 4) 210 (61, lo, [zi w], m) κ := by
  have hb2 : (-2147483648) ≤ wr w ∧ wr w ≤ 2147483647 := wrB w
  have hb3 : (-2147483648) ≤ wr v ∧ wr v ≤ 2147483647 := wrB v
  have he0 : wr bq = bq := wr_id (by omega) (by omega)
  have key := @zb210_61_86r T hT D κ m d v w bq lo hlo
  simp only [he0, Int.toNat_natCast] at key
  exact key
    (fun x0 x1 => by omega)
    k1
    k2
    k3
theorem zb210_6_86r (hT : zRules T) {D : Nat} {κ : Option zA → zM → Prop} {m : zM} {d : Nat} {v : Int} {lo : zL} (hlo : z_keep [0, 1, 2] lo = [(0, zr 74), (1, zi (d : Int)), (2, zi v)]) 
    (o1 : ¬ wr (m 74 17) = (-1) → False)
    (o2 : wr (m 74 17) = (-1) → (m 74 13) = 86)
    (o3 : wr (m 74 17) = (-1) → (0 ≤ (m 74 16) ∧ (m 74 16) ≤ 1000))
    (o4 : wr (m 74 17) = (-1) → (0 ≤ (m 74 14) ∧ (m 74 14) ≤ 80))
    (o5 : wr (m 74 17) = (-1) → (0 ≤ (m 74 15) ∧ (m 74 15) ≤ 40))
    (o6 : wr (m 74 17) = (-1) → wr (hrR m 86) = 42 → (m 74 13) = 86)
    (o7 : wr (m 74 17) = (-1) → wr (hrR m 86) = 42 → (0 ≤ (m 74 16) ∧ (m 74 16) ≤ 1000))
    (o8 : wr (m 74 17) = (-1) → wr (hrR m 86) = 42 → (0 ≤ (m 74 14) ∧ (m 74 14) ≤ 80))
    (o9 : wr (m 74 17) = (-1) → wr (hrR m 86) = 42 → (0 ≤ (m 74 15) ∧ (m 74 15) ≤ 40))
    (o10 : wr (m 74 17) = (-1) → wr (hrR m 86) = 42 → ¬ wr (hrR m 86) = 42 → False)
    (o11 : wr (m 74 17) = (-1) → wr (hrR m 86) = 42 → wr (hrR m 86) = 42 → T (D + 3) 211 (0, [(0, zr 74), (1, zi (d : Int))], [], (zu m 74 16 ((m 74 16) + 1))) (fun r m1 => T (D + 4) 210 (61, [(0, zr 74), (1, zi (d : Int)), (2, zi v), (3, zi 1)], r.toList ++ [], m1) κ))
    (o12 : wr (m 74 17) = (-1) → ¬ wr (hrR m 86) = 42 → (m 74 13) = 86)
    (o13 : wr (m 74 17) = (-1) → ¬ wr (hrR m 86) = 42 → (0 ≤ (m 74 16) ∧ (m 74 16) ≤ 1000))
    (o14 : wr (m 74 17) = (-1) → ¬ wr (hrR m 86) = 42 → (0 ≤ (m 74 14) ∧ (m 74 14) ≤ 80))
    (o15 : wr (m 74 17) = (-1) → ¬ wr (hrR m 86) = 42 → (0 ≤ (m 74 15) ∧ (m 74 15) ≤ 40))
    (o16 : wr (m 74 17) = (-1) → ¬ wr (hrR m 86) = 42 → ¬ wr (hrR m 86) = 47 → κ (some (zi (wr v))) m)
    (o17 : wr (m 74 17) = (-1) → ¬ wr (hrR m 86) = 42 → wr (hrR m 86) = 47 → (m 74 13) = 86)
    (o18 : wr (m 74 17) = (-1) → ¬ wr (hrR m 86) = 42 → wr (hrR m 86) = 47 → (0 ≤ (m 74 16) ∧ (m 74 16) ≤ 1000))
    (o19 : wr (m 74 17) = (-1) → ¬ wr (hrR m 86) = 42 → wr (hrR m 86) = 47 → (0 ≤ (m 74 14) ∧ (m 74 14) ≤ 80))
    (o20 : wr (m 74 17) = (-1) → ¬ wr (hrR m 86) = 42 → wr (hrR m 86) = 47 → (0 ≤ (m 74 15) ∧ (m 74 15) ≤ 40))
    (o21 : wr (m 74 17) = (-1) → ¬ wr (hrR m 86) = 42 → wr (hrR m 86) = 47 → ¬ wr (hrR m 86) = 42 → T (D + 3) 211 (0, [(0, zr 74), (1, zi (d : Int))], [], (zu m 74 16 ((m 74 16) + 1))) (fun r m1 => T (D + 4) 210 (61, [(0, zr 74), (1, zi (d : Int)), (2, zi v), (3, zi 0)], r.toList ++ [], m1) κ))
    (o22 : wr (m 74 17) = (-1) → ¬ wr (hrR m 86) = 42 → wr (hrR m 86) = 47 → wr (hrR m 86) = 42 → False) :
    T (D + 4) 210 (6, lo, [], m) κ :=
  zkeep hT hlo (hT.1 [(6, [0, 1, 2])] 6 (D + 4) 210 _ κ (hT.1 [] 6 (D + 3) 199 _ _ (And.intro (fun a1 => (o1 a1).elim) (fun a2 => (hT.1 [] 6 (D + 3) 199 (13, [(0, zr 74)], [zi 1], m) _ (And.intro (z_b01L rfl) (hT.1 [(6, [0, 1, 2])] 6 (D + 4) 210 _ _ (And.intro (fun a3 => (z_litF a3 rfl).elim) (fun _ => (z_here86 hT (o2 (Classical.byContradiction a2)) (o3 (Classical.byContradiction a2)) (o4 (Classical.byContradiction a2)) (o5 (Classical.byContradiction a2)) (hT.1 [(6, [0, 1, 2])] 6 (D + 4) 210 _ _ (And.intro (fun a4 => (z_here86 hT (o6 (Classical.byContradiction a2) a4) (o7 (Classical.byContradiction a2) a4) (o8 (Classical.byContradiction a2) a4) (o9 (Classical.byContradiction a2) a4) (hT.1 [(6, [0, 1, 2])] 6 (D + 4) 210 _ _ (And.intro (fun a6 => (o10 (Classical.byContradiction a2) a4 a6).elim) (fun a7 => (hT.1 [(6, [0, 1, 2])] 6 (D + 4) 210 (47, [(0, zr 74), (1, zi (d : Int)), (2, zi v), (3, zi 1)], [zr 74], m) _ (And.intro trivial (hT.1 [(6, [0, 1, 2])] 6 (D + 4) 210 (57, [(0, zr 74), (1, zi (d : Int)), (2, zi v), (3, zi 1)], [zr 74], (zu m 74 16 ((m 74 16) + 1))) _ (o11 (Classical.byContradiction a2) a4 (Classical.byContradiction a7)))))))))) (fun a5 => (z_here86 hT (o12 (Classical.byContradiction a2) a5) (o13 (Classical.byContradiction a2) a5) (o14 (Classical.byContradiction a2) a5) (o15 (Classical.byContradiction a2) a5) (hT.1 [(6, [0, 1, 2])] 6 (D + 4) 210 _ _ (And.intro (fun a8 => (o16 (Classical.byContradiction a2) a5 a8)) (fun a9 => (z_here86 hT (o17 (Classical.byContradiction a2) a5 (Classical.byContradiction a9)) (o18 (Classical.byContradiction a2) a5 (Classical.byContradiction a9)) (o19 (Classical.byContradiction a2) a5 (Classical.byContradiction a9)) (o20 (Classical.byContradiction a2) a5 (Classical.byContradiction a9)) (hT.1 [(6, [0, 1, 2])] 6 (D + 4) 210 _ _ (And.intro (fun a10 => (hT.1 [(6, [0, 1, 2])] 6 (D + 4) 210 (48, [(0, zr 74), (1, zi (d : Int)), (2, zi v), (3, zi 0)], [zr 74, zr 74], m) _ (And.intro trivial (hT.1 [(6, [0, 1, 2])] 6 (D + 4) 210 (58, [(0, zr 74), (1, zi (d : Int)), (2, zi v), (3, zi 0)], [zi (d : Int), zr 74], (zu m 74 16 ((m 74 16) + 1))) _ (o21 (Classical.byContradiction a2) a5 (Classical.byContradiction a9) a10))))) (fun a11 => (o22 (Classical.byContradiction a2) a5 (Classical.byContradiction a9) (Classical.byContradiction a11)).elim)))))))))))))))))))))
theorem zb210_6_86 (hT : zRules T) {D : Nat} {κ : Option zA → zM → Prop} {m : zM} {d : Nat} {v : Int} {lo : zL} (hlo : z_keep [0, 1, 2] lo = [(0, zr 74), (1, zi (d : Int)), (2, zi v)])  (hB : zB m) (hrd : m 74 13 = 86) (h_d : d ≤ 4) (hf0 : (-1) ≤ m 74 17 ∧ m 74 17 ≤ (-1)) (hf1 : 0 ≤ m 74 16 ∧ m 74 16 ≤ 90) (hf2 : 0 ≤ m 74 15 ∧ m 74 15 ≤ 40) 
    (k1 : (hrR m 86) = 42 → zB (zu m 74 16 ((m 74 16) + 1)) → T (D + 3) 211 (0, [(0, zr 74), (1, zi (d : Int))], [], (zu m 74 16 ((m 74 16) + 1))) (fun r m1 => T (D + 4) 210 (61, [(0, zr 74), (1, zi (d : Int)), (2, zi v), (3, zi 1)], r.toList ++ [], m1) κ))
    (k2 : ¬ (hrR m 86) = 42 → ¬ (hrR m 86) = 47 → κ (some (zi (wr v))) m)
    (k3 : ¬ (hrR m 86) = 42 → (hrR m 86) = 47 → zB (zu m 74 16 ((m 74 16) + 1)) → T (D + 3) 211 (0, [(0, zr 74), (1, zi (d : Int))], [], (zu m 74 16 ((m 74 16) + 1))) (fun r m1 => T (D + 4) 210 (61, [(0, zr 74), (1, zi (d : Int)), (2, zi v), (3, zi 0)], r.toList ++ [], m1) κ)) :
    T (D + 4) 210 (6, lo, [], m) κ := by
  have hb4 : 0 ≤ (m 74 14) ∧ (m 74 14) ≤ 80 := hB 74 14
  have hb5 : (-1) ≤ (hrR m 86) ∧ (hrR m 86) ≤ 255 := hrRB m 86
  have hb6 : (-2147483648) ≤ wr v ∧ wr v ≤ 2147483647 := wrB v
  have he0 : wr (m 74 17) = (m 74 17) := wr_id (by omega) (by omega)
  have he1 : wr (hrR m 86) = (hrR m 86) := wr_id (by omega) (by omega)
  have key := @zb210_6_86r T hT D κ m d v lo hlo
  simp only [he0, he1, Int.toNat_natCast] at key
  exact key
    (fun x0 => by omega)
    (fun x0 => hrd)
    (fun x0 => by refine ⟨?_, ?_⟩ <;> omega)
    (fun x0 => by refine ⟨?_, ?_⟩ <;> omega)
    (fun x0 => by refine ⟨?_, ?_⟩ <;> omega)
    (fun x0 x1 => hrd)
    (fun x0 x1 => by refine ⟨?_, ?_⟩ <;> omega)
    (fun x0 x1 => by refine ⟨?_, ?_⟩ <;> omega)
    (fun x0 x1 => by refine ⟨?_, ?_⟩ <;> omega)
    (fun x0 x1 x2 => by omega)
    (fun x0 x1 x2 => k1 x1 (zB_u hB (show 0 ≤ ((m 74 16) + 1) ∧ ((m 74 16) + 1) ≤ 100 from ⟨by omega, by omega⟩)))
    (fun x0 x1 => hrd)
    (fun x0 x1 => by refine ⟨?_, ?_⟩ <;> omega)
    (fun x0 x1 => by refine ⟨?_, ?_⟩ <;> omega)
    (fun x0 x1 => by refine ⟨?_, ?_⟩ <;> omega)
    (fun x0 x1 x2 => k2 x1 x2)
    (fun x0 x1 x2 => hrd)
    (fun x0 x1 x2 => by refine ⟨?_, ?_⟩ <;> omega)
    (fun x0 x1 x2 => by refine ⟨?_, ?_⟩ <;> omega)
    (fun x0 x1 x2 => by refine ⟨?_, ?_⟩ <;> omega)
    (fun x0 x1 x2 x3 => k3 x1 x2 (zB_u hB (show 0 ≤ ((m 74 16) + 1) ∧ ((m 74 16) + 1) ≤ 100 from ⟨by omega, by omega⟩)))
    (fun x0 x1 x2 x3 => by omega)
theorem zb210_6_86fr (hT : zRules T) {D : Nat} {κ : Option zA → zM → Prop} {m : zM} {d : Nat} {v : Int} {lo : zL} (hlo : z_keep [0, 1, 2] lo = [(0, zr 74), (1, zi (d : Int)), (2, zi v)]) 
    (o1 : ¬ wr (m 74 17) = (-1) → κ (some (zi (wr v))) m)
    (o2 : wr (m 74 17) = (-1) → False) :
    T (D + 4) 210 (6, lo, [], m) κ :=
  zkeep hT hlo (hT.1 [(6, [0, 1, 2])] 6 (D + 4) 210 _ κ (hT.1 [] 6 (D + 3) 199 _ _ (And.intro (fun a1 => (And.intro (z_b01L rfl) (hT.1 [(6, [0, 1, 2])] 6 (D + 4) 210 _ _ (And.intro (fun _ => (o1 a1)) (fun a3 => (a3 (z_litT rfl)).elim))))) (fun a2 => (o2 (Classical.byContradiction a2)).elim))))
theorem zb210_6_86f (hT : zRules T) {D : Nat} {κ : Option zA → zM → Prop} {m : zM} {d : Nat} {v : Int} {lo : zL} (hlo : z_keep [0, 1, 2] lo = [(0, zr 74), (1, zi (d : Int)), (2, zi v)])  (hB : zB m) (hrd : m 74 13 = 86) (h_d : d ≤ 4) (hf0 : 0 ≤ m 74 17 ∧ m 74 17 ≤ 100) 
    (k1 : κ (some (zi (wr v))) m) :
    T (D + 4) 210 (6, lo, [], m) κ := by
  have hb2 : (-2147483648) ≤ wr v ∧ wr v ≤ 2147483647 := wrB v
  have he0 : wr (m 74 17) = (m 74 17) := wr_id (by omega) (by omega)
  have key := @zb210_6_86fr T hT D κ m d v lo hlo
  simp only [he0, Int.toNat_natCast] at key
  exact key
    (fun x0 => k1 )
    (fun x0 => by omega)
theorem zb211_0_86r (hT : zRules T) {D : Nat} {κ : Option zA → zM → Prop} {m : zM} {d : Nat} 
    (o1 : ¬ wr (m 74 17) = (-1) → False)
    (o2 : wr (m 74 17) = (-1) → (m 74 13) = 86)
    (o3 : wr (m 74 17) = (-1) → (0 ≤ (m 74 16) ∧ (m 74 16) ≤ 1000))
    (o4 : wr (m 74 17) = (-1) → (0 ≤ (m 74 14) ∧ (m 74 14) ≤ 80))
    (o5 : wr (m 74 17) = (-1) → (0 ≤ (m 74 15) ∧ (m 74 15) ≤ 40))
    (o6 : wr (m 74 17) = (-1) → wr (hrR m 86) = 45 → T (D + 3) 211 (0, [(0, zr 74), (1, zi (d : Int))], [], (zu m 74 16 ((m 74 16) + 1))) (fun r m1 => T (D + 4) 211 (14, [(0, zr 74), (1, zi (d : Int))], r.toList ++ [], m1) κ))
    (o7 : wr (m 74 17) = (-1) → ¬ wr (hrR m 86) = 45 → ¬ wr (m 74 17) = (-1) → False)
    (o8 : wr (m 74 17) = (-1) → ¬ wr (hrR m 86) = 45 → wr (m 74 17) = (-1) → (m 74 13) = 86)
    (o9 : wr (m 74 17) = (-1) → ¬ wr (hrR m 86) = 45 → wr (m 74 17) = (-1) → (0 ≤ (m 74 16) ∧ (m 74 16) ≤ 1000))
    (o10 : wr (m 74 17) = (-1) → ¬ wr (hrR m 86) = 45 → wr (m 74 17) = (-1) → (0 ≤ (m 74 14) ∧ (m 74 14) ≤ 80))
    (o11 : wr (m 74 17) = (-1) → ¬ wr (hrR m 86) = 45 → wr (m 74 17) = (-1) → (0 ≤ (m 74 15) ∧ (m 74 15) ≤ 40))
    (o12 : wr (m 74 17) = (-1) → ¬ wr (hrR m 86) = 45 → wr (m 74 17) = (-1) → ¬ wr (hrR m 86) = 40 → wr (hrR m 86) < 48 → wr (hrR m 86) = 104 → False)
    (o13 : wr (m 74 17) = (-1) → ¬ wr (hrR m 86) = 45 → wr (m 74 17) = (-1) → ¬ wr (hrR m 86) = 40 → wr (hrR m 86) < 48 → ¬ wr (hrR m 86) = 104 → wr (hrR m 86) = 108 → False)
    (o14 : wr (m 74 17) = (-1) → ¬ wr (hrR m 86) = 45 → wr (m 74 17) = (-1) → ¬ wr (hrR m 86) = 40 → wr (hrR m 86) < 48 → ¬ wr (hrR m 86) = 104 → ¬ wr (hrR m 86) = 108 → wr (hrR m 86) = 119 → False)
    (o15 : wr (m 74 17) = (-1) → ¬ wr (hrR m 86) = 45 → wr (m 74 17) = (-1) → ¬ wr (hrR m 86) = 40 → wr (hrR m 86) < 48 → ¬ wr (hrR m 86) = 104 → ¬ wr (hrR m 86) = 108 → ¬ wr (hrR m 86) = 119 → wr (hrR m 86) = 112 → False)
    (o16 : wr (m 74 17) = (-1) → ¬ wr (hrR m 86) = 45 → wr (m 74 17) = (-1) → ¬ wr (hrR m 86) = 40 → wr (hrR m 86) < 48 → ¬ wr (hrR m 86) = 104 → ¬ wr (hrR m 86) = 108 → ¬ wr (hrR m 86) = 119 → ¬ wr (hrR m 86) = 112 → wr (hrR m 86) = 105 → False)
    (o17 : wr (m 74 17) = (-1) → ¬ wr (hrR m 86) = 45 → wr (m 74 17) = (-1) → ¬ wr (hrR m 86) = 40 → wr (hrR m 86) < 48 → ¬ wr (hrR m 86) = 104 → ¬ wr (hrR m 86) = 108 → ¬ wr (hrR m 86) = 119 → ¬ wr (hrR m 86) = 112 → ¬ wr (hrR m 86) = 105 → ¬ wr (m 74 17) = (-1) → False)
    (o18 : wr (m 74 17) = (-1) → ¬ wr (hrR m 86) = 45 → wr (m 74 17) = (-1) → ¬ wr (hrR m 86) = 40 → wr (hrR m 86) < 48 → ¬ wr (hrR m 86) = 104 → ¬ wr (hrR m 86) = 108 → ¬ wr (hrR m 86) = 119 → ¬ wr (hrR m 86) = 112 → ¬ wr (hrR m 86) = 105 → wr (m 74 17) = (-1) → κ (some (zi 0)) (zu m 74 17 (m 74 16)))
    (o19 : wr (m 74 17) = (-1) → ¬ wr (hrR m 86) = 45 → wr (m 74 17) = (-1) → ¬ wr (hrR m 86) = 40 → ¬ wr (hrR m 86) < 48 → 57 < wr (hrR m 86) → wr (hrR m 86) = 104 → ¬ wr (m 74 26) = 0 → ¬ wr (hrR m 86) = 104 → False)
    (o20 : wr (m 74 17) = (-1) → ¬ wr (hrR m 86) = 45 → wr (m 74 17) = (-1) → ¬ wr (hrR m 86) = 40 → ¬ wr (hrR m 86) < 48 → 57 < wr (hrR m 86) → wr (hrR m 86) = 104 → ¬ wr (m 74 26) = 0 → wr (hrR m 86) = 104 → κ (some (zi (wr (m 74 28)))) (zu m 74 16 ((m 74 16) + 1)))
    (o21 : wr (m 74 17) = (-1) → ¬ wr (hrR m 86) = 45 → wr (m 74 17) = (-1) → ¬ wr (hrR m 86) = 40 → ¬ wr (hrR m 86) < 48 → 57 < wr (hrR m 86) → wr (hrR m 86) = 104 → wr (m 74 26) = 0 → κ (some (zi 0)) (zu m 74 16 ((m 74 16) + 1)))
    (o22 : wr (m 74 17) = (-1) → ¬ wr (hrR m 86) = 45 → wr (m 74 17) = (-1) → ¬ wr (hrR m 86) = 40 → ¬ wr (hrR m 86) < 48 → 57 < wr (hrR m 86) → ¬ wr (hrR m 86) = 104 → wr (hrR m 86) = 108 → ¬ wr (m 74 26) = 0 → ¬ wr (hrR m 86) = 104 → ¬ wr (hrR m 86) = 108 → False)
    (o23 : wr (m 74 17) = (-1) → ¬ wr (hrR m 86) = 45 → wr (m 74 17) = (-1) → ¬ wr (hrR m 86) = 40 → ¬ wr (hrR m 86) < 48 → 57 < wr (hrR m 86) → ¬ wr (hrR m 86) = 104 → wr (hrR m 86) = 108 → ¬ wr (m 74 26) = 0 → ¬ wr (hrR m 86) = 104 → wr (hrR m 86) = 108 → (0 ≤ wr (m 74 29) ∧ wr (m 74 29) < 4))
    (o24 : wr (m 74 17) = (-1) → ¬ wr (hrR m 86) = 45 → wr (m 74 17) = (-1) → ¬ wr (hrR m 86) = 40 → ¬ wr (hrR m 86) < 48 → 57 < wr (hrR m 86) → ¬ wr (hrR m 86) = 104 → wr (hrR m 86) = 108 → ¬ wr (m 74 26) = 0 → ¬ wr (hrR m 86) = 104 → wr (hrR m 86) = 108 → ¬ wr (m 77 ((wr (m 74 29)).toNat)) = 0)
    (o25 : wr (m 74 17) = (-1) → ¬ wr (hrR m 86) = 45 → wr (m 74 17) = (-1) → ¬ wr (hrR m 86) = 40 → ¬ wr (hrR m 86) < 48 → 57 < wr (hrR m 86) → ¬ wr (hrR m 86) = 104 → wr (hrR m 86) = 108 → ¬ wr (m 74 26) = 0 → ¬ wr (hrR m 86) = 104 → wr (hrR m 86) = 108 → (0 ≤ wr ((26 * (m 74 29)) + (Int.tmod (wr (m 74 30)) (wr (m 77 ((wr (m 74 29)).toNat))))) ∧ wr ((26 * (m 74 29)) + (Int.tmod (wr (m 74 30)) (wr (m 77 ((wr (m 74 29)).toNat))))) < 104))
    (o26 : wr (m 74 17) = (-1) → ¬ wr (hrR m 86) = 45 → wr (m 74 17) = (-1) → ¬ wr (hrR m 86) = 40 → ¬ wr (hrR m 86) < 48 → 57 < wr (hrR m 86) → ¬ wr (hrR m 86) = 104 → wr (hrR m 86) = 108 → ¬ wr (m 74 26) = 0 → ¬ wr (hrR m 86) = 104 → wr (hrR m 86) = 108 → κ (some (zi (wr (wr (m 76 ((wr ((26 * (m 74 29)) + (Int.tmod (wr (m 74 30)) (wr (m 77 ((wr (m 74 29)).toNat)))))).toNat)))))) (zu m 74 16 ((m 74 16) + 1)))
    (o27 : wr (m 74 17) = (-1) → ¬ wr (hrR m 86) = 45 → wr (m 74 17) = (-1) → ¬ wr (hrR m 86) = 40 → ¬ wr (hrR m 86) < 48 → 57 < wr (hrR m 86) → ¬ wr (hrR m 86) = 104 → wr (hrR m 86) = 108 → ¬ wr (m 74 26) = 0 → wr (hrR m 86) = 104 → False)
    (o28 : wr (m 74 17) = (-1) → ¬ wr (hrR m 86) = 45 → wr (m 74 17) = (-1) → ¬ wr (hrR m 86) = 40 → ¬ wr (hrR m 86) < 48 → 57 < wr (hrR m 86) → ¬ wr (hrR m 86) = 104 → wr (hrR m 86) = 108 → wr (m 74 26) = 0 → κ (some (zi 0)) (zu m 74 16 ((m 74 16) + 1)))
    (o29 : wr (m 74 17) = (-1) → ¬ wr (hrR m 86) = 45 → wr (m 74 17) = (-1) → ¬ wr (hrR m 86) = 40 → ¬ wr (hrR m 86) < 48 → 57 < wr (hrR m 86) → ¬ wr (hrR m 86) = 104 → ¬ wr (hrR m 86) = 108 → wr (hrR m 86) = 119 → ¬ wr (m 74 26) = 0 → ¬ wr (hrR m 86) = 104 → ¬ wr (hrR m 86) = 108 → ¬ wr (hrR m 86) = 119 → False)
    (o30 : wr (m 74 17) = (-1) → ¬ wr (hrR m 86) = 45 → wr (m 74 17) = (-1) → ¬ wr (hrR m 86) = 40 → ¬ wr (hrR m 86) < 48 → 57 < wr (hrR m 86) → ¬ wr (hrR m 86) = 104 → ¬ wr (hrR m 86) = 108 → wr (hrR m 86) = 119 → ¬ wr (m 74 26) = 0 → ¬ wr (hrR m 86) = 104 → ¬ wr (hrR m 86) = 108 → wr (hrR m 86) = 119 → κ (some (zi (wr (m 74 30)))) (zu m 74 16 ((m 74 16) + 1)))
    (o31 : wr (m 74 17) = (-1) → ¬ wr (hrR m 86) = 45 → wr (m 74 17) = (-1) → ¬ wr (hrR m 86) = 40 → ¬ wr (hrR m 86) < 48 → 57 < wr (hrR m 86) → ¬ wr (hrR m 86) = 104 → ¬ wr (hrR m 86) = 108 → wr (hrR m 86) = 119 → ¬ wr (m 74 26) = 0 → ¬ wr (hrR m 86) = 104 → wr (hrR m 86) = 108 → False)
    (o32 : wr (m 74 17) = (-1) → ¬ wr (hrR m 86) = 45 → wr (m 74 17) = (-1) → ¬ wr (hrR m 86) = 40 → ¬ wr (hrR m 86) < 48 → 57 < wr (hrR m 86) → ¬ wr (hrR m 86) = 104 → ¬ wr (hrR m 86) = 108 → wr (hrR m 86) = 119 → ¬ wr (m 74 26) = 0 → wr (hrR m 86) = 104 → False)
    (o33 : wr (m 74 17) = (-1) → ¬ wr (hrR m 86) = 45 → wr (m 74 17) = (-1) → ¬ wr (hrR m 86) = 40 → ¬ wr (hrR m 86) < 48 → 57 < wr (hrR m 86) → ¬ wr (hrR m 86) = 104 → ¬ wr (hrR m 86) = 108 → wr (hrR m 86) = 119 → wr (m 74 26) = 0 → κ (some (zi 0)) (zu m 74 16 ((m 74 16) + 1)))
    (o34 : wr (m 74 17) = (-1) → ¬ wr (hrR m 86) = 45 → wr (m 74 17) = (-1) → ¬ wr (hrR m 86) = 40 → ¬ wr (hrR m 86) < 48 → 57 < wr (hrR m 86) → ¬ wr (hrR m 86) = 104 → ¬ wr (hrR m 86) = 108 → ¬ wr (hrR m 86) = 119 → wr (hrR m 86) = 112 → ¬ wr (m 74 26) = 0 → ¬ wr (hrR m 86) = 104 → ¬ wr (hrR m 86) = 108 → ¬ wr (hrR m 86) = 119 → ¬ wr (hrR m 86) = 112 → False)
    (o35 : wr (m 74 17) = (-1) → ¬ wr (hrR m 86) = 45 → wr (m 74 17) = (-1) → ¬ wr (hrR m 86) = 40 → ¬ wr (hrR m 86) < 48 → 57 < wr (hrR m 86) → ¬ wr (hrR m 86) = 104 → ¬ wr (hrR m 86) = 108 → ¬ wr (hrR m 86) = 119 → wr (hrR m 86) = 112 → ¬ wr (m 74 26) = 0 → ¬ wr (hrR m 86) = 104 → ¬ wr (hrR m 86) = 108 → ¬ wr (hrR m 86) = 119 → wr (hrR m 86) = 112 → κ (some (zi (wr (m 74 29)))) (zu m 74 16 ((m 74 16) + 1)))
    (o36 : wr (m 74 17) = (-1) → ¬ wr (hrR m 86) = 45 → wr (m 74 17) = (-1) → ¬ wr (hrR m 86) = 40 → ¬ wr (hrR m 86) < 48 → 57 < wr (hrR m 86) → ¬ wr (hrR m 86) = 104 → ¬ wr (hrR m 86) = 108 → ¬ wr (hrR m 86) = 119 → wr (hrR m 86) = 112 → ¬ wr (m 74 26) = 0 → ¬ wr (hrR m 86) = 104 → ¬ wr (hrR m 86) = 108 → wr (hrR m 86) = 119 → False)
    (o37 : wr (m 74 17) = (-1) → ¬ wr (hrR m 86) = 45 → wr (m 74 17) = (-1) → ¬ wr (hrR m 86) = 40 → ¬ wr (hrR m 86) < 48 → 57 < wr (hrR m 86) → ¬ wr (hrR m 86) = 104 → ¬ wr (hrR m 86) = 108 → ¬ wr (hrR m 86) = 119 → wr (hrR m 86) = 112 → ¬ wr (m 74 26) = 0 → ¬ wr (hrR m 86) = 104 → wr (hrR m 86) = 108 → False)
    (o38 : wr (m 74 17) = (-1) → ¬ wr (hrR m 86) = 45 → wr (m 74 17) = (-1) → ¬ wr (hrR m 86) = 40 → ¬ wr (hrR m 86) < 48 → 57 < wr (hrR m 86) → ¬ wr (hrR m 86) = 104 → ¬ wr (hrR m 86) = 108 → ¬ wr (hrR m 86) = 119 → wr (hrR m 86) = 112 → ¬ wr (m 74 26) = 0 → wr (hrR m 86) = 104 → False)
    (o39 : wr (m 74 17) = (-1) → ¬ wr (hrR m 86) = 45 → wr (m 74 17) = (-1) → ¬ wr (hrR m 86) = 40 → ¬ wr (hrR m 86) < 48 → 57 < wr (hrR m 86) → ¬ wr (hrR m 86) = 104 → ¬ wr (hrR m 86) = 108 → ¬ wr (hrR m 86) = 119 → wr (hrR m 86) = 112 → wr (m 74 26) = 0 → κ (some (zi 0)) (zu m 74 16 ((m 74 16) + 1)))
    (o40 : wr (m 74 17) = (-1) → ¬ wr (hrR m 86) = 45 → wr (m 74 17) = (-1) → ¬ wr (hrR m 86) = 40 → ¬ wr (hrR m 86) < 48 → 57 < wr (hrR m 86) → ¬ wr (hrR m 86) = 104 → ¬ wr (hrR m 86) = 108 → ¬ wr (hrR m 86) = 119 → ¬ wr (hrR m 86) = 112 → wr (hrR m 86) = 105 → ¬ wr (m 74 26) = 0 → ¬ wr (hrR m 86) = 104 → ¬ wr (hrR m 86) = 108 → ¬ wr (hrR m 86) = 119 → ¬ wr (hrR m 86) = 112 → κ (some (zi (wr (m 74 27)))) (zu m 74 16 ((m 74 16) + 1)))
    (o41 : wr (m 74 17) = (-1) → ¬ wr (hrR m 86) = 45 → wr (m 74 17) = (-1) → ¬ wr (hrR m 86) = 40 → ¬ wr (hrR m 86) < 48 → 57 < wr (hrR m 86) → ¬ wr (hrR m 86) = 104 → ¬ wr (hrR m 86) = 108 → ¬ wr (hrR m 86) = 119 → ¬ wr (hrR m 86) = 112 → wr (hrR m 86) = 105 → ¬ wr (m 74 26) = 0 → ¬ wr (hrR m 86) = 104 → ¬ wr (hrR m 86) = 108 → ¬ wr (hrR m 86) = 119 → wr (hrR m 86) = 112 → False)
    (o42 : wr (m 74 17) = (-1) → ¬ wr (hrR m 86) = 45 → wr (m 74 17) = (-1) → ¬ wr (hrR m 86) = 40 → ¬ wr (hrR m 86) < 48 → 57 < wr (hrR m 86) → ¬ wr (hrR m 86) = 104 → ¬ wr (hrR m 86) = 108 → ¬ wr (hrR m 86) = 119 → ¬ wr (hrR m 86) = 112 → wr (hrR m 86) = 105 → ¬ wr (m 74 26) = 0 → ¬ wr (hrR m 86) = 104 → ¬ wr (hrR m 86) = 108 → wr (hrR m 86) = 119 → False)
    (o43 : wr (m 74 17) = (-1) → ¬ wr (hrR m 86) = 45 → wr (m 74 17) = (-1) → ¬ wr (hrR m 86) = 40 → ¬ wr (hrR m 86) < 48 → 57 < wr (hrR m 86) → ¬ wr (hrR m 86) = 104 → ¬ wr (hrR m 86) = 108 → ¬ wr (hrR m 86) = 119 → ¬ wr (hrR m 86) = 112 → wr (hrR m 86) = 105 → ¬ wr (m 74 26) = 0 → ¬ wr (hrR m 86) = 104 → wr (hrR m 86) = 108 → False)
    (o44 : wr (m 74 17) = (-1) → ¬ wr (hrR m 86) = 45 → wr (m 74 17) = (-1) → ¬ wr (hrR m 86) = 40 → ¬ wr (hrR m 86) < 48 → 57 < wr (hrR m 86) → ¬ wr (hrR m 86) = 104 → ¬ wr (hrR m 86) = 108 → ¬ wr (hrR m 86) = 119 → ¬ wr (hrR m 86) = 112 → wr (hrR m 86) = 105 → ¬ wr (m 74 26) = 0 → wr (hrR m 86) = 104 → False)
    (o45 : wr (m 74 17) = (-1) → ¬ wr (hrR m 86) = 45 → wr (m 74 17) = (-1) → ¬ wr (hrR m 86) = 40 → ¬ wr (hrR m 86) < 48 → 57 < wr (hrR m 86) → ¬ wr (hrR m 86) = 104 → ¬ wr (hrR m 86) = 108 → ¬ wr (hrR m 86) = 119 → ¬ wr (hrR m 86) = 112 → wr (hrR m 86) = 105 → wr (m 74 26) = 0 → κ (some (zi 0)) (zu m 74 16 ((m 74 16) + 1)))
    (o46 : wr (m 74 17) = (-1) → ¬ wr (hrR m 86) = 45 → wr (m 74 17) = (-1) → ¬ wr (hrR m 86) = 40 → ¬ wr (hrR m 86) < 48 → 57 < wr (hrR m 86) → ¬ wr (hrR m 86) = 104 → ¬ wr (hrR m 86) = 108 → ¬ wr (hrR m 86) = 119 → ¬ wr (hrR m 86) = 112 → ¬ wr (hrR m 86) = 105 → ¬ wr (m 74 17) = (-1) → False)
    (o47 : wr (m 74 17) = (-1) → ¬ wr (hrR m 86) = 45 → wr (m 74 17) = (-1) → ¬ wr (hrR m 86) = 40 → ¬ wr (hrR m 86) < 48 → 57 < wr (hrR m 86) → ¬ wr (hrR m 86) = 104 → ¬ wr (hrR m 86) = 108 → ¬ wr (hrR m 86) = 119 → ¬ wr (hrR m 86) = 112 → ¬ wr (hrR m 86) = 105 → wr (m 74 17) = (-1) → κ (some (zi 0)) (zu m 74 17 (m 74 16)))
    (o48 : wr (m 74 17) = (-1) → ¬ wr (hrR m 86) = 45 → wr (m 74 17) = (-1) → ¬ wr (hrR m 86) = 40 → ¬ wr (hrR m 86) < 48 → ¬ 57 < wr (hrR m 86) → T (D + 4) 211 (83, [(0, zr 74), (3, zi 0), (4, zi 0)], [], m) κ)
    (o49 : wr (m 74 17) = (-1) → ¬ wr (hrR m 86) = 45 → wr (m 74 17) = (-1) → wr (hrR m 86) = 40 → ¬ wr (d : Int) < 4 → wr (hrR m 86) < 48 → wr (hrR m 86) = 104 → False)
    (o50 : wr (m 74 17) = (-1) → ¬ wr (hrR m 86) = 45 → wr (m 74 17) = (-1) → wr (hrR m 86) = 40 → ¬ wr (d : Int) < 4 → wr (hrR m 86) < 48 → ¬ wr (hrR m 86) = 104 → wr (hrR m 86) = 108 → False)
    (o51 : wr (m 74 17) = (-1) → ¬ wr (hrR m 86) = 45 → wr (m 74 17) = (-1) → wr (hrR m 86) = 40 → ¬ wr (d : Int) < 4 → wr (hrR m 86) < 48 → ¬ wr (hrR m 86) = 104 → ¬ wr (hrR m 86) = 108 → wr (hrR m 86) = 119 → False)
    (o52 : wr (m 74 17) = (-1) → ¬ wr (hrR m 86) = 45 → wr (m 74 17) = (-1) → wr (hrR m 86) = 40 → ¬ wr (d : Int) < 4 → wr (hrR m 86) < 48 → ¬ wr (hrR m 86) = 104 → ¬ wr (hrR m 86) = 108 → ¬ wr (hrR m 86) = 119 → wr (hrR m 86) = 112 → False)
    (o53 : wr (m 74 17) = (-1) → ¬ wr (hrR m 86) = 45 → wr (m 74 17) = (-1) → wr (hrR m 86) = 40 → ¬ wr (d : Int) < 4 → wr (hrR m 86) < 48 → ¬ wr (hrR m 86) = 104 → ¬ wr (hrR m 86) = 108 → ¬ wr (hrR m 86) = 119 → ¬ wr (hrR m 86) = 112 → wr (hrR m 86) = 105 → False)
    (o54 : wr (m 74 17) = (-1) → ¬ wr (hrR m 86) = 45 → wr (m 74 17) = (-1) → wr (hrR m 86) = 40 → ¬ wr (d : Int) < 4 → wr (hrR m 86) < 48 → ¬ wr (hrR m 86) = 104 → ¬ wr (hrR m 86) = 108 → ¬ wr (hrR m 86) = 119 → ¬ wr (hrR m 86) = 112 → ¬ wr (hrR m 86) = 105 → ¬ wr (m 74 17) = (-1) → False)
    (o55 : wr (m 74 17) = (-1) → ¬ wr (hrR m 86) = 45 → wr (m 74 17) = (-1) → wr (hrR m 86) = 40 → ¬ wr (d : Int) < 4 → wr (hrR m 86) < 48 → ¬ wr (hrR m 86) = 104 → ¬ wr (hrR m 86) = 108 → ¬ wr (hrR m 86) = 119 → ¬ wr (hrR m 86) = 112 → ¬ wr (hrR m 86) = 105 → wr (m 74 17) = (-1) → κ (some (zi 0)) (zu m 74 17 (m 74 16)))
    (o56 : wr (m 74 17) = (-1) → ¬ wr (hrR m 86) = 45 → wr (m 74 17) = (-1) → wr (hrR m 86) = 40 → ¬ wr (d : Int) < 4 → ¬ wr (hrR m 86) < 48 → False)
    (o57 : wr (m 74 17) = (-1) → ¬ wr (hrR m 86) = 45 → wr (m 74 17) = (-1) → wr (hrR m 86) = 40 → wr (d : Int) < 4 → T (D + 3) 208 (0, [(0, zr 74), (1, zi ((d : Int) + 1))], [], (zu m 74 16 ((m 74 16) + 1))) (fun r m1 => T (D + 4) 211 (58, [(0, zr 74), (1, zi (d : Int)), (2, zi (hrR m 86))], r.toList ++ [], m1) κ)) :
    T (D + 4) 211 (0, [(0, zr 74), (1, zi (d : Int))], [], m) κ :=
  hT.1 [(83, [0, 3, 4])] 6 (D + 4) 211 _ κ (hT.1 [] 6 (D + 3) 201 _ _ (hT.1 [] 6 (D + 2) 199 _ _ (And.intro (fun a1 => (o1 a1).elim) (fun a2 => (hT.1 [] 6 (D + 2) 199 (13, [(0, zr 74)], [zi 1], m) _ (And.intro (z_b01L rfl) (hT.1 [] 6 (D + 3) 201 _ _ (And.intro (fun a3 => (z_litF a3 rfl).elim) (fun _ => (z_here86 hT (o2 (Classical.byContradiction a2)) (o3 (Classical.byContradiction a2)) (o4 (Classical.byContradiction a2)) (o5 (Classical.byContradiction a2)) (hT.1 [] 6 (D + 3) 201 _ _ (And.intro (fun a4 => (hT.1 [] 6 (D + 3) 201 (23, [(0, zr 74), (1, zi 45)], [zi 1, zi (m 74 16), zr 74], m) _ (And.intro trivial (And.intro (z_b01L rfl) (hT.1 [(83, [0, 3, 4])] 6 (D + 4) 211 _ _ (And.intro (fun a6 => (z_litF a6 rfl).elim) (fun _ => (o6 (Classical.byContradiction a2) a4)))))))) (fun a5 => (And.intro (z_b01L rfl) (hT.1 [(83, [0, 3, 4])] 6 (D + 4) 211 _ _ (And.intro (fun _ => (hT.1 [] 6 (D + 3) 199 _ _ (And.intro (fun a8 => (o7 (Classical.byContradiction a2) a5 a8).elim) (fun a9 => (hT.1 [] 6 (D + 3) 199 (13, [(0, zr 74)], [zi 1], m) _ (And.intro (z_b01L rfl) (hT.1 [(83, [0, 3, 4])] 6 (D + 4) 211 _ _ (And.intro (fun _ => (z_here86 hT (o8 (Classical.byContradiction a2) a5 (Classical.byContradiction a9)) (o9 (Classical.byContradiction a2) a5 (Classical.byContradiction a9)) (o10 (Classical.byContradiction a2) a5 (Classical.byContradiction a9)) (o11 (Classical.byContradiction a2) a5 (Classical.byContradiction a9)) (hT.1 [(83, [0, 3, 4])] 6 (D + 4) 211 _ _ (And.intro (fun a11 => (hT.1 [(83, [0, 3, 4])] 6 (D + 4) 211 (70, [(0, zr 74), (1, zi (d : Int)), (2, zi (hrR m 86))], [zi 48, zi (hrR m 86)], m) _ (hT.1 [] 6 (D + 3) 186 _ _ (And.intro (fun a13 => (And.intro (z_b01L rfl) (hT.1 [(83, [0, 3, 4])] 6 (D + 4) 211 _ _ (And.intro (fun _ => (And.intro (fun a16 => (o12 (Classical.byContradiction a2) a5 (Classical.byContradiction a9) a11 a13 a16).elim) (fun a17 => (hT.1 [(83, [0, 3, 4])] 6 (D + 4) 211 (133, [(0, zr 74), (1, zi (d : Int)), (2, zi (hrR m 86))], [zi 108, zi (hrR m 86)], m) _ (And.intro (fun a18 => (o13 (Classical.byContradiction a2) a5 (Classical.byContradiction a9) a11 a13 a17 a18).elim) (fun a19 => (And.intro (fun a20 => (o14 (Classical.byContradiction a2) a5 (Classical.byContradiction a9) a11 a13 a17 a19 a20).elim) (fun a21 => (hT.1 [(83, [0, 3, 4])] 6 (D + 4) 211 (145, [(0, zr 74), (1, zi (d : Int)), (2, zi (hrR m 86))], [zi 112, zi (hrR m 86)], m) _ (And.intro (fun a22 => (o15 (Classical.byContradiction a2) a5 (Classical.byContradiction a9) a11 a13 a17 a19 a21 a22).elim) (fun a23 => (And.intro (fun a24 => (o16 (Classical.byContradiction a2) a5 (Classical.byContradiction a9) a11 a13 a17 a19 a21 a23 a24).elim) (fun a25 => (hT.1 [(83, [0, 3, 4])] 6 (D + 4) 211 (156, [(0, zr 74), (1, zi (d : Int)), (2, zi (hrR m 86))], [zr 74, zr 74], m) _ (hT.1 [] 6 (D + 3) 200 _ _ (hT.1 [] 6 (D + 2) 199 _ _ (And.intro (fun a26 => (o17 (Classical.byContradiction a2) a5 (Classical.byContradiction a9) a11 a13 a17 a19 a21 a23 a25 a26).elim) (fun a27 => (hT.1 [] 6 (D + 2) 199 (13, [(0, zr 74)], [zi 1], m) _ (And.intro (z_b01L rfl) (hT.1 [] 6 (D + 3) 200 _ _ (And.intro (fun a28 => (z_litF a28 rfl).elim) (fun _ => (And.intro trivial (hT.1 [(83, [0, 3, 4])] 6 (D + 4) 211 _ _ (o18 (Classical.byContradiction a2) a5 (Classical.byContradiction a9) a11 a13 a17 a19 a21 a23 a25 (Classical.byContradiction a27))))))))))))))))))))))))))) (fun a15 => (a15 (z_litT rfl)).elim))))) (fun a14 => (And.intro (fun a29 => (hT.1 [] 6 (D + 3) 186 (14, [(0, zi (hrR m 86)), (1, zi 48), (2, zi 57)], [], m) _ (And.intro (z_b01L rfl) (hT.1 [(83, [0, 3, 4])] 6 (D + 4) 211 _ _ (And.intro (fun _ => (And.intro (fun a32 => (hT.1 [(83, [0, 3, 4])] 6 (D + 4) 211 (166, [(0, zr 74), (1, zi (d : Int)), (2, zi (hrR m 86))], [zr 74, zr 74], m) _ (And.intro trivial (hT.1 [(83, [0, 3, 4])] 6 (D + 4) 211 (178, [(0, zr 74), (1, zi (d : Int)), (2, zi (hrR m 86))], [zi (m 74 26)], (zu m 74 16 ((m 74 16) + 1))) _ (And.intro (fun a34 => (And.intro (fun a36 => (o19 (Classical.byContradiction a2) a5 (Classical.byContradiction a9) a11 a14 a29 a32 a34 a36).elim) (fun a37 => (hT.1 [(83, [0, 3, 4])] 6 (D + 4) 211 (193, [(0, zr 74), (1, zi (d : Int)), (2, zi (hrR m 86))], [zi (m 74 28)], (zu m 74 16 ((m 74 16) + 1))) _ (o20 (Classical.byContradiction a2) a5 (Classical.byContradiction a9) a11 a14 a29 a32 a34 (Classical.byContradiction a37)))))) (fun a35 => (o21 (Classical.byContradiction a2) a5 (Classical.byContradiction a9) a11 a14 a29 a32 (Classical.byContradiction a35)))))))) (fun a33 => (hT.1 [(83, [0, 3, 4])] 6 (D + 4) 211 (133, [(0, zr 74), (1, zi (d : Int)), (2, zi (hrR m 86))], [zi 108, zi (hrR m 86)], m) _ (And.intro (fun a38 => (hT.1 [(83, [0, 3, 4])] 6 (D + 4) 211 (171, [(0, zr 74), (1, zi (d : Int)), (2, zi (hrR m 86))], [zi ((m 74 16) + 1), zr 74], m) _ (And.intro trivial (And.intro (fun a40 => (hT.1 [(83, [0, 3, 4])] 6 (D + 4) 211 (186, [(0, zr 74), (1, zi (d : Int)), (2, zi (hrR m 86))], [zi 104, zi (hrR m 86)], (zu m 74 16 ((m 74 16) + 1))) _ (And.intro (fun a42 => (And.intro (fun a44 => (o22 (Classical.byContradiction a2) a5 (Classical.byContradiction a9) a11 a14 a29 a33 a38 a40 a42 a44).elim) (fun a45 => (hT.1 [(83, [0, 3, 4])] 6 (D + 4) 211 (204, [(0, zr 74), (1, zi (d : Int)), (2, zi (hrR m 86))], [zr 74, zr 74], (zu m 74 16 ((m 74 16) + 1))) _ (hT.1 [] 6 (D + 3) 213 _ _ (hT.1 [] 6 (D + 3) 213 (9, [(0, zr 74), (1, zi (m 74 29)), (2, zi (m 74 30))], [zi (m 74 30), zi (26 * (m 74 29)), zr 76], (zu m 74 16 ((m 74 16) + 1))) _ (And.intro (o23 (Classical.byContradiction a2) a5 (Classical.byContradiction a9) a11 a14 a29 a33 a38 a40 a42 (Classical.byContradiction a45)) (And.intro (o24 (Classical.byContradiction a2) a5 (Classical.byContradiction a9) a11 a14 a29 a33 a38 a40 a42 (Classical.byContradiction a45)) (hT.1 [] 6 (D + 3) 213 (17, [(0, zr 74), (1, zi (m 74 29)), (2, zi (m 74 30))], [zi ((26 * (m 74 29)) + (Int.tmod (wr (m 74 30)) (wr (m 77 ((wr (m 74 29)).toNat))))), zr 76], (zu m 74 16 ((m 74 16) + 1))) _ (And.intro (o25 (Classical.byContradiction a2) a5 (Classical.byContradiction a9) a11 a14 a29 a33 a38 a40 a42 (Classical.byContradiction a45)) (hT.1 [(83, [0, 3, 4])] 6 (D + 4) 211 _ _ (o26 (Classical.byContradiction a2) a5 (Classical.byContradiction a9) a11 a14 a29 a33 a38 a40 a42 (Classical.byContradiction a45))))))))))))) (fun a43 => (o27 (Classical.byContradiction a2) a5 (Classical.byContradiction a9) a11 a14 a29 a33 a38 a40 (Classical.byContradiction a43)).elim)))) (fun a41 => (o28 (Classical.byContradiction a2) a5 (Classical.byContradiction a9) a11 a14 a29 a33 a38 (Classical.byContradiction a41))))))) (fun a39 => (And.intro (fun a46 => (hT.1 [(83, [0, 3, 4])] 6 (D + 4) 211 (166, [(0, zr 74), (1, zi (d : Int)), (2, zi (hrR m 86))], [zr 74, zr 74], m) _ (And.intro trivial (hT.1 [(83, [0, 3, 4])] 6 (D + 4) 211 (178, [(0, zr 74), (1, zi (d : Int)), (2, zi (hrR m 86))], [zi (m 74 26)], (zu m 74 16 ((m 74 16) + 1))) _ (And.intro (fun a48 => (And.intro (fun a50 => (hT.1 [(83, [0, 3, 4])] 6 (D + 4) 211 (199, [(0, zr 74), (1, zi (d : Int)), (2, zi (hrR m 86))], [zi 108, zi (hrR m 86)], (zu m 74 16 ((m 74 16) + 1))) _ (And.intro (fun a52 => (And.intro (fun a54 => (o29 (Classical.byContradiction a2) a5 (Classical.byContradiction a9) a11 a14 a29 a33 a39 a46 a48 a50 a52 a54).elim) (fun a55 => (hT.1 [(83, [0, 3, 4])] 6 (D + 4) 211 (227, [(0, zr 74), (1, zi (d : Int)), (2, zi (hrR m 86))], [zi (m 74 30)], (zu m 74 16 ((m 74 16) + 1))) _ (o30 (Classical.byContradiction a2) a5 (Classical.byContradiction a9) a11 a14 a29 a33 a39 a46 a48 a50 a52 (Classical.byContradiction a55)))))) (fun a53 => (o31 (Classical.byContradiction a2) a5 (Classical.byContradiction a9) a11 a14 a29 a33 a39 a46 a48 a50 (Classical.byContradiction a53)).elim)))) (fun a51 => (o32 (Classical.byContradiction a2) a5 (Classical.byContradiction a9) a11 a14 a29 a33 a39 a46 a48 (Classical.byContradiction a51)).elim))) (fun a49 => (o33 (Classical.byContradiction a2) a5 (Classical.byContradiction a9) a11 a14 a29 a33 a39 a46 (Classical.byContradiction a49)))))))) (fun a47 => (hT.1 [(83, [0, 3, 4])] 6 (D + 4) 211 (145, [(0, zr 74), (1, zi (d : Int)), (2, zi (hrR m 86))], [zi 112, zi (hrR m 86)], m) _ (And.intro (fun a56 => (hT.1 [(83, [0, 3, 4])] 6 (D + 4) 211 (171, [(0, zr 74), (1, zi (d : Int)), (2, zi (hrR m 86))], [zi ((m 74 16) + 1), zr 74], m) _ (And.intro trivial (And.intro (fun a58 => (hT.1 [(83, [0, 3, 4])] 6 (D + 4) 211 (186, [(0, zr 74), (1, zi (d : Int)), (2, zi (hrR m 86))], [zi 104, zi (hrR m 86)], (zu m 74 16 ((m 74 16) + 1))) _ (And.intro (fun a60 => (And.intro (fun a62 => (hT.1 [(83, [0, 3, 4])] 6 (D + 4) 211 (220, [(0, zr 74), (1, zi (d : Int)), (2, zi (hrR m 86))], [zi 119, zi (hrR m 86)], (zu m 74 16 ((m 74 16) + 1))) _ (And.intro (fun a64 => (And.intro (fun a66 => (o34 (Classical.byContradiction a2) a5 (Classical.byContradiction a9) a11 a14 a29 a33 a39 a47 a56 a58 a60 a62 a64 a66).elim) (fun a67 => (hT.1 [(83, [0, 3, 4])] 6 (D + 4) 211 (240, [(0, zr 74), (1, zi (d : Int)), (2, zi (hrR m 86))], [zi (m 74 29)], (zu m 74 16 ((m 74 16) + 1))) _ (o35 (Classical.byContradiction a2) a5 (Classical.byContradiction a9) a11 a14 a29 a33 a39 a47 a56 a58 a60 a62 a64 (Classical.byContradiction a67)))))) (fun a65 => (o36 (Classical.byContradiction a2) a5 (Classical.byContradiction a9) a11 a14 a29 a33 a39 a47 a56 a58 a60 a62 (Classical.byContradiction a65)).elim)))) (fun a63 => (o37 (Classical.byContradiction a2) a5 (Classical.byContradiction a9) a11 a14 a29 a33 a39 a47 a56 a58 a60 (Classical.byContradiction a63)).elim))) (fun a61 => (o38 (Classical.byContradiction a2) a5 (Classical.byContradiction a9) a11 a14 a29 a33 a39 a47 a56 a58 (Classical.byContradiction a61)).elim)))) (fun a59 => (o39 (Classical.byContradiction a2) a5 (Classical.byContradiction a9) a11 a14 a29 a33 a39 a47 a56 (Classical.byContradiction a59))))))) (fun a57 => (And.intro (fun a68 => (hT.1 [(83, [0, 3, 4])] 6 (D + 4) 211 (166, [(0, zr 74), (1, zi (d : Int)), (2, zi (hrR m 86))], [zr 74, zr 74], m) _ (And.intro trivial (hT.1 [(83, [0, 3, 4])] 6 (D + 4) 211 (178, [(0, zr 74), (1, zi (d : Int)), (2, zi (hrR m 86))], [zi (m 74 26)], (zu m 74 16 ((m 74 16) + 1))) _ (And.intro (fun a70 => (And.intro (fun a72 => (hT.1 [(83, [0, 3, 4])] 6 (D + 4) 211 (199, [(0, zr 74), (1, zi (d : Int)), (2, zi (hrR m 86))], [zi 108, zi (hrR m 86)], (zu m 74 16 ((m 74 16) + 1))) _ (And.intro (fun a74 => (And.intro (fun a76 => (hT.1 [(83, [0, 3, 4])] 6 (D + 4) 211 (233, [(0, zr 74), (1, zi (d : Int)), (2, zi (hrR m 86))], [zi 112, zi (hrR m 86)], (zu m 74 16 ((m 74 16) + 1))) _ (And.intro (fun a78 => (o40 (Classical.byContradiction a2) a5 (Classical.byContradiction a9) a11 a14 a29 a33 a39 a47 a57 a68 a70 a72 a74 a76 a78)) (fun a79 => (o41 (Classical.byContradiction a2) a5 (Classical.byContradiction a9) a11 a14 a29 a33 a39 a47 a57 a68 a70 a72 a74 a76 (Classical.byContradiction a79)).elim)))) (fun a77 => (o42 (Classical.byContradiction a2) a5 (Classical.byContradiction a9) a11 a14 a29 a33 a39 a47 a57 a68 a70 a72 a74 (Classical.byContradiction a77)).elim))) (fun a75 => (o43 (Classical.byContradiction a2) a5 (Classical.byContradiction a9) a11 a14 a29 a33 a39 a47 a57 a68 a70 a72 (Classical.byContradiction a75)).elim)))) (fun a73 => (o44 (Classical.byContradiction a2) a5 (Classical.byContradiction a9) a11 a14 a29 a33 a39 a47 a57 a68 a70 (Classical.byContradiction a73)).elim))) (fun a71 => (o45 (Classical.byContradiction a2) a5 (Classical.byContradiction a9) a11 a14 a29 a33 a39 a47 a57 a68 (Classical.byContradiction a71)))))))) (fun a69 => (hT.1 [(83, [0, 3, 4])] 6 (D + 4) 211 (156, [(0, zr 74), (1, zi (d : Int)), (2, zi (hrR m 86))], [zr 74, zr 74], m) _ (hT.1 [] 6 (D + 3) 200 _ _ (hT.1 [] 6 (D + 2) 199 _ _ (And.intro (fun a80 => (o46 (Classical.byContradiction a2) a5 (Classical.byContradiction a9) a11 a14 a29 a33 a39 a47 a57 a69 a80).elim) (fun a81 => (hT.1 [] 6 (D + 2) 199 (13, [(0, zr 74)], [zi 1], m) _ (And.intro (z_b01L rfl) (hT.1 [] 6 (D + 3) 200 _ _ (And.intro (fun a82 => (z_litF a82 rfl).elim) (fun _ => (And.intro trivial (hT.1 [(83, [0, 3, 4])] 6 (D + 4) 211 _ _ (o47 (Classical.byContradiction a2) a5 (Classical.byContradiction a9) a11 a14 a29 a33 a39 a47 a57 a69 (Classical.byContradiction a81))))))))))))))))))))))))))) (fun a31 => (a31 (z_litT rfl)).elim)))))) (fun a30 => (hT.1 [] 6 (D + 3) 186 (10, [(0, zi (hrR m 86)), (1, zi 48), (2, zi 57)], [], m) _ (And.intro (z_b01L rfl) (hT.1 [(83, [0, 3, 4])] 6 (D + 4) 211 _ _ (And.intro (fun a83 => (z_litF a83 rfl).elim) (fun _ => (o48 (Classical.byContradiction a2) a5 (Classical.byContradiction a9) a11 a14 a30))))))))))))) (fun a12 => (hT.1 [(83, [0, 3, 4])] 6 (D + 4) 211 (38, [(0, zr 74), (1, zi (d : Int)), (2, zi (hrR m 86))], [zi 4, zi (d : Int)], m) _ (And.intro (fun a84 => (hT.1 [] 6 (D + 3) 186 _ _ (And.intro (fun a86 => (And.intro (z_b01L rfl) (hT.1 [(83, [0, 3, 4])] 6 (D + 4) 211 _ _ (And.intro (fun _ => (And.intro (fun a89 => (o49 (Classical.byContradiction a2) a5 (Classical.byContradiction a9) (Classical.byContradiction a12) a84 a86 a89).elim) (fun a90 => (hT.1 [(83, [0, 3, 4])] 6 (D + 4) 211 (133, [(0, zr 74), (1, zi (d : Int)), (2, zi (hrR m 86))], [zi 108, zi (hrR m 86)], m) _ (And.intro (fun a91 => (o50 (Classical.byContradiction a2) a5 (Classical.byContradiction a9) (Classical.byContradiction a12) a84 a86 a90 a91).elim) (fun a92 => (And.intro (fun a93 => (o51 (Classical.byContradiction a2) a5 (Classical.byContradiction a9) (Classical.byContradiction a12) a84 a86 a90 a92 a93).elim) (fun a94 => (hT.1 [(83, [0, 3, 4])] 6 (D + 4) 211 (145, [(0, zr 74), (1, zi (d : Int)), (2, zi (hrR m 86))], [zi 112, zi (hrR m 86)], m) _ (And.intro (fun a95 => (o52 (Classical.byContradiction a2) a5 (Classical.byContradiction a9) (Classical.byContradiction a12) a84 a86 a90 a92 a94 a95).elim) (fun a96 => (And.intro (fun a97 => (o53 (Classical.byContradiction a2) a5 (Classical.byContradiction a9) (Classical.byContradiction a12) a84 a86 a90 a92 a94 a96 a97).elim) (fun a98 => (hT.1 [(83, [0, 3, 4])] 6 (D + 4) 211 (156, [(0, zr 74), (1, zi (d : Int)), (2, zi (hrR m 86))], [zr 74, zr 74], m) _ (hT.1 [] 6 (D + 3) 200 _ _ (hT.1 [] 6 (D + 2) 199 _ _ (And.intro (fun a99 => (o54 (Classical.byContradiction a2) a5 (Classical.byContradiction a9) (Classical.byContradiction a12) a84 a86 a90 a92 a94 a96 a98 a99).elim) (fun a100 => (hT.1 [] 6 (D + 2) 199 (13, [(0, zr 74)], [zi 1], m) _ (And.intro (z_b01L rfl) (hT.1 [] 6 (D + 3) 200 _ _ (And.intro (fun a101 => (z_litF a101 rfl).elim) (fun _ => (And.intro trivial (hT.1 [(83, [0, 3, 4])] 6 (D + 4) 211 _ _ (o55 (Classical.byContradiction a2) a5 (Classical.byContradiction a9) (Classical.byContradiction a12) a84 a86 a90 a92 a94 a96 a98 (Classical.byContradiction a100))))))))))))))))))))))))))) (fun a88 => (a88 (z_litT rfl)).elim))))) (fun a87 => (o56 (Classical.byContradiction a2) a5 (Classical.byContradiction a9) (Classical.byContradiction a12) a84 a87).elim)))) (fun a85 => (hT.1 [(83, [0, 3, 4])] 6 (D + 4) 211 (48, [(0, zr 74), (1, zi (d : Int)), (2, zi (hrR m 86))], [zi ((m 74 16) + 1), zr 74], m) _ (And.intro trivial (o57 (Classical.byContradiction a2) a5 (Classical.byContradiction a9) (Classical.byContradiction a12) (Classical.byContradiction a85)))))))))))) (fun a10 => (a10 (z_litT rfl)).elim))))))))) (fun a7 => (a7 (z_litT rfl)).elim)))))))))))))))))
theorem zb211_0_86 (hT : zRules T) {D : Nat} {κ : Option zA → zM → Prop} {m : zM} {d : Nat}  (hB : zB m) (hrd : m 74 13 = 86) (h_d : d ≤ 4) (hf0 : (-1) ≤ m 74 17 ∧ m 74 17 ≤ (-1)) (hf1 : 0 ≤ m 74 16 ∧ m 74 16 ≤ 90) (hf2 : 0 ≤ m 74 15 ∧ m 74 15 ≤ 40) 
    (k1 : (hrR m 86) = 45 → zB (zu m 74 16 ((m 74 16) + 1)) → T (D + 3) 211 (0, [(0, zr 74), (1, zi (d : Int))], [], (zu m 74 16 ((m 74 16) + 1))) (fun r m1 => T (D + 4) 211 (14, [(0, zr 74), (1, zi (d : Int))], r.toList ++ [], m1) κ))
    (k2 : ¬ (hrR m 86) = 45 → ¬ (hrR m 86) = 40 → (hrR m 86) < 48 → zB (zu m 74 17 (m 74 16)) → κ (some (zi 0)) (zu m 74 17 (m 74 16)))
    (k3 : ¬ (hrR m 86) = 45 → ¬ (hrR m 86) = 40 → ¬ (hrR m 86) < 48 → 57 < (hrR m 86) → (hrR m 86) = 104 → ¬ (m 74 26) = 0 → zB (zu m 74 16 ((m 74 16) + 1)) → κ (some (zi (wr (m 74 28)))) (zu m 74 16 ((m 74 16) + 1)))
    (k4 : ¬ (hrR m 86) = 45 → ¬ (hrR m 86) = 40 → ¬ (hrR m 86) < 48 → 57 < (hrR m 86) → (hrR m 86) = 104 → (m 74 26) = 0 → zB (zu m 74 16 ((m 74 16) + 1)) → κ (some (zi 0)) (zu m 74 16 ((m 74 16) + 1)))
    (k5 : ¬ (hrR m 86) = 45 → ¬ (hrR m 86) = 40 → ¬ (hrR m 86) < 48 → 57 < (hrR m 86) → ¬ (hrR m 86) = 104 → (hrR m 86) = 108 → ¬ (m 74 26) = 0 → (0 ≤ wr (m 74 29) ∧ wr (m 74 29) < 4))
    (k6 : ¬ (hrR m 86) = 45 → ¬ (hrR m 86) = 40 → ¬ (hrR m 86) < 48 → 57 < (hrR m 86) → ¬ (hrR m 86) = 104 → (hrR m 86) = 108 → ¬ (m 74 26) = 0 → ¬ (m 77 ((wr (m 74 29)).toNat)) = 0)
    (k7 : ¬ (hrR m 86) = 45 → ¬ (hrR m 86) = 40 → ¬ (hrR m 86) < 48 → 57 < (hrR m 86) → ¬ (hrR m 86) = 104 → (hrR m 86) = 108 → ¬ (m 74 26) = 0 → (0 ≤ wr ((26 * (m 74 29)) + (Int.tmod (wr (m 74 30)) (m 77 ((wr (m 74 29)).toNat)))) ∧ wr ((26 * (m 74 29)) + (Int.tmod (wr (m 74 30)) (m 77 ((wr (m 74 29)).toNat)))) < 104))
    (k8 : ¬ (hrR m 86) = 45 → ¬ (hrR m 86) = 40 → ¬ (hrR m 86) < 48 → 57 < (hrR m 86) → ¬ (hrR m 86) = 104 → (hrR m 86) = 108 → ¬ (m 74 26) = 0 → zB (zu m 74 16 ((m 74 16) + 1)) → κ (some (zi (m 76 ((wr ((26 * (m 74 29)) + (Int.tmod (wr (m 74 30)) (m 77 ((wr (m 74 29)).toNat))))).toNat)))) (zu m 74 16 ((m 74 16) + 1)))
    (k9 : ¬ (hrR m 86) = 45 → ¬ (hrR m 86) = 40 → ¬ (hrR m 86) < 48 → 57 < (hrR m 86) → ¬ (hrR m 86) = 104 → (hrR m 86) = 108 → (m 74 26) = 0 → zB (zu m 74 16 ((m 74 16) + 1)) → κ (some (zi 0)) (zu m 74 16 ((m 74 16) + 1)))
    (k10 : ¬ (hrR m 86) = 45 → ¬ (hrR m 86) = 40 → ¬ (hrR m 86) < 48 → 57 < (hrR m 86) → ¬ (hrR m 86) = 104 → ¬ (hrR m 86) = 108 → (hrR m 86) = 119 → ¬ (m 74 26) = 0 → zB (zu m 74 16 ((m 74 16) + 1)) → κ (some (zi (wr (m 74 30)))) (zu m 74 16 ((m 74 16) + 1)))
    (k11 : ¬ (hrR m 86) = 45 → ¬ (hrR m 86) = 40 → ¬ (hrR m 86) < 48 → 57 < (hrR m 86) → ¬ (hrR m 86) = 104 → ¬ (hrR m 86) = 108 → (hrR m 86) = 119 → (m 74 26) = 0 → zB (zu m 74 16 ((m 74 16) + 1)) → κ (some (zi 0)) (zu m 74 16 ((m 74 16) + 1)))
    (k12 : ¬ (hrR m 86) = 45 → ¬ (hrR m 86) = 40 → ¬ (hrR m 86) < 48 → 57 < (hrR m 86) → ¬ (hrR m 86) = 104 → ¬ (hrR m 86) = 108 → ¬ (hrR m 86) = 119 → (hrR m 86) = 112 → ¬ (m 74 26) = 0 → zB (zu m 74 16 ((m 74 16) + 1)) → κ (some (zi (wr (m 74 29)))) (zu m 74 16 ((m 74 16) + 1)))
    (k13 : ¬ (hrR m 86) = 45 → ¬ (hrR m 86) = 40 → ¬ (hrR m 86) < 48 → 57 < (hrR m 86) → ¬ (hrR m 86) = 104 → ¬ (hrR m 86) = 108 → ¬ (hrR m 86) = 119 → (hrR m 86) = 112 → (m 74 26) = 0 → zB (zu m 74 16 ((m 74 16) + 1)) → κ (some (zi 0)) (zu m 74 16 ((m 74 16) + 1)))
    (k14 : ¬ (hrR m 86) = 45 → ¬ (hrR m 86) = 40 → ¬ (hrR m 86) < 48 → 57 < (hrR m 86) → ¬ (hrR m 86) = 104 → ¬ (hrR m 86) = 108 → ¬ (hrR m 86) = 119 → ¬ (hrR m 86) = 112 → (hrR m 86) = 105 → ¬ (m 74 26) = 0 → zB (zu m 74 16 ((m 74 16) + 1)) → κ (some (zi (wr (m 74 27)))) (zu m 74 16 ((m 74 16) + 1)))
    (k15 : ¬ (hrR m 86) = 45 → ¬ (hrR m 86) = 40 → ¬ (hrR m 86) < 48 → 57 < (hrR m 86) → ¬ (hrR m 86) = 104 → ¬ (hrR m 86) = 108 → ¬ (hrR m 86) = 119 → ¬ (hrR m 86) = 112 → (hrR m 86) = 105 → (m 74 26) = 0 → zB (zu m 74 16 ((m 74 16) + 1)) → κ (some (zi 0)) (zu m 74 16 ((m 74 16) + 1)))
    (k16 : ¬ (hrR m 86) = 45 → ¬ (hrR m 86) = 40 → ¬ (hrR m 86) < 48 → 57 < (hrR m 86) → ¬ (hrR m 86) = 104 → ¬ (hrR m 86) = 108 → ¬ (hrR m 86) = 119 → ¬ (hrR m 86) = 112 → ¬ (hrR m 86) = 105 → zB (zu m 74 17 (m 74 16)) → κ (some (zi 0)) (zu m 74 17 (m 74 16)))
    (k17 : ¬ (hrR m 86) = 45 → ¬ (hrR m 86) = 40 → ¬ (hrR m 86) < 48 → ¬ 57 < (hrR m 86) → T (D + 4) 211 (83, [(0, zr 74), (3, zi 0), (4, zi 0)], [], m) κ)
    (k18 : ¬ (hrR m 86) = 45 → (hrR m 86) = 40 → ¬ (d : Int) < 4 → zB (zu m 74 17 (m 74 16)) → κ (some (zi 0)) (zu m 74 17 (m 74 16)))
    (k19 : ¬ (hrR m 86) = 45 → (hrR m 86) = 40 → (d : Int) < 4 → zB (zu m 74 16 ((m 74 16) + 1)) → T (D + 3) 208 (0, [(0, zr 74), (1, zi ((d : Int) + 1))], [], (zu m 74 16 ((m 74 16) + 1))) (fun r m1 => T (D + 4) 211 (58, [(0, zr 74), (1, zi (d : Int)), (2, zi (hrR m 86))], r.toList ++ [], m1) κ)) :
    T (D + 4) 211 (0, [(0, zr 74), (1, zi (d : Int))], [], m) κ := by
  have hb4 : 0 ≤ (m 74 14) ∧ (m 74 14) ≤ 80 := hB 74 14
  have hb5 : (-1) ≤ (hrR m 86) ∧ (hrR m 86) ≤ 255 := hrRB m 86
  have hb6 : 0 ≤ (m 74 26) ∧ (m 74 26) ≤ 1 := hB 74 26
  have hb7 : (-2147483648) ≤ wr (m 74 28) ∧ wr (m 74 28) ≤ 2147483647 := wrB (m 74 28)
  have hb8 : (-2147483648) ≤ wr (m 74 29) ∧ wr (m 74 29) ≤ 2147483647 := wrB (m 74 29)
  have hb9 : 0 ≤ (m 77 ((wr (m 74 29)).toNat)) ∧ (m 77 ((wr (m 74 29)).toNat)) ≤ 26 := hB 77 ((wr (m 74 29)).toNat)
  have hb10 : (-2147483648) ≤ wr (m 74 30) ∧ wr (m 74 30) ≤ 2147483647 := wrB (m 74 30)
  have hb11 : (-2147483648) ≤ wr ((26 * (m 74 29)) + (Int.tmod (wr (m 74 30)) (m 77 ((wr (m 74 29)).toNat)))) ∧ wr ((26 * (m 74 29)) + (Int.tmod (wr (m 74 30)) (m 77 ((wr (m 74 29)).toNat)))) ≤ 2147483647 := wrB ((26 * (m 74 29)) + (Int.tmod (wr (m 74 30)) (m 77 ((wr (m 74 29)).toNat))))
  have hb12 : 0 ≤ (m 76 ((wr ((26 * (m 74 29)) + (Int.tmod (wr (m 74 30)) (m 77 ((wr (m 74 29)).toNat))))).toNat)) ∧ (m 76 ((wr ((26 * (m 74 29)) + (Int.tmod (wr (m 74 30)) (m 77 ((wr (m 74 29)).toNat))))).toNat)) ≤ 9 := hB 76 ((wr ((26 * (m 74 29)) + (Int.tmod (wr (m 74 30)) (m 77 ((wr (m 74 29)).toNat))))).toNat)
  have hb13 : (-2147483648) ≤ wr (m 74 27) ∧ wr (m 74 27) ≤ 2147483647 := wrB (m 74 27)
  have he0 : wr (m 74 17) = (m 74 17) := wr_id (by omega) (by omega)
  have he1 : wr (hrR m 86) = (hrR m 86) := wr_id (by omega) (by omega)
  have he2 : wr (d : Int) = (d : Int) := wr_id (by omega) (by omega)
  have he3 : wr (m 74 26) = (m 74 26) := wr_id (by omega) (by omega)
  have he4 : wr (m 77 ((wr (m 74 29)).toNat)) = (m 77 ((wr (m 74 29)).toNat)) := wr_id (by omega) (by omega)
  have he5 : wr (m 76 ((wr ((26 * (m 74 29)) + (Int.tmod (wr (m 74 30)) (m 77 ((wr (m 74 29)).toNat))))).toNat)) = (m 76 ((wr ((26 * (m 74 29)) + (Int.tmod (wr (m 74 30)) (m 77 ((wr (m 74 29)).toNat))))).toNat)) := wr_id (by omega) (by omega)
  have key := @zb211_0_86r T hT D κ m d
  simp only [he0, he1, he2, he3, he4, he5, Int.toNat_natCast] at key
  exact key
    (fun x0 => by omega)
    (fun x0 => hrd)
    (fun x0 => by refine ⟨?_, ?_⟩ <;> omega)
    (fun x0 => by refine ⟨?_, ?_⟩ <;> omega)
    (fun x0 => by refine ⟨?_, ?_⟩ <;> omega)
    (fun x0 x1 => k1 x1 (zB_u hB (show 0 ≤ ((m 74 16) + 1) ∧ ((m 74 16) + 1) ≤ 100 from ⟨by omega, by omega⟩)))
    (fun x0 x1 x2 => by omega)
    (fun x0 x1 x2 => hrd)
    (fun x0 x1 x2 => by refine ⟨?_, ?_⟩ <;> omega)
    (fun x0 x1 x2 => by refine ⟨?_, ?_⟩ <;> omega)
    (fun x0 x1 x2 => by refine ⟨?_, ?_⟩ <;> omega)
    (fun x0 x1 x2 x3 x4 x5 => by omega)
    (fun x0 x1 x2 x3 x4 x5 x6 => by omega)
    (fun x0 x1 x2 x3 x4 x5 x6 x7 => by omega)
    (fun x0 x1 x2 x3 x4 x5 x6 x7 x8 => by omega)
    (fun x0 x1 x2 x3 x4 x5 x6 x7 x8 x9 => by omega)
    (fun x0 x1 x2 x3 x4 x5 x6 x7 x8 x9 x10 => by omega)
    (fun x0 x1 x2 x3 x4 x5 x6 x7 x8 x9 x10 => k2 x1 x3 x4 (zB_u hB trivial))
    (fun x0 x1 x2 x3 x4 x5 x6 x7 x8 => by omega)
    (fun x0 x1 x2 x3 x4 x5 x6 x7 x8 => k3 x1 x3 x4 x5 x6 x7 (zB_u hB (show 0 ≤ ((m 74 16) + 1) ∧ ((m 74 16) + 1) ≤ 100 from ⟨by omega, by omega⟩)))
    (fun x0 x1 x2 x3 x4 x5 x6 x7 => k4 x1 x3 x4 x5 x6 x7 (zB_u hB (show 0 ≤ ((m 74 16) + 1) ∧ ((m 74 16) + 1) ≤ 100 from ⟨by omega, by omega⟩)))
    (fun x0 x1 x2 x3 x4 x5 x6 x7 x8 x9 x10 => by omega)
    (fun x0 x1 x2 x3 x4 x5 x6 x7 x8 x9 x10 => k5 x1 x3 x4 x5 x6 x7 x8)
    (fun x0 x1 x2 x3 x4 x5 x6 x7 x8 x9 x10 => k6 x1 x3 x4 x5 x6 x7 x8)
    (fun x0 x1 x2 x3 x4 x5 x6 x7 x8 x9 x10 => k7 x1 x3 x4 x5 x6 x7 x8)
    (fun x0 x1 x2 x3 x4 x5 x6 x7 x8 x9 x10 => k8 x1 x3 x4 x5 x6 x7 x8 (zB_u hB (show 0 ≤ ((m 74 16) + 1) ∧ ((m 74 16) + 1) ≤ 100 from ⟨by omega, by omega⟩)))
    (fun x0 x1 x2 x3 x4 x5 x6 x7 x8 x9 => by omega)
    (fun x0 x1 x2 x3 x4 x5 x6 x7 x8 => k9 x1 x3 x4 x5 x6 x7 x8 (zB_u hB (show 0 ≤ ((m 74 16) + 1) ∧ ((m 74 16) + 1) ≤ 100 from ⟨by omega, by omega⟩)))
    (fun x0 x1 x2 x3 x4 x5 x6 x7 x8 x9 x10 x11 x12 => by omega)
    (fun x0 x1 x2 x3 x4 x5 x6 x7 x8 x9 x10 x11 x12 => k10 x1 x3 x4 x5 x6 x7 x8 x9 (zB_u hB (show 0 ≤ ((m 74 16) + 1) ∧ ((m 74 16) + 1) ≤ 100 from ⟨by omega, by omega⟩)))
    (fun x0 x1 x2 x3 x4 x5 x6 x7 x8 x9 x10 x11 => by omega)
    (fun x0 x1 x2 x3 x4 x5 x6 x7 x8 x9 x10 => by omega)
    (fun x0 x1 x2 x3 x4 x5 x6 x7 x8 x9 => k11 x1 x3 x4 x5 x6 x7 x8 x9 (zB_u hB (show 0 ≤ ((m 74 16) + 1) ∧ ((m 74 16) + 1) ≤ 100 from ⟨by omega, by omega⟩)))
    (fun x0 x1 x2 x3 x4 x5 x6 x7 x8 x9 x10 x11 x12 x13 x14 => by omega)
    (fun x0 x1 x2 x3 x4 x5 x6 x7 x8 x9 x10 x11 x12 x13 x14 => k12 x1 x3 x4 x5 x6 x7 x8 x9 x10 (zB_u hB (show 0 ≤ ((m 74 16) + 1) ∧ ((m 74 16) + 1) ≤ 100 from ⟨by omega, by omega⟩)))
    (fun x0 x1 x2 x3 x4 x5 x6 x7 x8 x9 x10 x11 x12 x13 => by omega)
    (fun x0 x1 x2 x3 x4 x5 x6 x7 x8 x9 x10 x11 x12 => by omega)
    (fun x0 x1 x2 x3 x4 x5 x6 x7 x8 x9 x10 x11 => by omega)
    (fun x0 x1 x2 x3 x4 x5 x6 x7 x8 x9 x10 => k13 x1 x3 x4 x5 x6 x7 x8 x9 x10 (zB_u hB (show 0 ≤ ((m 74 16) + 1) ∧ ((m 74 16) + 1) ≤ 100 from ⟨by omega, by omega⟩)))
    (fun x0 x1 x2 x3 x4 x5 x6 x7 x8 x9 x10 x11 x12 x13 x14 x15 => k14 x1 x3 x4 x5 x6 x7 x8 x9 x10 x11 (zB_u hB (show 0 ≤ ((m 74 16) + 1) ∧ ((m 74 16) + 1) ≤ 100 from ⟨by omega, by omega⟩)))
    (fun x0 x1 x2 x3 x4 x5 x6 x7 x8 x9 x10 x11 x12 x13 x14 x15 => by omega)
    (fun x0 x1 x2 x3 x4 x5 x6 x7 x8 x9 x10 x11 x12 x13 x14 => by omega)
    (fun x0 x1 x2 x3 x4 x5 x6 x7 x8 x9 x10 x11 x12 x13 => by omega)
    (fun x0 x1 x2 x3 x4 x5 x6 x7 x8 x9 x10 x11 x12 => by omega)
    (fun x0 x1 x2 x3 x4 x5 x6 x7 x8 x9 x10 x11 => k15 x1 x3 x4 x5 x6 x7 x8 x9 x10 x11 (zB_u hB (show 0 ≤ ((m 74 16) + 1) ∧ ((m 74 16) + 1) ≤ 100 from ⟨by omega, by omega⟩)))
    (fun x0 x1 x2 x3 x4 x5 x6 x7 x8 x9 x10 x11 => by omega)
    (fun x0 x1 x2 x3 x4 x5 x6 x7 x8 x9 x10 x11 => k16 x1 x3 x4 x5 x6 x7 x8 x9 x10 (zB_u hB trivial))
    (fun x0 x1 x2 x3 x4 x5 => k17 x1 x3 x4 x5)
    (fun x0 x1 x2 x3 x4 x5 x6 => by omega)
    (fun x0 x1 x2 x3 x4 x5 x6 x7 => by omega)
    (fun x0 x1 x2 x3 x4 x5 x6 x7 x8 => by omega)
    (fun x0 x1 x2 x3 x4 x5 x6 x7 x8 x9 => by omega)
    (fun x0 x1 x2 x3 x4 x5 x6 x7 x8 x9 x10 => by omega)
    (fun x0 x1 x2 x3 x4 x5 x6 x7 x8 x9 x10 x11 => by omega)
    (fun x0 x1 x2 x3 x4 x5 x6 x7 x8 x9 x10 x11 => k18 x1 x3 x4 (zB_u hB trivial))
    (fun x0 x1 x2 x3 x4 x5 => by omega)
    (fun x0 x1 x2 x3 x4 => k19 x1 x3 x4 (zB_u hB (show 0 ≤ ((m 74 16) + 1) ∧ ((m 74 16) + 1) ≤ 100 from ⟨by omega, by omega⟩)))
theorem zb211_14_86r (hT : zRules T) {D : Nat} {κ : Option zA → zM → Prop} {m : zM} {v : Int} {lo : zL} (hlo : z_keep [] lo = []) 
    (o1 : κ (some (zi (wr (-v)))) m) :
    T (D + 4) 211 (14, lo, [zi v], m) κ :=
  zkeep hT hlo (hT.1 [(83, [0, 3, 4])] 6 (D + 4) 211 _ κ (o1))
theorem zb211_14_86 (hT : zRules T) {D : Nat} {κ : Option zA → zM → Prop} {m : zM} {v : Int} {lo : zL} (hlo : z_keep [] lo = [])  
    (k1 : κ (some (zi (wr (-v)))) m) :
    T (D + 4) 211 (14, lo, [zi v], m) κ := by
  have hb0 : (-2147483648) ≤ wr (-v) ∧ wr (-v) ≤ 2147483647 := wrB (-v)
  exact zb211_14_86r hT hlo
    k1
theorem zb211_58_86r (hT : zRules T) {D : Nat} {κ : Option zA → zM → Prop} {m : zM} {v : Int} {lo : zL} (hlo : z_keep [0] lo = [(0, zr 74)]) 
    (o1 : ¬ wr (m 74 17) = (-1) → False)
    (o2 : wr (m 74 17) = (-1) → (m 74 13) = 86)
    (o3 : wr (m 74 17) = (-1) → (0 ≤ (m 74 16) ∧ (m 74 16) ≤ 1000))
    (o4 : wr (m 74 17) = (-1) → (0 ≤ (m 74 14) ∧ (m 74 14) ≤ 80))
    (o5 : wr (m 74 17) = (-1) → (0 ≤ (m 74 15) ∧ (m 74 15) ≤ 40))
    (o6 : wr (m 74 17) = (-1) → wr (hrR m 86) = 41 → κ (some (zi (wr v))) (zu m 74 16 ((m 74 16) + 1)))
    (o7 : wr (m 74 17) = (-1) → ¬ wr (hrR m 86) = 41 → ¬ wr (m 74 17) = (-1) → False)
    (o8 : wr (m 74 17) = (-1) → ¬ wr (hrR m 86) = 41 → wr (m 74 17) = (-1) → κ (some (zi (wr v))) (zu m 74 17 (m 74 16))) :
    T (D + 4) 211 (58, lo, [zi v], m) κ :=
  zkeep hT hlo (hT.1 [(83, [0, 3, 4])] 6 (D + 4) 211 _ κ (hT.1 [] 6 (D + 3) 202 _ _ (hT.1 [] 6 (D + 2) 201 _ _ (hT.1 [] 6 (D + 1) 199 _ _ (And.intro (fun a1 => (o1 a1).elim) (fun a2 => (hT.1 [] 6 (D + 1) 199 (13, [(0, zr 74)], [zi 1], m) _ (And.intro (z_b01L rfl) (hT.1 [] 6 (D + 2) 201 _ _ (And.intro (fun a3 => (z_litF a3 rfl).elim) (fun _ => (z_here86 hT (o2 (Classical.byContradiction a2)) (o3 (Classical.byContradiction a2)) (o4 (Classical.byContradiction a2)) (o5 (Classical.byContradiction a2)) (hT.1 [] 6 (D + 2) 201 _ _ (And.intro (fun a4 => (hT.1 [] 6 (D + 2) 201 (23, [(0, zr 74), (1, zi 41)], [zi 1, zi (m 74 16), zr 74], m) _ (And.intro trivial (And.intro (z_b01L rfl) (hT.1 [] 6 (D + 3) 202 _ _ (And.intro (fun _ => (hT.1 [(83, [0, 3, 4])] 6 (D + 4) 211 _ _ (o6 (Classical.byContradiction a2) a4))) (fun a6 => (a6 (z_litT rfl)).elim))))))) (fun a5 => (And.intro (z_b01L rfl) (hT.1 [] 6 (D + 3) 202 _ _ (And.intro (fun a7 => (z_litF a7 rfl).elim) (fun _ => (hT.1 [] 6 (D + 2) 200 _ _ (hT.1 [] 6 (D + 1) 199 _ _ (And.intro (fun a8 => (o7 (Classical.byContradiction a2) a5 a8).elim) (fun a9 => (hT.1 [] 6 (D + 1) 199 (13, [(0, zr 74)], [zi 1], m) _ (And.intro (z_b01L rfl) (hT.1 [] 6 (D + 2) 200 _ _ (And.intro (fun a10 => (z_litF a10 rfl).elim) (fun _ => (And.intro trivial (hT.1 [] 6 (D + 3) 202 _ _ (hT.1 [(83, [0, 3, 4])] 6 (D + 4) 211 _ _ (o8 (Classical.byContradiction a2) a5 (Classical.byContradiction a9)))))))))))))))))))))))))))))))))
theorem zb211_58_86 (hT : zRules T) {D : Nat} {κ : Option zA → zM → Prop} {m : zM} {v : Int} {lo : zL} (hlo : z_keep [0] lo = [(0, zr 74)])  (hB : zB m) (hrd : m 74 13 = 86) (hf0 : (-1) ≤ m 74 17 ∧ m 74 17 ≤ (-1)) (hf1 : 0 ≤ m 74 16 ∧ m 74 16 ≤ 90) (hf2 : 0 ≤ m 74 15 ∧ m 74 15 ≤ 40) 
    (k1 : (hrR m 86) = 41 → zB (zu m 74 16 ((m 74 16) + 1)) → κ (some (zi (wr v))) (zu m 74 16 ((m 74 16) + 1)))
    (k2 : ¬ (hrR m 86) = 41 → zB (zu m 74 17 (m 74 16)) → κ (some (zi (wr v))) (zu m 74 17 (m 74 16))) :
    T (D + 4) 211 (58, lo, [zi v], m) κ := by
  have hb3 : 0 ≤ (m 74 14) ∧ (m 74 14) ≤ 80 := hB 74 14
  have hb4 : (-1) ≤ (hrR m 86) ∧ (hrR m 86) ≤ 255 := hrRB m 86
  have hb5 : (-2147483648) ≤ wr v ∧ wr v ≤ 2147483647 := wrB v
  have he0 : wr (m 74 17) = (m 74 17) := wr_id (by omega) (by omega)
  have he1 : wr (hrR m 86) = (hrR m 86) := wr_id (by omega) (by omega)
  have key := @zb211_58_86r T hT D κ m v lo hlo
  simp only [he0, he1, Int.toNat_natCast] at key
  exact key
    (fun x0 => by omega)
    (fun x0 => hrd)
    (fun x0 => by refine ⟨?_, ?_⟩ <;> omega)
    (fun x0 => by refine ⟨?_, ?_⟩ <;> omega)
    (fun x0 => by refine ⟨?_, ?_⟩ <;> omega)
    (fun x0 x1 => k1 x1 (zB_u hB (show 0 ≤ ((m 74 16) + 1) ∧ ((m 74 16) + 1) ≤ 100 from ⟨by omega, by omega⟩)))
    (fun x0 x1 x2 => by omega)
    (fun x0 x1 x2 => k2 x1 (zB_u hB trivial))
theorem zb211_58_86fr (hT : zRules T) {D : Nat} {κ : Option zA → zM → Prop} {m : zM} {v : Int} {lo : zL} (hlo : z_keep [0] lo = [(0, zr 74)]) 
    (o1 : ¬ wr (m 74 17) = (-1) → ¬ wr (m 74 17) = (-1) → κ (some (zi (wr v))) m)
    (o2 : ¬ wr (m 74 17) = (-1) → wr (m 74 17) = (-1) → False)
    (o3 : wr (m 74 17) = (-1) → False) :
    T (D + 4) 211 (58, lo, [zi v], m) κ :=
  zkeep hT hlo (hT.1 [(83, [0, 3, 4])] 6 (D + 4) 211 _ κ (hT.1 [] 6 (D + 3) 202 _ _ (hT.1 [] 6 (D + 2) 201 _ _ (hT.1 [] 6 (D + 1) 199 _ _ (And.intro (fun a1 => (And.intro (z_b01L rfl) (hT.1 [] 6 (D + 2) 201 _ _ (And.intro (fun _ => (And.intro (z_b01L rfl) (hT.1 [] 6 (D + 3) 202 _ _ (And.intro (fun a4 => (z_litF a4 rfl).elim) (fun _ => (hT.1 [] 6 (D + 2) 200 _ _ (hT.1 [] 6 (D + 1) 199 _ _ (And.intro (fun a5 => (And.intro (z_b01L rfl) (hT.1 [] 6 (D + 2) 200 _ _ (And.intro (fun _ => (hT.1 [] 6 (D + 3) 202 _ _ (hT.1 [(83, [0, 3, 4])] 6 (D + 4) 211 _ _ (o1 a1 a5)))) (fun a7 => (a7 (z_litT rfl)).elim))))) (fun a6 => (o2 a1 (Classical.byContradiction a6)).elim))))))))) (fun a3 => (a3 (z_litT rfl)).elim))))) (fun a2 => (o3 (Classical.byContradiction a2)).elim))))))
theorem zb211_58_86f (hT : zRules T) {D : Nat} {κ : Option zA → zM → Prop} {m : zM} {v : Int} {lo : zL} (hlo : z_keep [0] lo = [(0, zr 74)])  (hB : zB m) (hrd : m 74 13 = 86) (hf0 : 0 ≤ m 74 17 ∧ m 74 17 ≤ 100) 
    (k1 : κ (some (zi (wr v))) m) :
    T (D + 4) 211 (58, lo, [zi v], m) κ := by
  have hb1 : 0 ≤ (m 74 16) ∧ (m 74 16) ≤ 100 := hB 74 16
  have hb2 : (-2147483648) ≤ wr v ∧ wr v ≤ 2147483647 := wrB v
  have he0 : wr (m 74 17) = (m 74 17) := wr_id (by omega) (by omega)
  have key := @zb211_58_86fr T hT D κ m v lo hlo
  simp only [he0, Int.toNat_natCast] at key
  exact key
    (fun x0 x1 => k1 )
    (fun x0 x1 => by omega)
    (fun x0 => by omega)
theorem zb211_83_86r (hT : zRules T) {D : Nat} {κ : Option zA → zM → Prop} {m : zM} {v : Int} {k : Nat} {lo : zL} (hlo : z_keep [0, 3, 4] lo = [(0, zr 74), (3, zi v), (4, zi (k : Int))]) 
    (o1 : ¬ wr (k : Int) < 3 → κ (some (zi (wr v))) m)
    (o2 : wr (k : Int) < 3 → (m 74 13) = 86)
    (o3 : wr (k : Int) < 3 → (0 ≤ (m 74 16) ∧ (m 74 16) ≤ 1000))
    (o4 : wr (k : Int) < 3 → (0 ≤ (m 74 14) ∧ (m 74 14) ≤ 80))
    (o5 : wr (k : Int) < 3 → (0 ≤ (m 74 15) ∧ (m 74 15) ≤ 40))
    (o6 : wr (k : Int) < 3 → wr (hrR m 86) < 48 → κ (some (zi (wr v))) m)
    (o7 : wr (k : Int) < 3 → ¬ wr (hrR m 86) < 48 → 57 < wr (hrR m 86) → κ (some (zi (wr v))) m)
    (o8 : wr (k : Int) < 3 → ¬ wr (hrR m 86) < 48 → ¬ 57 < wr (hrR m 86) → ¬ wr (m 74 17) = (-1) → False)
    (o9 : wr (k : Int) < 3 → ¬ wr (hrR m 86) < 48 → ¬ 57 < wr (hrR m 86) → wr (m 74 17) = (-1) → (m 74 13) = 86)
    (o10 : wr (k : Int) < 3 → ¬ wr (hrR m 86) < 48 → ¬ 57 < wr (hrR m 86) → wr (m 74 17) = (-1) → (0 ≤ (m 74 16) ∧ (m 74 16) ≤ 1000))
    (o11 : wr (k : Int) < 3 → ¬ wr (hrR m 86) < 48 → ¬ 57 < wr (hrR m 86) → wr (m 74 17) = (-1) → (0 ≤ (m 74 14) ∧ (m 74 14) ≤ 80))
    (o12 : wr (k : Int) < 3 → ¬ wr (hrR m 86) < 48 → ¬ 57 < wr (hrR m 86) → wr (m 74 17) = (-1) → (0 ≤ (m 74 15) ∧ (m 74 15) ≤ 40))
    (o13 : wr (k : Int) < 3 → ¬ wr (hrR m 86) < 48 → ¬ 57 < wr (hrR m 86) → wr (m 74 17) = (-1) → wr (hrR m 86) < 48 → False)
    (o14 : wr (k : Int) < 3 → ¬ wr (hrR m 86) < 48 → ¬ 57 < wr (hrR m 86) → wr (m 74 17) = (-1) → ¬ wr (hrR m 86) < 48 → 57 < wr (hrR m 86) → False)
    (o15 : wr (k : Int) < 3 → ¬ wr (hrR m 86) < 48 → ¬ 57 < wr (hrR m 86) → wr (m 74 17) = (-1) → ¬ wr (hrR m 86) < 48 → ¬ 57 < wr (hrR m 86) → (m 74 13) = 86)
    (o16 : wr (k : Int) < 3 → ¬ wr (hrR m 86) < 48 → ¬ 57 < wr (hrR m 86) → wr (m 74 17) = (-1) → ¬ wr (hrR m 86) < 48 → ¬ 57 < wr (hrR m 86) → (0 ≤ wr (((m 74 16) + 1) - 1) ∧ wr (((m 74 16) + 1) - 1) < 40))
    (o17 : wr (k : Int) < 3 → ¬ wr (hrR m 86) < 48 → ¬ 57 < wr (hrR m 86) → wr (m 74 17) = (-1) → ¬ wr (hrR m 86) < 48 → ¬ 57 < wr (hrR m 86) → T (D + 4) 211 (83, [(0, zr 74), (3, zi ((10 * v) + wr ((m 86 ((wr (((m 74 16) + 1) - 1)).toNat)) - 48))), (4, zi ((k : Int) + 1))], [], (zu m 74 16 ((m 74 16) + 1))) κ) :
    T (D + 4) 211 (83, lo, [], m) κ :=
  zkeep hT hlo (hT.1 [(83, [0, 3, 4])] 6 (D + 4) 211 _ κ (And.intro (fun a1 => (o1 a1)) (fun a2 => (z_here86 hT (o2 (Classical.byContradiction a2)) (o3 (Classical.byContradiction a2)) (o4 (Classical.byContradiction a2)) (o5 (Classical.byContradiction a2)) (hT.1 [(83, [0, 3, 4])] 6 (D + 4) 211 _ _ (hT.1 [] 6 (D + 3) 186 _ _ (And.intro (fun a3 => (And.intro (z_b01L rfl) (hT.1 [(83, [0, 3, 4])] 6 (D + 4) 211 _ _ (And.intro (fun _ => (o6 (Classical.byContradiction a2) a3)) (fun a5 => (a5 (z_litT rfl)).elim))))) (fun a4 => (And.intro (fun a6 => (hT.1 [] 6 (D + 3) 186 (14, [(0, zi (hrR m 86)), (1, zi 48), (2, zi 57)], [], m) _ (And.intro (z_b01L rfl) (hT.1 [(83, [0, 3, 4])] 6 (D + 4) 211 _ _ (And.intro (fun _ => (o7 (Classical.byContradiction a2) a4 a6)) (fun a8 => (a8 (z_litT rfl)).elim)))))) (fun a7 => (hT.1 [] 6 (D + 3) 186 (10, [(0, zi (hrR m 86)), (1, zi 48), (2, zi 57)], [], m) _ (And.intro (z_b01L rfl) (hT.1 [(83, [0, 3, 4])] 6 (D + 4) 211 _ _ (And.intro (fun a9 => (z_litF a9 rfl).elim) (fun _ => (hT.1 [(83, [0, 3, 4])] 6 (D + 4) 211 (109, [(0, zr 74), (3, zi v), (4, zi (k : Int))], [zi 0, zr 74, zi (10 * v)], m) _ (hT.1 [] 6 (D + 3) 203 _ _ (hT.1 [] 6 (D + 2) 199 _ _ (And.intro (fun a10 => (o8 (Classical.byContradiction a2) a4 a7 a10).elim) (fun a11 => (hT.1 [] 6 (D + 2) 199 (13, [(0, zr 74)], [zi 1], m) _ (And.intro (z_b01L rfl) (hT.1 [] 6 (D + 3) 203 _ _ (And.intro (fun _ => (z_here86 hT (o9 (Classical.byContradiction a2) a4 a7 (Classical.byContradiction a11)) (o10 (Classical.byContradiction a2) a4 a7 (Classical.byContradiction a11)) (o11 (Classical.byContradiction a2) a4 a7 (Classical.byContradiction a11)) (o12 (Classical.byContradiction a2) a4 a7 (Classical.byContradiction a11)) (hT.1 [] 6 (D + 3) 203 _ _ (hT.1 [] 6 (D + 3) 203 (21, [(0, zr 74), (1, zi 0), (2, zi 9)], [zi 57, zi 48, zi (hrR m 86)], m) _ (hT.1 [] 6 (D + 2) 186 _ _ (And.intro (fun a13 => (o13 (Classical.byContradiction a2) a4 a7 (Classical.byContradiction a11) a13).elim) (fun a14 => (And.intro (fun a15 => (o14 (Classical.byContradiction a2) a4 a7 (Classical.byContradiction a11) a14 a15).elim) (fun a16 => (hT.1 [] 6 (D + 2) 186 (10, [(0, zi (hrR m 86)), (1, zi 48), (2, zi 57)], [], m) _ (And.intro (z_b01L rfl) (hT.1 [] 6 (D + 3) 203 _ _ (And.intro (fun _ => (hT.1 [] 6 (D + 3) 203 (44, [(0, zr 74), (1, zi 0), (2, zi 9)], [zi ((m 74 16) + 1), zr 74], m) _ (And.intro trivial (And.intro (Or.inr (o15 (Classical.byContradiction a2) a4 a7 (Classical.byContradiction a11) a14 a16)) (And.intro (fun a18 => (z_n8086 a18 (o15 (Classical.byContradiction a2) a4 a7 (Classical.byContradiction a11) a14 a16)).elim) (fun _ => (hT.1 [] 6 (D + 3) 203 (56, [(0, zr 74), (1, zi 0), (2, zi 9)], [zi 1, zi ((m 74 16) + 1), zr 86], (zu m 74 16 ((m 74 16) + 1))) _ (And.intro (o16 (Classical.byContradiction a2) a4 a7 (Classical.byContradiction a11) a14 a16) (hT.1 [(83, [0, 3, 4])] 6 (D + 4) 211 _ _ (o17 (Classical.byContradiction a2) a4 a7 (Classical.byContradiction a11) a14 a16)))))))))) (fun a17 => (a17 (z_litT rfl)).elim)))))))))))))) (fun a12 => (a12 (z_litT rfl)).elim)))))))))))))))))))))))))
theorem zb211_83_86 (hT : zRules T) {D : Nat} {κ : Option zA → zM → Prop} {m : zM} {v : Int} {k : Nat} {lo : zL} (hlo : z_keep [0, 3, 4] lo = [(0, zr 74), (3, zi v), (4, zi (k : Int))])  (hB : zB m) (hrd : m 74 13 = 86) (h_v : 0 ≤ v ∧ v ≤ 1000) (h_k : k ≤ 3) (hf0 : (-1) ≤ m 74 17 ∧ m 74 17 ≤ (-1)) (hf1 : 0 ≤ m 74 16 ∧ m 74 16 ≤ 90) (hf2 : 0 ≤ m 74 15 ∧ m 74 15 ≤ 40) 
    (k1 : ¬ (k : Int) < 3 → κ (some (zi v)) m)
    (k2 : (k : Int) < 3 → (hrR m 86) < 48 → κ (some (zi v)) m)
    (k3 : (k : Int) < 3 → ¬ (hrR m 86) < 48 → 57 < (hrR m 86) → κ (some (zi v)) m)
    (k4 : (k : Int) < 3 → ¬ (hrR m 86) < 48 → ¬ 57 < (hrR m 86) → (0 ≤ (((m 74 16) + 1) - 1) ∧ (((m 74 16) + 1) - 1) < 40))
    (k5 : (k : Int) < 3 → ¬ (hrR m 86) < 48 → ¬ 57 < (hrR m 86) → zB (zu m 74 16 ((m 74 16) + 1)) → T (D + 4) 211 (83, [(0, zr 74), (3, zi ((10 * v) + ((m 86 ((((m 74 16) + 1) - 1).toNat)) - 48))), (4, zi ((k : Int) + 1))], [], (zu m 74 16 ((m 74 16) + 1))) κ) :
    T (D + 4) 211 (83, lo, [], m) κ := by
  have hb5 : 0 ≤ (m 74 14) ∧ (m 74 14) ≤ 80 := hB 74 14
  have hb6 : (-1) ≤ (hrR m 86) ∧ (hrR m 86) ≤ 255 := hrRB m 86
  have hb7 : (-128) ≤ (m 86 ((((m 74 16) + 1) - 1).toNat)) ∧ (m 86 ((((m 74 16) + 1) - 1).toNat)) ≤ 127 := hB 86 ((((m 74 16) + 1) - 1).toNat)
  have he0 : wr (k : Int) = (k : Int) := wr_id (by omega) (by omega)
  have he1 : wr (hrR m 86) = (hrR m 86) := wr_id (by omega) (by omega)
  have he2 : wr v = v := wr_id (by omega) (by omega)
  have he3 : wr (m 74 17) = (m 74 17) := wr_id (by omega) (by omega)
  have he4 : wr (((m 74 16) + 1) - 1) = (((m 74 16) + 1) - 1) := wr_id (by omega) (by omega)
  have he5 : wr ((m 86 ((((m 74 16) + 1) - 1).toNat)) - 48) = ((m 86 ((((m 74 16) + 1) - 1).toNat)) - 48) := wr_id (by omega) (by omega)
  have key := @zb211_83_86r T hT D κ m v k lo hlo
  simp only [he0, he1, he2, he3, he4, he5, Int.toNat_natCast] at key
  exact key
    k1
    (fun x0 => hrd)
    (fun x0 => by refine ⟨?_, ?_⟩ <;> omega)
    (fun x0 => by refine ⟨?_, ?_⟩ <;> omega)
    (fun x0 => by refine ⟨?_, ?_⟩ <;> omega)
    k2
    k3
    (fun x0 x1 x2 x3 => by omega)
    (fun x0 x1 x2 x3 => hrd)
    (fun x0 x1 x2 x3 => by refine ⟨?_, ?_⟩ <;> omega)
    (fun x0 x1 x2 x3 => by refine ⟨?_, ?_⟩ <;> omega)
    (fun x0 x1 x2 x3 => by refine ⟨?_, ?_⟩ <;> omega)
    (fun x0 x1 x2 x3 x4 => by omega)
    (fun x0 x1 x2 x3 x4 x5 => by omega)
    (fun x0 x1 x2 x3 x4 x5 => hrd)
    (fun x0 x1 x2 x3 x4 x5 => k4 x0 x1 x2)
    (fun x0 x1 x2 x3 x4 x5 => k5 x0 x1 x2 (zB_u hB (show 0 ≤ ((m 74 16) + 1) ∧ ((m 74 16) + 1) ≤ 100 from ⟨by omega, by omega⟩)))
end ZBlocks
