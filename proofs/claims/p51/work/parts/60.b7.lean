section ZBlocks
variable {T : Nat → Nat → zG → (Option zA → zM → Prop) → Prop}
theorem zb63_0r (hT : zRules T) {D : Nat} {κ : Option zA → zM → Prop} {m : zM} {v : Int} 
    (o1 : ¬ 76 < wr (m 2 1) → T (D + 1) 63 (14, [(0, zr 2), (1, zi v), (2, zi 24)], [], m) κ)
    (o2 : 76 < wr (m 2 1) → κ (some (zi (-1))) m) :
    T (D + 1) 63 (0, [(0, zr 2), (1, zi v)], [], m) κ :=
  hT.1 [(14, [0, 1, 2])] 6 (D + 1) 63 _ κ (And.intro (fun a1 => (o1 a1)) (fun a2 => (o2 (Classical.byContradiction a2))))
theorem zb63_0 (hT : zRules T) {D : Nat} {κ : Option zA → zM → Prop} {m : zM} {v : Int}  (hB : zB m) (h_v : (-2147483648) ≤ v ∧ v ≤ 2147483647) 
    (k1 : ¬ 76 < (m 2 1) → T (D + 1) 63 (14, [(0, zr 2), (1, zi v), (2, zi 24)], [], m) κ)
    (k2 : 76 < (m 2 1) → κ (some (zi (-1))) m) :
    T (D + 1) 63 (0, [(0, zr 2), (1, zi v)], [], m) κ := by
  have hb1 : 0 ≤ (m 2 1) ∧ (m 2 1) ≤ 80 := hB 2 1
  have he0 : wr (m 2 1) = (m 2 1) := wr_id (by omega) (by omega)
  have key := @zb63_0r T hT D κ m v
  simp only [he0, Int.toNat_natCast] at key
  exact key
    k1
    k2
theorem zb63_14r (hT : zRules T) {D : Nat} {κ : Option zA → zM → Prop} {m : zM} {v : Int} {sh : Int} {lo : zL} (hlo : z_keep [0, 1, 2] lo = [(0, zr 2), (1, zi v), (2, zi sh)]) 
    (o1 : wr sh < 0 → κ (some (zi (wr (m 2 1)))) m)
    (o2 : ¬ wr sh < 0 → (0 ≤ wr (m 2 1) ∧ wr (m 2 1) < 80))
    (o3 : ¬ wr sh < 0 → (0 ≤ wr ((z_and (z_ush v sh) 255) % 65536) ∧ wr ((z_and (z_ush v sh) 255) % 65536) ≤ 65535))
    (o4 : ¬ wr sh < 0 → T (D + 1) 63 (14, [(0, zr 2), (1, zi v), (2, zi (sh + (-8)))], [], (zu (zu m 3 ((wr (m 2 1)).toNat) ((z_and (z_ush v sh) 255) % 65536)) 2 1 ((m 2 1) + 1))) κ) :
    T (D + 1) 63 (14, lo, [], m) κ :=
  zkeep hT hlo (hT.1 [(14, [0, 1, 2])] 6 (D + 1) 63 _ κ (And.intro (fun a1 => (o1 a1)) (fun a2 => (hT.1 [(14, [0, 1, 2])] 6 (D + 1) 63 (26, [(0, zr 2), (1, zi v), (2, zi sh)], [zi (m 2 1), zr 3], m) _ (hT.1 [(14, [0, 1, 2])] 6 (D + 1) 63 (34, [(0, zr 2), (1, zi v), (2, zi sh)], [zi ((z_and (z_ush v sh) 255) % 65536), zi (m 2 1), zr 3], m) _ (And.intro (And.intro (o2 a2) (o3 a2)) (hT.1 [(14, [0, 1, 2])] 6 (D + 1) 63 (42, [(0, zr 2), (1, zi v), (2, zi sh)], [zi ((m 2 1) + 1), zr 2], (zu m 3 ((wr (m 2 1)).toNat) ((z_and (z_ush v sh) 255) % 65536))) _ (And.intro trivial (o4 a2)))))))))
theorem zb63_14 (hT : zRules T) {D : Nat} {κ : Option zA → zM → Prop} {m : zM} {v : Int} {sh : Int} {lo : zL} (hlo : z_keep [0, 1, 2] lo = [(0, zr 2), (1, zi v), (2, zi sh)])  (hB : zB m) (h_v : (-2147483648) ≤ v ∧ v ≤ 2147483647) (h_sh : (-8) ≤ sh ∧ sh ≤ 24) (hf0 : 0 ≤ m 2 1 ∧ m 2 1 ≤ 80) 
    (k1 : sh < 0 → κ (some (zi (m 2 1))) m)
    (k2 : ¬ sh < 0 → (0 ≤ (m 2 1) ∧ (m 2 1) < 80))
    (k3 : ¬ sh < 0 → T (D + 1) 63 (14, [(0, zr 2), (1, zi v), (2, zi (sh + (-8)))], [], (zu (zu m 3 ((m 2 1).toNat) ((z_and (z_ush v sh) 255) % 65536)) 2 1 ((m 2 1) + 1))) κ) :
    T (D + 1) 63 (14, lo, [], m) κ := by
  have hb3 : (-2147483648) ≤ (z_ush v sh) ∧ (z_ush v sh) ≤ 2147483647 := z_ushB v sh
  have hb4 : 0 ≤ (z_and (z_ush v sh) 255) ∧ (z_and (z_ush v sh) 255) ≤ 255 := z_andC (z_ush v sh) 255 (by decide)
  have hb5 : 0 ≤ ((z_and (z_ush v sh) 255) % 65536) ∧ ((z_and (z_ush v sh) 255) % 65536) ≤ 65535 := z_c16B (z_and (z_ush v sh) 255)
  have he0 : wr sh = sh := wr_id (by omega) (by omega)
  have he1 : wr (m 2 1) = (m 2 1) := wr_id (by omega) (by omega)
  have he2 : wr ((z_and (z_ush v sh) 255) % 65536) = ((z_and (z_ush v sh) 255) % 65536) := wr_id (by omega) (by omega)
  have key := @zb63_14r T hT D κ m v sh lo hlo
  simp only [he0, he1, he2, Int.toNat_natCast] at key
  exact key
    k1
    k2
    (fun x0 => by refine ⟨?_, ?_⟩ <;> omega)
    k3
theorem zb112_0r (hT : zRules T) {D : Nat} {κ : Option zA → zM → Prop} {m : zM} {v : Int} 
    (o1 : T (D + 1) 63 (0, [(0, zr 2), (1, zi v)], [], m) (fun r m1 => T (D + 2) 112 (8, [(0, zr 1), (1, zi v)], r.toList ++ [], m1) κ)) :
    T (D + 2) 112 (0, [(0, zr 1), (1, zi v)], [], m) κ :=
  hT.1 [] 6 (D + 2) 112 _ κ (o1)
theorem zb112_0 (hT : zRules T) {D : Nat} {κ : Option zA → zM → Prop} {m : zM} {v : Int}  (hB : zB m) (h_v : (-2147483648) ≤ v ∧ v ≤ 2147483647) 
    (k1 : T (D + 1) 63 (0, [(0, zr 2), (1, zi v)], [], m) (fun r m1 => T (D + 2) 112 (8, [(0, zr 1), (1, zi v)], r.toList ++ [], m1) κ)) :
    T (D + 2) 112 (0, [(0, zr 1), (1, zi v)], [], m) κ := by
  exact zb112_0r hT
    k1
theorem zb112_8r (hT : zRules T) {D : Nat} {κ : Option zA → zM → Prop} {m : zM} {r : Int} {lo : zL} (hlo : z_keep [] lo = []) 
    (o1 : κ (some (zi (wr r))) m) :
    T (D + 2) 112 (8, lo, [zi r], m) κ :=
  zkeep hT hlo (hT.1 [] 6 (D + 2) 112 _ κ (o1))
theorem zb112_8 (hT : zRules T) {D : Nat} {κ : Option zA → zM → Prop} {m : zM} {r : Int} {lo : zL} (hlo : z_keep [] lo = [])  (h_r : (-1) ≤ r ∧ r ≤ 80) 
    (k1 : κ (some (zi r)) m) :
    T (D + 2) 112 (8, lo, [zi r], m) κ := by
  have he0 : wr r = r := wr_id (by omega) (by omega)
  have key := @zb112_8r T hT D κ m r lo hlo
  simp only [he0, Int.toNat_natCast] at key
  exact key
    k1
theorem zb195_0r (hT : zRules T) {D : Nat} {κ : Option zA → zM → Prop} {m : zM} {v : Int} 
    (o1 : ¬ 80 < wr ((m 74 9) + 4) → T (D + 2) 195 (20, [(0, zr 74), (1, zi v), (2, zi 3)], [], (zu m 74 12 0)) κ)
    (o2 : 80 < wr ((m 74 9) + 4) → κ (some (zi (-1))) (zu m 74 12 0)) :
    T (D + 2) 195 (0, [(0, zr 74), (1, zi v)], [], m) κ :=
  hT.1 [(20, [0, 1, 2])] 6 (D + 2) 195 _ κ (And.intro trivial (hT.1 [(20, [0, 1, 2])] 6 (D + 2) 195 (10, [(0, zr 74), (1, zi v)], [zi 4, zi (m 74 9)], (zu m 74 12 0)) _ (And.intro (fun a1 => (o1 a1)) (fun a2 => (o2 (Classical.byContradiction a2))))))
theorem zb195_0 (hT : zRules T) {D : Nat} {κ : Option zA → zM → Prop} {m : zM} {v : Int}  (hB : zB m) (h_v : (-2147483648) ≤ v ∧ v ≤ 2147483647) 
    (k1 : ¬ 80 < ((m 74 9) + 4) → zB (zu m 74 12 0) → T (D + 2) 195 (20, [(0, zr 74), (1, zi v), (2, zi 3)], [], (zu m 74 12 0)) κ)
    (k2 : 80 < ((m 74 9) + 4) → zB (zu m 74 12 0) → κ (some (zi (-1))) (zu m 74 12 0)) :
    T (D + 2) 195 (0, [(0, zr 74), (1, zi v)], [], m) κ := by
  have hb1 : 0 ≤ (m 74 9) ∧ (m 74 9) ≤ 80 := hB 74 9
  have he0 : wr ((m 74 9) + 4) = ((m 74 9) + 4) := wr_id (by omega) (by omega)
  have key := @zb195_0r T hT D κ m v
  simp only [he0, Int.toNat_natCast] at key
  exact key
    (fun x0 => k1 x0 (zB_u hB trivial))
    (fun x0 => k2 x0 (zB_u hB trivial))
theorem zb195_20r (hT : zRules T) {D : Nat} {κ : Option zA → zM → Prop} {m : zM} {v : Int} {k : Int} {lo : zL} (hlo : z_keep [0, 1, 2] lo = [(0, zr 74), (1, zi v), (2, zi k)]) 
    (o1 : wr k < 0 → κ (some (zi (wr (m 74 9)))) m)
    (o2 : ¬ wr k < 0 → (0 ≤ wr (m 74 9) ∧ wr (m 74 9) < 80))
    (o3 : ¬ wr k < 0 → ((-128) ≤ wr (z_b8 (z_shr v (8 * k))) ∧ wr (z_b8 (z_shr v (8 * k))) ≤ 127))
    (o4 : ¬ wr k < 0 → T (D + 2) 195 (20, [(0, zr 74), (1, zi v), (2, zi (k + (-1)))], [], (zu (zu m 74 9 ((m 74 9) + 1)) 80 ((wr (m 74 9)).toNat) (z_b8 (z_shr v (8 * k))))) κ) :
    T (D + 2) 195 (20, lo, [], m) κ :=
  zkeep hT hlo (hT.1 [(20, [0, 1, 2])] 6 (D + 2) 195 _ κ (And.intro (fun a1 => (o1 a1)) (fun a2 => (hT.1 [(20, [0, 1, 2])] 6 (D + 2) 195 (30, [(0, zr 74), (1, zi v), (2, zi k)], [zr 74, zr 74, zr 80], m) _ (And.intro trivial (hT.1 [(20, [0, 1, 2])] 6 (D + 2) 195 (40, [(0, zr 74), (1, zi v), (2, zi k)], [zi v, zi (m 74 9), zr 80], (zu m 74 9 ((m 74 9) + 1))) _ (And.intro (And.intro (o2 a2) (o3 a2)) (hT.1 [(20, [0, 1, 2])] 6 (D + 2) 195 (47, [(0, zr 74), (1, zi v), (2, zi k)], [], (zu (zu m 74 9 ((m 74 9) + 1)) 80 ((wr (m 74 9)).toNat) (z_b8 (z_shr v (8 * k))))) _ (o4 a2)))))))))
theorem zb195_20 (hT : zRules T) {D : Nat} {κ : Option zA → zM → Prop} {m : zM} {v : Int} {k : Int} {lo : zL} (hlo : z_keep [0, 1, 2] lo = [(0, zr 74), (1, zi v), (2, zi k)])  (hB : zB m) (h_v : (-2147483648) ≤ v ∧ v ≤ 2147483647) (h_k : (-1) ≤ k ∧ k ≤ 3) 
    (k1 : k < 0 → κ (some (zi (m 74 9))) m)
    (k2 : ¬ k < 0 → (0 ≤ (m 74 9) ∧ (m 74 9) < 80))
    (k3 : ¬ k < 0 → T (D + 2) 195 (20, [(0, zr 74), (1, zi v), (2, zi (k + (-1)))], [], (zu (zu m 74 9 ((m 74 9) + 1)) 80 ((m 74 9).toNat) (z_b8 (z_shr v (8 * k))))) κ) :
    T (D + 2) 195 (20, lo, [], m) κ := by
  have hb2 : 0 ≤ (m 74 9) ∧ (m 74 9) ≤ 80 := hB 74 9
  have hb3 : (-2147483648) ≤ (z_shr v (8 * k)) ∧ (z_shr v (8 * k)) ≤ 2147483647 := z_shrB v (8 * k)
  have hb4 : (-128) ≤ (z_b8 (z_shr v (8 * k))) ∧ (z_b8 (z_shr v (8 * k))) ≤ 127 := z_b8B (z_shr v (8 * k))
  have he0 : wr k = k := wr_id (by omega) (by omega)
  have he1 : wr (m 74 9) = (m 74 9) := wr_id (by omega) (by omega)
  have he2 : wr (z_b8 (z_shr v (8 * k))) = (z_b8 (z_shr v (8 * k))) := wr_id (by omega) (by omega)
  have key := @zb195_20r T hT D κ m v k lo hlo
  simp only [he0, he1, he2, Int.toNat_natCast] at key
  exact key
    k1
    k2
    (fun x0 => by refine ⟨?_, ?_⟩ <;> omega)
    k3
theorem zb113_0r (hT : zRules T) {D : Nat} {κ : Option zA → zM → Prop} {m : zM} {n : Int} 
    (o1 : wr n < 0 → κ (some (zi 0)) m)
    (o2 : ¬ wr n < 0 → ¬ wr (m 2 1) < wr n → κ (some (zi 1)) (zu m 2 1 n))
    (o3 : ¬ wr n < 0 → wr (m 2 1) < wr n → κ (some (zi 0)) m) :
    T (D + 2) 113 (0, [(0, zr 1), (1, zi n)], [], m) κ :=
  hT.1 [] 6 (D + 2) 113 _ κ (hT.1 [] 6 (D + 1) 64 _ _ (And.intro (fun a1 => (And.intro (z_b01L rfl) (hT.1 [] 6 (D + 2) 113 _ _ (And.intro (z_b01L rfl) (o1 a1))))) (fun a2 => (And.intro (fun a3 => (hT.1 [] 6 (D + 1) 64 (14, [(0, zr 2), (1, zi n)], [], m) _ (And.intro trivial (And.intro (z_b01L rfl) (hT.1 [] 6 (D + 2) 113 _ _ (And.intro (z_b01L rfl) (o2 a2 a3))))))) (fun a4 => (hT.1 [] 6 (D + 1) 64 (12, [(0, zr 2), (1, zi n)], [], m) _ (And.intro (z_b01L rfl) (hT.1 [] 6 (D + 2) 113 _ _ (And.intro (z_b01L rfl) (o3 a2 (Classical.byContradiction a4)))))))))))
theorem zb113_0 (hT : zRules T) {D : Nat} {κ : Option zA → zM → Prop} {m : zM} {n : Int}  (hB : zB m) (h_n : (-2147483648) ≤ n ∧ n ≤ 2147483647) 
    (k1 : n < 0 → κ (some (zi 0)) m)
    (k2 : ¬ n < 0 → ¬ (m 2 1) < n → zB (zu m 2 1 n) → κ (some (zi 1)) (zu m 2 1 n))
    (k3 : ¬ n < 0 → (m 2 1) < n → κ (some (zi 0)) m) :
    T (D + 2) 113 (0, [(0, zr 1), (1, zi n)], [], m) κ := by
  have hb1 : 0 ≤ (m 2 1) ∧ (m 2 1) ≤ 80 := hB 2 1
  have he0 : wr n = n := wr_id (by omega) (by omega)
  have he1 : wr (m 2 1) = (m 2 1) := wr_id (by omega) (by omega)
  have key := @zb113_0r T hT D κ m n
  simp only [he0, he1, Int.toNat_natCast] at key
  exact key
    k1
    (fun x0 x1 => k2 x0 x1 (zB_u hB (show 0 ≤ n ∧ n ≤ 80 from ⟨by omega, by omega⟩)))
    k3
theorem zb196_0r (hT : zRules T) {D : Nat} {κ : Option zA → zM → Prop} {m : zM} {n : Int} 
    (o1 : wr n < 0 → κ (some (zi 0)) (zu m 74 12 0))
    (o2 : ¬ wr n < 0 → wr (m 74 9) < wr n → κ (some (zi 0)) (zu m 74 12 0))
    (o3 : ¬ wr n < 0 → ¬ wr (m 74 9) < wr n → κ (some (zi 1)) (zu (zu m 74 12 0) 74 9 n)) :
    T (D + 2) 196 (0, [(0, zr 74), (1, zi n)], [], m) κ :=
  hT.1 [] 6 (D + 2) 196 _ κ (And.intro trivial (hT.1 [] 6 (D + 2) 196 (8, [(0, zr 74), (1, zi n)], [zr 74, zi 0, zi n], (zu m 74 12 0)) _ (hT.1 [] 6 (D + 1) 186 _ _ (And.intro (fun a1 => (And.intro (z_b01L rfl) (hT.1 [] 6 (D + 2) 196 _ _ (And.intro (fun a3 => (z_litF a3 rfl).elim) (fun _ => (And.intro (z_b01L rfl) (o1 a1))))))) (fun a2 => (And.intro (fun a4 => (hT.1 [] 6 (D + 1) 186 (14, [(0, zi n), (1, zi 0), (2, zi (m 74 9))], [], (zu m 74 12 0)) _ (And.intro (z_b01L rfl) (hT.1 [] 6 (D + 2) 196 _ _ (And.intro (fun a6 => (z_litF a6 rfl).elim) (fun _ => (And.intro (z_b01L rfl) (o2 a2 a4)))))))) (fun a5 => (hT.1 [] 6 (D + 1) 186 (10, [(0, zi n), (1, zi 0), (2, zi (m 74 9))], [], (zu m 74 12 0)) _ (And.intro (z_b01L rfl) (hT.1 [] 6 (D + 2) 196 _ _ (And.intro (fun _ => (And.intro trivial (And.intro (z_b01L rfl) (o3 a2 a5)))) (fun a7 => (a7 (z_litT rfl)).elim))))))))))))
theorem zb196_0 (hT : zRules T) {D : Nat} {κ : Option zA → zM → Prop} {m : zM} {n : Int}  (hB : zB m) (h_n : (-2147483648) ≤ n ∧ n ≤ 2147483647) 
    (k1 : n < 0 → zB (zu m 74 12 0) → κ (some (zi 0)) (zu m 74 12 0))
    (k2 : ¬ n < 0 → (m 74 9) < n → zB (zu m 74 12 0) → κ (some (zi 0)) (zu m 74 12 0))
    (k3 : ¬ n < 0 → ¬ (m 74 9) < n → zB (zu (zu m 74 12 0) 74 9 n) → κ (some (zi 1)) (zu (zu m 74 12 0) 74 9 n)) :
    T (D + 2) 196 (0, [(0, zr 74), (1, zi n)], [], m) κ := by
  have hb1 : 0 ≤ (m 74 9) ∧ (m 74 9) ≤ 80 := hB 74 9
  have he0 : wr n = n := wr_id (by omega) (by omega)
  have he1 : wr (m 74 9) = (m 74 9) := wr_id (by omega) (by omega)
  have key := @zb196_0r T hT D κ m n
  simp only [he0, he1, Int.toNat_natCast] at key
  exact key
    (fun x0 => k1 x0 (zB_u hB trivial))
    (fun x0 x1 => k2 x0 x1 (zB_u hB trivial))
    (fun x0 x1 => k3 x0 x1 (zB_u (zB_u hB trivial) (show 0 ≤ n ∧ n ≤ 80 from ⟨by omega, by omega⟩)))
theorem zb121_0r (hT : zRules T) {D : Nat} {κ : Option zA → zM → Prop} {m : zM} {w : Int} {v : Int} 
    (o1 : wr w < 0 → κ (some (zi (-1))) m)
    (o2 : ¬ wr w < 0 → ¬ wr w < 3 → κ (some (zi (-1))) m)
    (o3 : ¬ wr w < 0 → wr w < 3 → wr v < 0 → κ (some (zi (-1))) m)
    (o4 : ¬ wr w < 0 → wr w < 3 → ¬ wr v < 0 → ¬ 9 < wr v → (0 ≤ wr w ∧ wr w < 3))
    (o5 : ¬ wr w < 0 → wr w < 3 → ¬ wr v < 0 → ¬ 9 < wr v → (0 ≤ wr w ∧ wr w < 3))
    (o6 : ¬ wr w < 0 → wr w < 3 → ¬ wr v < 0 → ¬ 9 < wr v → κ (some (zi (wr (m 24 ((wr w).toNat))))) (zu m 24 ((wr w).toNat) v))
    (o7 : ¬ wr w < 0 → wr w < 3 → ¬ wr v < 0 → 9 < wr v → κ (some (zi (-1))) m) :
    T (D + 2) 121 (0, [(0, zr 1), (1, zi w), (2, zi v)], [], m) κ :=
  hT.1 [] 6 (D + 2) 121 _ κ (And.intro (fun a1 => (o1 a1)) (fun a2 => (And.intro (fun a3 => (hT.1 [] 6 (D + 2) 121 (20, [(0, zr 1), (1, zi w), (2, zi v)], [zi (-1)], m) _ (o2 a2 a3))) (fun a4 => (hT.1 [] 6 (D + 2) 121 (10, [(0, zr 1), (1, zi w), (2, zi v)], [zi v], m) _ (And.intro (fun a5 => (o3 a2 (Classical.byContradiction a4) a5)) (fun a6 => (And.intro (fun a7 => (hT.1 [] 6 (D + 2) 121 (25, [(0, zr 1), (1, zi w), (2, zi v)], [zr 17], m) _ (And.intro (o4 a2 (Classical.byContradiction a4) a6 a7) (hT.1 [] 6 (D + 2) 121 (35, [(0, zr 1), (1, zi w), (2, zi v), (3, zi (m 24 ((wr w).toNat)))], [zr 17], m) _ (And.intro (And.intro (o5 a2 (Classical.byContradiction a4) a6 a7) trivial) (o6 a2 (Classical.byContradiction a4) a6 a7)))))) (fun a8 => (o7 a2 (Classical.byContradiction a4) a6 (Classical.byContradiction a8)))))))))))
theorem zb121_0 (hT : zRules T) {D : Nat} {κ : Option zA → zM → Prop} {m : zM} {w : Int} {v : Int}  (hB : zB m) (h_w : (-2147483648) ≤ w ∧ w ≤ 2147483647) (h_v : (-2147483648) ≤ v ∧ v ≤ 2147483647) 
    (k1 : w < 0 → κ (some (zi (-1))) m)
    (k2 : ¬ w < 0 → ¬ w < 3 → κ (some (zi (-1))) m)
    (k3 : ¬ w < 0 → w < 3 → v < 0 → κ (some (zi (-1))) m)
    (k4 : ¬ w < 0 → w < 3 → ¬ v < 0 → ¬ 9 < v → zB (zu m 24 (w.toNat) v) → κ (some (zi (m 24 (w.toNat)))) (zu m 24 (w.toNat) v))
    (k5 : ¬ w < 0 → w < 3 → ¬ v < 0 → 9 < v → κ (some (zi (-1))) m) :
    T (D + 2) 121 (0, [(0, zr 1), (1, zi w), (2, zi v)], [], m) κ := by
  have hb2 : 0 ≤ (m 24 (w.toNat)) ∧ (m 24 (w.toNat)) ≤ 9 := hB 24 (w.toNat)
  have he0 : wr w = w := wr_id (by omega) (by omega)
  have he1 : wr v = v := wr_id (by omega) (by omega)
  have he2 : wr (m 24 (w.toNat)) = (m 24 (w.toNat)) := wr_id (by omega) (by omega)
  have key := @zb121_0r T hT D κ m w v
  simp only [he0, he1, he2, Int.toNat_natCast] at key
  exact key
    k1
    k2
    k3
    (fun x0 x1 x2 x3 => by refine ⟨?_, ?_⟩ <;> omega)
    (fun x0 x1 x2 x3 => by refine ⟨?_, ?_⟩ <;> omega)
    (fun x0 x1 x2 x3 => k4 x0 x1 x2 x3 (zB_u hB (show 0 ≤ v ∧ v ≤ 9 from ⟨by omega, by omega⟩)))
    k5
theorem zb222_0r (hT : zRules T) {D : Nat} {κ : Option zA → zM → Prop} {m : zM} {w : Int} {v : Int} 
    (o1 : wr w < 0 → κ (some (zi (-1))) (zu m 74 12 0))
    (o2 : ¬ wr w < 0 → 2 < wr w → κ (some (zi (-1))) (zu m 74 12 0))
    (o3 : ¬ wr w < 0 → ¬ 2 < wr w → wr v < 0 → κ (some (zi (-1))) (zu m 74 12 0))
    (o4 : ¬ wr w < 0 → ¬ 2 < wr w → ¬ wr v < 0 → 9 < wr v → κ (some (zi (-1))) (zu m 74 12 0))
    (o5 : ¬ wr w < 0 → ¬ 2 < wr w → ¬ wr v < 0 → ¬ 9 < wr v → (0 ≤ wr w ∧ wr w < 3))
    (o6 : ¬ wr w < 0 → ¬ 2 < wr w → ¬ wr v < 0 → ¬ 9 < wr v → (0 ≤ wr w ∧ wr w < 3))
    (o7 : ¬ wr w < 0 → ¬ 2 < wr w → ¬ wr v < 0 → ¬ 9 < wr v → κ (some (zi (wr (m 79 ((wr w).toNat))))) (zu (zu m 74 12 0) 79 ((wr w).toNat) v)) :
    T (D + 2) 222 (0, [(0, zr 74), (1, zi w), (2, zi v)], [], m) κ :=
  hT.1 [] 6 (D + 2) 222 _ κ (And.intro trivial (hT.1 [] 6 (D + 2) 222 (8, [(0, zr 74), (1, zi w), (2, zi v)], [zi 2, zi 0, zi w], (zu m 74 12 0)) _ (hT.1 [] 6 (D + 1) 186 _ _ (And.intro (fun a1 => (And.intro (z_b01L rfl) (hT.1 [] 6 (D + 2) 222 _ _ (And.intro (fun _ => (o1 a1)) (fun a3 => (a3 (z_litT rfl)).elim))))) (fun a2 => (And.intro (fun a4 => (hT.1 [] 6 (D + 1) 186 (14, [(0, zi w), (1, zi 0), (2, zi 2)], [], (zu m 74 12 0)) _ (And.intro (z_b01L rfl) (hT.1 [] 6 (D + 2) 222 _ _ (And.intro (fun _ => (o2 a2 a4)) (fun a6 => (a6 (z_litT rfl)).elim)))))) (fun a5 => (hT.1 [] 6 (D + 1) 186 (10, [(0, zi w), (1, zi 0), (2, zi 2)], [], (zu m 74 12 0)) _ (And.intro (z_b01L rfl) (hT.1 [] 6 (D + 2) 222 _ _ (And.intro (fun a7 => (z_litF a7 rfl).elim) (fun _ => (hT.1 [] 6 (D + 1) 186 _ _ (And.intro (fun a8 => (And.intro (z_b01L rfl) (hT.1 [] 6 (D + 2) 222 _ _ (And.intro (fun a10 => (z_litF a10 rfl).elim) (fun _ => (o3 a2 a5 a8)))))) (fun a9 => (And.intro (fun a11 => (hT.1 [] 6 (D + 1) 186 (14, [(0, zi v), (1, zi 0), (2, zi 9)], [], (zu m 74 12 0)) _ (And.intro (z_b01L rfl) (hT.1 [] 6 (D + 2) 222 _ _ (And.intro (fun a13 => (z_litF a13 rfl).elim) (fun _ => (o4 a2 a5 a9 a11))))))) (fun a12 => (hT.1 [] 6 (D + 1) 186 (10, [(0, zi v), (1, zi 0), (2, zi 9)], [], (zu m 74 12 0)) _ (And.intro (z_b01L rfl) (hT.1 [] 6 (D + 2) 222 _ _ (And.intro (fun _ => (And.intro (o5 a2 a5 a9 a12) (hT.1 [] 6 (D + 2) 222 (33, [(0, zr 74), (1, zi w), (2, zi v), (3, zi (m 79 ((wr w).toNat)))], [], (zu m 74 12 0)) _ (And.intro (And.intro (o6 a2 a5 a9 a12) trivial) (hT.1 [] 6 (D + 2) 222 (41, [(0, zr 74), (1, zi w), (2, zi v), (3, zi (m 79 ((wr w).toNat)))], [zi (m 79 ((wr w).toNat))], (zu (zu m 74 12 0) 79 ((wr w).toNat) v)) _ (o7 a2 a5 a9 a12)))))) (fun a14 => (a14 (z_litT rfl)).elim))))))))))))))))))))))
theorem zb222_0 (hT : zRules T) {D : Nat} {κ : Option zA → zM → Prop} {m : zM} {w : Int} {v : Int}  (hB : zB m) (h_w : (-2147483648) ≤ w ∧ w ≤ 2147483647) (h_v : (-2147483648) ≤ v ∧ v ≤ 2147483647) 
    (k1 : w < 0 → zB (zu m 74 12 0) → κ (some (zi (-1))) (zu m 74 12 0))
    (k2 : ¬ w < 0 → 2 < w → zB (zu m 74 12 0) → κ (some (zi (-1))) (zu m 74 12 0))
    (k3 : ¬ w < 0 → ¬ 2 < w → v < 0 → zB (zu m 74 12 0) → κ (some (zi (-1))) (zu m 74 12 0))
    (k4 : ¬ w < 0 → ¬ 2 < w → ¬ v < 0 → 9 < v → zB (zu m 74 12 0) → κ (some (zi (-1))) (zu m 74 12 0))
    (k5 : ¬ w < 0 → ¬ 2 < w → ¬ v < 0 → ¬ 9 < v → zB (zu (zu m 74 12 0) 79 (w.toNat) v) → κ (some (zi (m 79 (w.toNat)))) (zu (zu m 74 12 0) 79 (w.toNat) v)) :
    T (D + 2) 222 (0, [(0, zr 74), (1, zi w), (2, zi v)], [], m) κ := by
  have hb2 : 0 ≤ (m 79 (w.toNat)) ∧ (m 79 (w.toNat)) ≤ 9 := hB 79 (w.toNat)
  have he0 : wr w = w := wr_id (by omega) (by omega)
  have he1 : wr v = v := wr_id (by omega) (by omega)
  have he2 : wr (m 79 (w.toNat)) = (m 79 (w.toNat)) := wr_id (by omega) (by omega)
  have key := @zb222_0r T hT D κ m w v
  simp only [he0, he1, he2, Int.toNat_natCast] at key
  exact key
    (fun x0 => k1 x0 (zB_u hB trivial))
    (fun x0 x1 => k2 x0 x1 (zB_u hB trivial))
    (fun x0 x1 x2 => k3 x0 x1 x2 (zB_u hB trivial))
    (fun x0 x1 x2 x3 => k4 x0 x1 x2 x3 (zB_u hB trivial))
    (fun x0 x1 x2 x3 => by refine ⟨?_, ?_⟩ <;> omega)
    (fun x0 x1 x2 x3 => by refine ⟨?_, ?_⟩ <;> omega)
    (fun x0 x1 x2 x3 => k5 x0 x1 x2 x3 (zB_u (zB_u hB trivial) (show 0 ≤ v ∧ v ≤ 9 from ⟨by omega, by omega⟩)))
theorem zb148_0r (hT : zRules T) {D : Nat} {κ : Option zA → zM → Prop} {m : zM} {p : Int} {q : Int} {w : Int} {v : Int} 
    (o1 : wr p < 0 → κ (some (zi (-1))) m)
    (o2 : ¬ wr p < 0 → ¬ wr p < wr (m 17 0) → κ (some (zi (-1))) m)
    (o3 : ¬ wr p < 0 → wr p < wr (m 17 0) → wr q < 0 → κ (some (zi (-1))) m)
    (o4 : ¬ wr p < 0 → wr p < wr (m 17 0) → ¬ wr q < 0 → ¬ wr q < 4 → κ (some (zi (-1))) m)
    (o5 : ¬ wr p < 0 → wr p < wr (m 17 0) → ¬ wr q < 0 → wr q < 4 → wr w < 0 → κ (some (zi (-1))) m)
    (o6 : ¬ wr p < 0 → wr p < wr (m 17 0) → ¬ wr q < 0 → wr q < 4 → ¬ wr w < 0 → 9999 < wr w → κ (some (zi (-1))) m)
    (o7 : ¬ wr p < 0 → wr p < wr (m 17 0) → ¬ wr q < 0 → wr q < 4 → ¬ wr w < 0 → ¬ 9999 < wr w → wr v < 0 → κ (some (zi (-1))) m)
    (o8 : ¬ wr p < 0 → wr p < wr (m 17 0) → ¬ wr q < 0 → wr q < 4 → ¬ wr w < 0 → ¬ 9999 < wr w → ¬ wr v < 0 → 99 < wr v → κ (some (zi (-1))) m)
    (o9 : ¬ wr p < 0 → wr p < wr (m 17 0) → ¬ wr q < 0 → wr q < 4 → ¬ wr w < 0 → ¬ 9999 < wr w → ¬ wr v < 0 → ¬ 99 < wr v → wr (m 59 4) < 12 → (0 ≤ wr (m 59 4) ∧ wr (m 59 4) < 12))
    (o10 : ¬ wr p < 0 → wr p < wr (m 17 0) → ¬ wr q < 0 → wr q < 4 → ¬ wr w < 0 → ¬ 9999 < wr w → ¬ wr v < 0 → ¬ 99 < wr v → wr (m 59 4) < 12 → (0 ≤ wr (m 59 4) ∧ wr (m 59 4) < 12))
    (o11 : ¬ wr p < 0 → wr p < wr (m 17 0) → ¬ wr q < 0 → wr q < 4 → ¬ wr w < 0 → ¬ 9999 < wr w → ¬ wr v < 0 → ¬ 99 < wr v → wr (m 59 4) < 12 → (0 ≤ wr (m 59 4) ∧ wr (m 59 4) < 12))
    (o12 : ¬ wr p < 0 → wr p < wr (m 17 0) → ¬ wr q < 0 → wr q < 4 → ¬ wr w < 0 → ¬ 9999 < wr w → ¬ wr v < 0 → ¬ 99 < wr v → wr (m 59 4) < 12 → (0 ≤ wr (m 59 4) ∧ wr (m 59 4) < 12))
    (o13 : ¬ wr p < 0 → wr p < wr (m 17 0) → ¬ wr q < 0 → wr q < 4 → ¬ wr w < 0 → ¬ 9999 < wr w → ¬ wr v < 0 → ¬ 99 < wr v → wr (m 59 4) < 12 → κ (some (zi (wr (wr ((m 59 4) + 1))))) (zu (zu (zu (zu (zu m 60 ((wr (m 59 4)).toNat) p) 61 ((wr (m 59 4)).toNat) q) 62 ((wr (m 59 4)).toNat) w) 63 ((wr (m 59 4)).toNat) v) 59 4 ((m 59 4) + 1)))
    (o14 : ¬ wr p < 0 → wr p < wr (m 17 0) → ¬ wr q < 0 → wr q < 4 → ¬ wr w < 0 → ¬ 9999 < wr w → ¬ wr v < 0 → ¬ 99 < wr v → ¬ wr (m 59 4) < 12 → κ (some (zi (-1))) m) :
    T (D + 2) 148 (0, [(0, zr 1), (1, zi p), (2, zi q), (3, zi w), (4, zi v)], [], m) κ :=
  hT.1 [] 6 (D + 2) 148 _ κ (hT.1 [] 6 (D + 1) 25 _ _ (And.intro (fun a1 => (And.intro (z_b01L rfl) (hT.1 [] 6 (D + 2) 148 _ _ (And.intro (fun _ => (o1 a1)) (fun a3 => (a3 (z_litT rfl)).elim))))) (fun a2 => (And.intro (fun a4 => (hT.1 [] 6 (D + 1) 25 (16, [(0, zr 17), (1, zi p)], [], m) _ (And.intro (z_b01L rfl) (hT.1 [] 6 (D + 2) 148 _ _ (And.intro (fun _ => (o2 a2 a4)) (fun a6 => (a6 (z_litT rfl)).elim)))))) (fun a5 => (hT.1 [] 6 (D + 1) 25 (12, [(0, zr 17), (1, zi p)], [], m) _ (And.intro (z_b01L rfl) (hT.1 [] 6 (D + 2) 148 _ _ (And.intro (fun a7 => (z_litF a7 rfl).elim) (fun _ => (hT.1 [] 6 (D + 1) 163 _ _ (And.intro (fun a8 => (And.intro (z_b01L rfl) (hT.1 [] 6 (D + 2) 148 _ _ (And.intro (fun _ => (o3 a2 (Classical.byContradiction a5) a8)) (fun a10 => (a10 (z_litT rfl)).elim))))) (fun a9 => (And.intro (fun a11 => (hT.1 [] 6 (D + 1) 163 (14, [(0, zi q)], [zi 0], m) _ (And.intro (z_b01L rfl) (hT.1 [] 6 (D + 2) 148 _ _ (And.intro (fun _ => (o4 a2 (Classical.byContradiction a5) a9 a11)) (fun a13 => (a13 (z_litT rfl)).elim)))))) (fun a12 => (hT.1 [] 6 (D + 1) 163 (10, [(0, zi q)], [zi 1], m) _ (And.intro (z_b01L rfl) (hT.1 [] 6 (D + 2) 148 _ _ (And.intro (fun a14 => (z_litF a14 rfl).elim) (fun _ => (hT.1 [] 6 (D + 1) 164 _ _ (And.intro (fun a15 => (And.intro (z_b01L rfl) (hT.1 [] 6 (D + 2) 148 _ _ (And.intro (fun _ => (o5 a2 (Classical.byContradiction a5) a9 (Classical.byContradiction a12) a15)) (fun a17 => (a17 (z_litT rfl)).elim))))) (fun a16 => (And.intro (fun a18 => (hT.1 [] 6 (D + 1) 164 (16, [(0, zi w)], [zi 0], m) _ (And.intro (z_b01L rfl) (hT.1 [] 6 (D + 2) 148 _ _ (And.intro (fun _ => (o6 a2 (Classical.byContradiction a5) a9 (Classical.byContradiction a12) a16 a18)) (fun a20 => (a20 (z_litT rfl)).elim)))))) (fun a19 => (hT.1 [] 6 (D + 1) 164 (12, [(0, zi w)], [zi 1], m) _ (And.intro (z_b01L rfl) (hT.1 [] 6 (D + 2) 148 _ _ (And.intro (fun a21 => (z_litF a21 rfl).elim) (fun _ => (hT.1 [] 6 (D + 1) 165 _ _ (And.intro (fun a22 => (And.intro (z_b01L rfl) (hT.1 [] 6 (D + 2) 148 _ _ (And.intro (fun a24 => (z_litF a24 rfl).elim) (fun _ => (o7 a2 (Classical.byContradiction a5) a9 (Classical.byContradiction a12) a16 a19 a22)))))) (fun a23 => (And.intro (fun a25 => (hT.1 [] 6 (D + 1) 165 (15, [(0, zi v)], [zi 0], m) _ (And.intro (z_b01L rfl) (hT.1 [] 6 (D + 2) 148 _ _ (And.intro (fun a27 => (z_litF a27 rfl).elim) (fun _ => (o8 a2 (Classical.byContradiction a5) a9 (Classical.byContradiction a12) a16 a19 a23 a25))))))) (fun a26 => (hT.1 [] 6 (D + 1) 165 (11, [(0, zi v)], [zi 1], m) _ (And.intro (z_b01L rfl) (hT.1 [] 6 (D + 2) 148 _ _ (And.intro (fun _ => (hT.1 [] 6 (D + 2) 148 (42, [(0, zr 1), (1, zi p), (2, zi q), (3, zi w), (4, zi v)], [zi w, zi q, zi p, zr 59], m) _ (hT.1 [] 6 (D + 1) 61 _ _ (And.intro (fun a29 => (hT.1 [] 6 (D + 1) 61 (15, [(0, zr 59), (1, zi p), (2, zi q), (3, zi w), (4, zi v)], [zr 60], m) _ (And.intro (And.intro (o9 a2 (Classical.byContradiction a5) a9 (Classical.byContradiction a12) a16 a19 a23 a26 a29) trivial) (hT.1 [] 6 (D + 1) 61 (25, [(0, zr 59), (1, zi p), (2, zi q), (3, zi w), (4, zi v)], [zr 61], (zu m 60 ((wr (m 59 4)).toNat) p)) _ (And.intro (And.intro (o10 a2 (Classical.byContradiction a5) a9 (Classical.byContradiction a12) a16 a19 a23 a26 a29) trivial) (hT.1 [] 6 (D + 1) 61 (35, [(0, zr 59), (1, zi p), (2, zi q), (3, zi w), (4, zi v)], [zr 62], (zu (zu m 60 ((wr (m 59 4)).toNat) p) 61 ((wr (m 59 4)).toNat) q)) _ (And.intro (And.intro (o11 a2 (Classical.byContradiction a5) a9 (Classical.byContradiction a12) a16 a19 a23 a26 a29) trivial) (hT.1 [] 6 (D + 1) 61 (45, [(0, zr 59), (1, zi p), (2, zi q), (3, zi w), (4, zi v)], [zr 63], (zu (zu (zu m 60 ((wr (m 59 4)).toNat) p) 61 ((wr (m 59 4)).toNat) q) 62 ((wr (m 59 4)).toNat) w)) _ (And.intro (And.intro (o12 a2 (Classical.byContradiction a5) a9 (Classical.byContradiction a12) a16 a19 a23 a26 a29) trivial) (hT.1 [] 6 (D + 1) 61 (54, [(0, zr 59), (1, zi p), (2, zi q), (3, zi w), (4, zi v)], [zr 59, zr 59], (zu (zu (zu (zu m 60 ((wr (m 59 4)).toNat) p) 61 ((wr (m 59 4)).toNat) q) 62 ((wr (m 59 4)).toNat) w) 63 ((wr (m 59 4)).toNat) v)) _ (And.intro trivial (hT.1 [] 6 (D + 1) 61 (66, [(0, zr 59), (1, zi p), (2, zi q), (3, zi w), (4, zi v)], [zi ((m 59 4) + 1)], (zu (zu (zu (zu (zu m 60 ((wr (m 59 4)).toNat) p) 61 ((wr (m 59 4)).toNat) q) 62 ((wr (m 59 4)).toNat) w) 63 ((wr (m 59 4)).toNat) v) 59 4 ((m 59 4) + 1))) _ (hT.1 [] 6 (D + 2) 148 _ _ (o13 a2 (Classical.byContradiction a5) a9 (Classical.byContradiction a12) a16 a19 a23 a26 a29)))))))))))))) (fun a30 => (hT.1 [] 6 (D + 2) 148 _ _ (o14 a2 (Classical.byContradiction a5) a9 (Classical.byContradiction a12) a16 a19 a23 a26 a30))))))) (fun a28 => (a28 (z_litT rfl)).elim))))))))))))))))))))))))))))))))))))))))
theorem zb148_0 (hT : zRules T) {D : Nat} {κ : Option zA → zM → Prop} {m : zM} {p : Int} {q : Int} {w : Int} {v : Int}  (hB : zB m) (h_p : (-2147483648) ≤ p ∧ p ≤ 2147483647) (h_q : (-2147483648) ≤ q ∧ q ≤ 2147483647) (h_w : (-2147483648) ≤ w ∧ w ≤ 2147483647) (h_v : (-2147483648) ≤ v ∧ v ≤ 2147483647) 
    (k1 : p < 0 → κ (some (zi (-1))) m)
    (k2 : ¬ p < 0 → ¬ p < (m 17 0) → κ (some (zi (-1))) m)
    (k3 : ¬ p < 0 → p < (m 17 0) → q < 0 → κ (some (zi (-1))) m)
    (k4 : ¬ p < 0 → p < (m 17 0) → ¬ q < 0 → ¬ q < 4 → κ (some (zi (-1))) m)
    (k5 : ¬ p < 0 → p < (m 17 0) → ¬ q < 0 → q < 4 → w < 0 → κ (some (zi (-1))) m)
    (k6 : ¬ p < 0 → p < (m 17 0) → ¬ q < 0 → q < 4 → ¬ w < 0 → 9999 < w → κ (some (zi (-1))) m)
    (k7 : ¬ p < 0 → p < (m 17 0) → ¬ q < 0 → q < 4 → ¬ w < 0 → ¬ 9999 < w → v < 0 → κ (some (zi (-1))) m)
    (k8 : ¬ p < 0 → p < (m 17 0) → ¬ q < 0 → q < 4 → ¬ w < 0 → ¬ 9999 < w → ¬ v < 0 → 99 < v → κ (some (zi (-1))) m)
    (k9 : ¬ p < 0 → p < (m 17 0) → ¬ q < 0 → q < 4 → ¬ w < 0 → ¬ 9999 < w → ¬ v < 0 → ¬ 99 < v → (m 59 4) < 12 → zB (zu (zu (zu (zu (zu m 60 ((m 59 4).toNat) p) 61 ((m 59 4).toNat) q) 62 ((m 59 4).toNat) w) 63 ((m 59 4).toNat) v) 59 4 ((m 59 4) + 1)) → κ (some (zi ((m 59 4) + 1))) (zu (zu (zu (zu (zu m 60 ((m 59 4).toNat) p) 61 ((m 59 4).toNat) q) 62 ((m 59 4).toNat) w) 63 ((m 59 4).toNat) v) 59 4 ((m 59 4) + 1)))
    (k10 : ¬ p < 0 → p < (m 17 0) → ¬ q < 0 → q < 4 → ¬ w < 0 → ¬ 9999 < w → ¬ v < 0 → ¬ 99 < v → ¬ (m 59 4) < 12 → κ (some (zi (-1))) m) :
    T (D + 2) 148 (0, [(0, zr 1), (1, zi p), (2, zi q), (3, zi w), (4, zi v)], [], m) κ := by
  have hb4 : 0 ≤ (m 17 0) ∧ (m 17 0) ≤ 6 := hB 17 0
  have hb5 : 0 ≤ (m 59 4) ∧ (m 59 4) ≤ 12 := hB 59 4
  have he0 : wr p = p := wr_id (by omega) (by omega)
  have he1 : wr (m 17 0) = (m 17 0) := wr_id (by omega) (by omega)
  have he2 : wr q = q := wr_id (by omega) (by omega)
  have he3 : wr w = w := wr_id (by omega) (by omega)
  have he4 : wr v = v := wr_id (by omega) (by omega)
  have he5 : wr (m 59 4) = (m 59 4) := wr_id (by omega) (by omega)
  have he6 : wr ((m 59 4) + 1) = ((m 59 4) + 1) := wr_id (by omega) (by omega)
  have key := @zb148_0r T hT D κ m p q w v
  simp only [he0, he1, he2, he3, he4, he5, he6, Int.toNat_natCast] at key
  exact key
    k1
    k2
    k3
    k4
    k5
    k6
    k7
    k8
    (fun x0 x1 x2 x3 x4 x5 x6 x7 x8 => by refine ⟨?_, ?_⟩ <;> omega)
    (fun x0 x1 x2 x3 x4 x5 x6 x7 x8 => by refine ⟨?_, ?_⟩ <;> omega)
    (fun x0 x1 x2 x3 x4 x5 x6 x7 x8 => by refine ⟨?_, ?_⟩ <;> omega)
    (fun x0 x1 x2 x3 x4 x5 x6 x7 x8 => by refine ⟨?_, ?_⟩ <;> omega)
    (fun x0 x1 x2 x3 x4 x5 x6 x7 x8 => k9 x0 x1 x2 x3 x4 x5 x6 x7 x8 (zB_u (zB_u (zB_u (zB_u (zB_u hB (show 0 ≤ p ∧ p ≤ 5 from ⟨by omega, by omega⟩)) (show 0 ≤ q ∧ q ≤ 3 from ⟨by omega, by omega⟩)) (show 0 ≤ w ∧ w ≤ 9999 from ⟨by omega, by omega⟩)) (show 0 ≤ v ∧ v ≤ 99 from ⟨by omega, by omega⟩)) (show 0 ≤ ((m 59 4) + 1) ∧ ((m 59 4) + 1) ≤ 12 from ⟨by omega, by omega⟩)))
    k10
theorem zb273_0r (hT : zRules T) {D : Nat} {κ : Option zA → zM → Prop} {m : zM} {p : Int} {q : Int} {w : Int} {v : Int} 
    (o1 : wr p < 0 → κ (some (zi (-1))) (zu m 74 12 0))
    (o2 : ¬ wr p < 0 → wr ((m 74 4) - 1) < wr p → κ (some (zi (-1))) (zu m 74 12 0))
    (o3 : ¬ wr p < 0 → ¬ wr ((m 74 4) - 1) < wr p → wr q < 0 → κ (some (zi (-1))) (zu m 74 12 0))
    (o4 : ¬ wr p < 0 → ¬ wr ((m 74 4) - 1) < wr p → ¬ wr q < 0 → 3 < wr q → κ (some (zi (-1))) (zu m 74 12 0))
    (o5 : ¬ wr p < 0 → ¬ wr ((m 74 4) - 1) < wr p → ¬ wr q < 0 → ¬ 3 < wr q → wr w < 0 → κ (some (zi (-1))) (zu m 74 12 0))
    (o6 : ¬ wr p < 0 → ¬ wr ((m 74 4) - 1) < wr p → ¬ wr q < 0 → ¬ 3 < wr q → ¬ wr w < 0 → 9999 < wr w → κ (some (zi (-1))) (zu m 74 12 0))
    (o7 : ¬ wr p < 0 → ¬ wr ((m 74 4) - 1) < wr p → ¬ wr q < 0 → ¬ 3 < wr q → ¬ wr w < 0 → ¬ 9999 < wr w → wr v < 0 → κ (some (zi (-1))) (zu m 74 12 0))
    (o8 : ¬ wr p < 0 → ¬ wr ((m 74 4) - 1) < wr p → ¬ wr q < 0 → ¬ 3 < wr q → ¬ wr w < 0 → ¬ 9999 < wr w → ¬ wr v < 0 → 99 < wr v → κ (some (zi (-1))) (zu m 74 12 0))
    (o9 : ¬ wr p < 0 → ¬ wr ((m 74 4) - 1) < wr p → ¬ wr q < 0 → ¬ 3 < wr q → ¬ wr w < 0 → ¬ 9999 < wr w → ¬ wr v < 0 → ¬ 99 < wr v → ¬ wr (m 74 52) = 12 → (0 ≤ wr (4 * (m 74 52)) ∧ wr (4 * (m 74 52)) < 48))
    (o10 : ¬ wr p < 0 → ¬ wr ((m 74 4) - 1) < wr p → ¬ wr q < 0 → ¬ 3 < wr q → ¬ wr w < 0 → ¬ 9999 < wr w → ¬ wr v < 0 → ¬ 99 < wr v → ¬ wr (m 74 52) = 12 → (0 ≤ wr ((4 * (m 74 52)) + 1) ∧ wr ((4 * (m 74 52)) + 1) < 48))
    (o11 : ¬ wr p < 0 → ¬ wr ((m 74 4) - 1) < wr p → ¬ wr q < 0 → ¬ 3 < wr q → ¬ wr w < 0 → ¬ 9999 < wr w → ¬ wr v < 0 → ¬ 99 < wr v → ¬ wr (m 74 52) = 12 → (0 ≤ wr ((4 * (m 74 52)) + 2) ∧ wr ((4 * (m 74 52)) + 2) < 48))
    (o12 : ¬ wr p < 0 → ¬ wr ((m 74 4) - 1) < wr p → ¬ wr q < 0 → ¬ 3 < wr q → ¬ wr w < 0 → ¬ 9999 < wr w → ¬ wr v < 0 → ¬ 99 < wr v → ¬ wr (m 74 52) = 12 → (0 ≤ wr ((4 * (m 74 52)) + 3) ∧ wr ((4 * (m 74 52)) + 3) < 48))
    (o13 : ¬ wr p < 0 → ¬ wr ((m 74 4) - 1) < wr p → ¬ wr q < 0 → ¬ 3 < wr q → ¬ wr w < 0 → ¬ 9999 < wr w → ¬ wr v < 0 → ¬ 99 < wr v → ¬ wr (m 74 52) = 12 → κ (some (zi (wr ((m 74 52) + 1)))) (zu (zu (zu (zu (zu (zu m 74 12 0) 99 ((wr (4 * (m 74 52))).toNat) p) 99 ((wr ((4 * (m 74 52)) + 1)).toNat) q) 99 ((wr ((4 * (m 74 52)) + 2)).toNat) w) 99 ((wr ((4 * (m 74 52)) + 3)).toNat) v) 74 52 ((m 74 52) + 1)))
    (o14 : ¬ wr p < 0 → ¬ wr ((m 74 4) - 1) < wr p → ¬ wr q < 0 → ¬ 3 < wr q → ¬ wr w < 0 → ¬ 9999 < wr w → ¬ wr v < 0 → ¬ 99 < wr v → wr (m 74 52) = 12 → κ (some (zi (-1))) (zu m 74 12 0)) :
    T (D + 2) 273 (0, [(0, zr 74), (1, zi p), (2, zi q), (3, zi w), (4, zi v)], [], m) κ :=
  hT.1 [] 6 (D + 2) 273 _ κ (And.intro trivial (hT.1 [] 6 (D + 1) 190 _ _ (hT.1 [] 6 (D + 1) 190 (8, [(0, zr 74), (1, zi p)], [zi ((m 74 4) - 1), zi 0, zi p], (zu m 74 12 0)) _ (hT.1 [] 6 D 186 _ _ (And.intro (fun a1 => (And.intro (z_b01L rfl) (hT.1 [] 6 (D + 1) 190 _ _ (And.intro (z_b01L rfl) (hT.1 [] 6 (D + 2) 273 _ _ (And.intro (fun _ => (o1 a1)) (fun a3 => (a3 (z_litT rfl)).elim))))))) (fun a2 => (And.intro (fun a4 => (hT.1 [] 6 D 186 (14, [(0, zi p), (1, zi 0), (2, zi ((m 74 4) - 1))], [], (zu m 74 12 0)) _ (And.intro (z_b01L rfl) (hT.1 [] 6 (D + 1) 190 _ _ (And.intro (z_b01L rfl) (hT.1 [] 6 (D + 2) 273 _ _ (And.intro (fun _ => (o2 a2 a4)) (fun a6 => (a6 (z_litT rfl)).elim)))))))) (fun a5 => (hT.1 [] 6 D 186 (10, [(0, zi p), (1, zi 0), (2, zi ((m 74 4) - 1))], [], (zu m 74 12 0)) _ (And.intro (z_b01L rfl) (hT.1 [] 6 (D + 1) 190 _ _ (And.intro (z_b01L rfl) (hT.1 [] 6 (D + 2) 273 _ _ (And.intro (fun a7 => (z_litF a7 rfl).elim) (fun _ => (hT.1 [] 6 (D + 1) 192 _ _ (hT.1 [] 6 D 186 _ _ (And.intro (fun a8 => (And.intro (z_b01L rfl) (hT.1 [] 6 (D + 1) 192 _ _ (And.intro (z_b01L rfl) (hT.1 [] 6 (D + 2) 273 _ _ (And.intro (fun _ => (o3 a2 a5 a8)) (fun a10 => (a10 (z_litT rfl)).elim))))))) (fun a9 => (And.intro (fun a11 => (hT.1 [] 6 D 186 (14, [(0, zi q), (1, zi 0), (2, zi 3)], [], (zu m 74 12 0)) _ (And.intro (z_b01L rfl) (hT.1 [] 6 (D + 1) 192 _ _ (And.intro (z_b01L rfl) (hT.1 [] 6 (D + 2) 273 _ _ (And.intro (fun _ => (o4 a2 a5 a9 a11)) (fun a13 => (a13 (z_litT rfl)).elim)))))))) (fun a12 => (hT.1 [] 6 D 186 (10, [(0, zi q), (1, zi 0), (2, zi 3)], [], (zu m 74 12 0)) _ (And.intro (z_b01L rfl) (hT.1 [] 6 (D + 1) 192 _ _ (And.intro (z_b01L rfl) (hT.1 [] 6 (D + 2) 273 _ _ (And.intro (fun a14 => (z_litF a14 rfl).elim) (fun _ => (hT.1 [] 6 (D + 1) 193 _ _ (hT.1 [] 6 D 186 _ _ (And.intro (fun a15 => (And.intro (z_b01L rfl) (hT.1 [] 6 (D + 1) 193 _ _ (And.intro (z_b01L rfl) (hT.1 [] 6 (D + 2) 273 _ _ (And.intro (fun _ => (o5 a2 a5 a9 a12 a15)) (fun a17 => (a17 (z_litT rfl)).elim))))))) (fun a16 => (And.intro (fun a18 => (hT.1 [] 6 D 186 (14, [(0, zi w), (1, zi 0), (2, zi 9999)], [], (zu m 74 12 0)) _ (And.intro (z_b01L rfl) (hT.1 [] 6 (D + 1) 193 _ _ (And.intro (z_b01L rfl) (hT.1 [] 6 (D + 2) 273 _ _ (And.intro (fun _ => (o6 a2 a5 a9 a12 a16 a18)) (fun a20 => (a20 (z_litT rfl)).elim)))))))) (fun a19 => (hT.1 [] 6 D 186 (10, [(0, zi w), (1, zi 0), (2, zi 9999)], [], (zu m 74 12 0)) _ (And.intro (z_b01L rfl) (hT.1 [] 6 (D + 1) 193 _ _ (And.intro (z_b01L rfl) (hT.1 [] 6 (D + 2) 273 _ _ (And.intro (fun a21 => (z_litF a21 rfl).elim) (fun _ => (hT.1 [] 6 (D + 1) 186 _ _ (And.intro (fun a22 => (And.intro (z_b01L rfl) (hT.1 [] 6 (D + 2) 273 _ _ (And.intro (fun _ => (o7 a2 a5 a9 a12 a16 a19 a22)) (fun a24 => (a24 (z_litT rfl)).elim))))) (fun a23 => (And.intro (fun a25 => (hT.1 [] 6 (D + 1) 186 (14, [(0, zi v), (1, zi 0), (2, zi 99)], [], (zu m 74 12 0)) _ (And.intro (z_b01L rfl) (hT.1 [] 6 (D + 2) 273 _ _ (And.intro (fun _ => (o8 a2 a5 a9 a12 a16 a19 a23 a25)) (fun a27 => (a27 (z_litT rfl)).elim)))))) (fun a26 => (hT.1 [] 6 (D + 1) 186 (10, [(0, zi v), (1, zi 0), (2, zi 99)], [], (zu m 74 12 0)) _ (And.intro (z_b01L rfl) (hT.1 [] 6 (D + 2) 273 _ _ (And.intro (fun a28 => (z_litF a28 rfl).elim) (fun _ => (And.intro (fun a29 => (hT.1 [] 6 (D + 2) 273 (50, [(0, zr 74), (1, zi p), (2, zi q), (3, zi w), (4, zi v)], [zr 74], (zu m 74 12 0)) _ (hT.1 [] 6 (D + 2) 273 (60, [(0, zr 74), (1, zi p), (2, zi q), (3, zi w), (4, zi v)], [zi p, zi (4 * (m 74 52)), zr 99], (zu m 74 12 0)) _ (And.intro (And.intro (o9 a2 a5 a9 a12 a16 a19 a23 a26 a29) trivial) (hT.1 [] 6 (D + 2) 273 (70, [(0, zr 74), (1, zi p), (2, zi q), (3, zi w), (4, zi v)], [zi (m 74 52), zi 4, zr 99], (zu (zu m 74 12 0) 99 ((wr (4 * (m 74 52))).toNat) p)) _ (And.intro (And.intro (o10 a2 a5 a9 a12 a16 a19 a23 a26 a29) trivial) (hT.1 [] 6 (D + 2) 273 (76, [(0, zr 74), (1, zi p), (2, zi q), (3, zi w), (4, zi v)], [zr 74], (zu (zu (zu m 74 12 0) 99 ((wr (4 * (m 74 52))).toNat) p) 99 ((wr ((4 * (m 74 52)) + 1)).toNat) q)) _ (hT.1 [] 6 (D + 2) 273 (86, [(0, zr 74), (1, zi p), (2, zi q), (3, zi w), (4, zi v)], [zi 2, zi (4 * (m 74 52)), zr 99], (zu (zu (zu m 74 12 0) 99 ((wr (4 * (m 74 52))).toNat) p) 99 ((wr ((4 * (m 74 52)) + 1)).toNat) q)) _ (And.intro (And.intro (o11 a2 a5 a9 a12 a16 a19 a23 a26 a29) trivial) (hT.1 [] 6 (D + 2) 273 (94, [(0, zr 74), (1, zi p), (2, zi q), (3, zi w), (4, zi v)], [zi 4, zr 99], (zu (zu (zu (zu m 74 12 0) 99 ((wr (4 * (m 74 52))).toNat) p) 99 ((wr ((4 * (m 74 52)) + 1)).toNat) q) 99 ((wr ((4 * (m 74 52)) + 2)).toNat) w)) _ (hT.1 [] 6 (D + 2) 273 (103, [(0, zr 74), (1, zi p), (2, zi q), (3, zi w), (4, zi v)], [zi v, zi ((4 * (m 74 52)) + 3), zr 99], (zu (zu (zu (zu m 74 12 0) 99 ((wr (4 * (m 74 52))).toNat) p) 99 ((wr ((4 * (m 74 52)) + 1)).toNat) q) 99 ((wr ((4 * (m 74 52)) + 2)).toNat) w)) _ (And.intro (And.intro (o12 a2 a5 a9 a12 a16 a19 a23 a26 a29) trivial) (hT.1 [] 6 (D + 2) 273 (111, [(0, zr 74), (1, zi p), (2, zi q), (3, zi w), (4, zi v)], [zi ((m 74 52) + 1), zr 74], (zu (zu (zu (zu (zu m 74 12 0) 99 ((wr (4 * (m 74 52))).toNat) p) 99 ((wr ((4 * (m 74 52)) + 1)).toNat) q) 99 ((wr ((4 * (m 74 52)) + 2)).toNat) w) 99 ((wr ((4 * (m 74 52)) + 3)).toNat) v)) _ (And.intro trivial (o13 a2 a5 a9 a12 a16 a19 a23 a26 a29))))))))))))))) (fun a30 => (hT.1 [] 6 (D + 2) 273 (48, [(0, zr 74), (1, zi p), (2, zi q), (3, zi w), (4, zi v)], [zi (-1)], (zu m 74 12 0)) _ (o14 a2 a5 a9 a12 a16 a19 a23 a26 (Classical.byContradiction a30))))))))))))))))))))))))))))))))))))))))))))))))))))))))
theorem zb273_0 (hT : zRules T) {D : Nat} {κ : Option zA → zM → Prop} {m : zM} {p : Int} {q : Int} {w : Int} {v : Int}  (hB : zB m) (h_p : (-2147483648) ≤ p ∧ p ≤ 2147483647) (h_q : (-2147483648) ≤ q ∧ q ≤ 2147483647) (h_w : (-2147483648) ≤ w ∧ w ≤ 2147483647) (h_v : (-2147483648) ≤ v ∧ v ≤ 2147483647) 
    (k1 : p < 0 → zB (zu m 74 12 0) → κ (some (zi (-1))) (zu m 74 12 0))
    (k2 : ¬ p < 0 → ((m 74 4) - 1) < p → zB (zu m 74 12 0) → κ (some (zi (-1))) (zu m 74 12 0))
    (k3 : ¬ p < 0 → ¬ ((m 74 4) - 1) < p → q < 0 → zB (zu m 74 12 0) → κ (some (zi (-1))) (zu m 74 12 0))
    (k4 : ¬ p < 0 → ¬ ((m 74 4) - 1) < p → ¬ q < 0 → 3 < q → zB (zu m 74 12 0) → κ (some (zi (-1))) (zu m 74 12 0))
    (k5 : ¬ p < 0 → ¬ ((m 74 4) - 1) < p → ¬ q < 0 → ¬ 3 < q → w < 0 → zB (zu m 74 12 0) → κ (some (zi (-1))) (zu m 74 12 0))
    (k6 : ¬ p < 0 → ¬ ((m 74 4) - 1) < p → ¬ q < 0 → ¬ 3 < q → ¬ w < 0 → 9999 < w → zB (zu m 74 12 0) → κ (some (zi (-1))) (zu m 74 12 0))
    (k7 : ¬ p < 0 → ¬ ((m 74 4) - 1) < p → ¬ q < 0 → ¬ 3 < q → ¬ w < 0 → ¬ 9999 < w → v < 0 → zB (zu m 74 12 0) → κ (some (zi (-1))) (zu m 74 12 0))
    (k8 : ¬ p < 0 → ¬ ((m 74 4) - 1) < p → ¬ q < 0 → ¬ 3 < q → ¬ w < 0 → ¬ 9999 < w → ¬ v < 0 → 99 < v → zB (zu m 74 12 0) → κ (some (zi (-1))) (zu m 74 12 0))
    (k9 : ¬ p < 0 → ¬ ((m 74 4) - 1) < p → ¬ q < 0 → ¬ 3 < q → ¬ w < 0 → ¬ 9999 < w → ¬ v < 0 → ¬ 99 < v → ¬ (m 74 52) = 12 → zB (zu (zu (zu (zu (zu (zu m 74 12 0) 99 ((4 * (m 74 52)).toNat) p) 99 (((4 * (m 74 52)) + 1).toNat) q) 99 (((4 * (m 74 52)) + 2).toNat) w) 99 (((4 * (m 74 52)) + 3).toNat) v) 74 52 ((m 74 52) + 1)) → κ (some (zi ((m 74 52) + 1))) (zu (zu (zu (zu (zu (zu m 74 12 0) 99 ((4 * (m 74 52)).toNat) p) 99 (((4 * (m 74 52)) + 1).toNat) q) 99 (((4 * (m 74 52)) + 2).toNat) w) 99 (((4 * (m 74 52)) + 3).toNat) v) 74 52 ((m 74 52) + 1)))
    (k10 : ¬ p < 0 → ¬ ((m 74 4) - 1) < p → ¬ q < 0 → ¬ 3 < q → ¬ w < 0 → ¬ 9999 < w → ¬ v < 0 → ¬ 99 < v → (m 74 52) = 12 → zB (zu m 74 12 0) → κ (some (zi (-1))) (zu m 74 12 0)) :
    T (D + 2) 273 (0, [(0, zr 74), (1, zi p), (2, zi q), (3, zi w), (4, zi v)], [], m) κ := by
  have hb4 : 0 ≤ (m 74 4) ∧ (m 74 4) ≤ 6 := hB 74 4
  have hb5 : 0 ≤ (m 74 52) ∧ (m 74 52) ≤ 12 := hB 74 52
  have he0 : wr p = p := wr_id (by omega) (by omega)
  have he1 : wr ((m 74 4) - 1) = ((m 74 4) - 1) := wr_id (by omega) (by omega)
  have he2 : wr q = q := wr_id (by omega) (by omega)
  have he3 : wr w = w := wr_id (by omega) (by omega)
  have he4 : wr v = v := wr_id (by omega) (by omega)
  have he5 : wr (m 74 52) = (m 74 52) := wr_id (by omega) (by omega)
  have he6 : wr (4 * (m 74 52)) = (4 * (m 74 52)) := wr_id (by omega) (by omega)
  have he7 : wr ((4 * (m 74 52)) + 1) = ((4 * (m 74 52)) + 1) := wr_id (by omega) (by omega)
  have he8 : wr ((4 * (m 74 52)) + 2) = ((4 * (m 74 52)) + 2) := wr_id (by omega) (by omega)
  have he9 : wr ((4 * (m 74 52)) + 3) = ((4 * (m 74 52)) + 3) := wr_id (by omega) (by omega)
  have he10 : wr ((m 74 52) + 1) = ((m 74 52) + 1) := wr_id (by omega) (by omega)
  have key := @zb273_0r T hT D κ m p q w v
  simp only [he0, he1, he2, he3, he4, he5, he6, he7, he8, he9, he10, Int.toNat_natCast] at key
  exact key
    (fun x0 => k1 x0 (zB_u hB trivial))
    (fun x0 x1 => k2 x0 x1 (zB_u hB trivial))
    (fun x0 x1 x2 => k3 x0 x1 x2 (zB_u hB trivial))
    (fun x0 x1 x2 x3 => k4 x0 x1 x2 x3 (zB_u hB trivial))
    (fun x0 x1 x2 x3 x4 => k5 x0 x1 x2 x3 x4 (zB_u hB trivial))
    (fun x0 x1 x2 x3 x4 x5 => k6 x0 x1 x2 x3 x4 x5 (zB_u hB trivial))
    (fun x0 x1 x2 x3 x4 x5 x6 => k7 x0 x1 x2 x3 x4 x5 x6 (zB_u hB trivial))
    (fun x0 x1 x2 x3 x4 x5 x6 x7 => k8 x0 x1 x2 x3 x4 x5 x6 x7 (zB_u hB trivial))
    (fun x0 x1 x2 x3 x4 x5 x6 x7 x8 => by refine ⟨?_, ?_⟩ <;> omega)
    (fun x0 x1 x2 x3 x4 x5 x6 x7 x8 => by refine ⟨?_, ?_⟩ <;> omega)
    (fun x0 x1 x2 x3 x4 x5 x6 x7 x8 => by refine ⟨?_, ?_⟩ <;> omega)
    (fun x0 x1 x2 x3 x4 x5 x6 x7 x8 => by refine ⟨?_, ?_⟩ <;> omega)
    (fun x0 x1 x2 x3 x4 x5 x6 x7 x8 => k9 x0 x1 x2 x3 x4 x5 x6 x7 x8 (zB_u (zB_u (zB_u (zB_u (zB_u (zB_u hB trivial) (show 0 ≤ p ∧ p ≤ 9999 from ⟨by omega, by omega⟩)) (show 0 ≤ q ∧ q ≤ 9999 from ⟨by omega, by omega⟩)) (show 0 ≤ w ∧ w ≤ 9999 from ⟨by omega, by omega⟩)) (show 0 ≤ v ∧ v ≤ 9999 from ⟨by omega, by omega⟩)) (show 0 ≤ ((m 74 52) + 1) ∧ ((m 74 52) + 1) ≤ 12 from ⟨by omega, by omega⟩)))
    (fun x0 x1 x2 x3 x4 x5 x6 x7 x8 => k10 x0 x1 x2 x3 x4 x5 x6 x7 x8 (zB_u hB trivial))
theorem zb149_0r (hT : zRules T) {D : Nat} {κ : Option zA → zM → Prop} {m : zM} 
    (o1 : κ (some (zi (wr (m 59 4)))) (zu m 59 4 0)) :
    T (D + 2) 149 (0, [(0, zr 1)], [], m) κ :=
  hT.1 [] 6 (D + 2) 149 _ κ (hT.1 [] 6 (D + 2) 149 (12, [(0, zr 1), (1, zi (m 59 4))], [zr 59], m) _ (And.intro trivial (o1)))
theorem zb149_0 (hT : zRules T) {D : Nat} {κ : Option zA → zM → Prop} {m : zM}  (hB : zB m) 
    (k1 : zB (zu m 59 4 0) → κ (some (zi (m 59 4))) (zu m 59 4 0)) :
    T (D + 2) 149 (0, [(0, zr 1)], [], m) κ := by
  have hb0 : 0 ≤ (m 59 4) ∧ (m 59 4) ≤ 12 := hB 59 4
  have he0 : wr (m 59 4) = (m 59 4) := wr_id (by omega) (by omega)
  have key := @zb149_0r T hT D κ m 
  simp only [he0, Int.toNat_natCast] at key
  exact key
    (k1  (zB_u hB (show 0 ≤ 0 ∧ 0 ≤ 12 from ⟨by omega, by omega⟩)))
theorem zb154_0r (hT : zRules T) {D : Nat} {κ : Option zA → zM → Prop} {m : zM} 
    (o1 : κ (some (zi (wr (m 64 2)))) (zu m 64 2 0)) :
    T (D + 2) 154 (0, [(0, zr 1)], [], m) κ :=
  hT.1 [] 6 (D + 2) 154 _ κ (hT.1 [] 6 (D + 2) 154 (12, [(0, zr 1), (1, zi (m 64 2))], [zr 64], m) _ (And.intro trivial (o1)))
theorem zb154_0 (hT : zRules T) {D : Nat} {κ : Option zA → zM → Prop} {m : zM}  (hB : zB m) 
    (k1 : zB (zu m 64 2 0) → κ (some (zi (m 64 2))) (zu m 64 2 0)) :
    T (D + 2) 154 (0, [(0, zr 1)], [], m) κ := by
  have hb0 : 0 ≤ (m 64 2) ∧ (m 64 2) ≤ 7 := hB 64 2
  have he0 : wr (m 64 2) = (m 64 2) := wr_id (by omega) (by omega)
  have key := @zb154_0r T hT D κ m 
  simp only [he0, Int.toNat_natCast] at key
  exact key
    (k1  (zB_u hB (show 0 ≤ 0 ∧ 0 ≤ 7 from ⟨by omega, by omega⟩)))
theorem zb274_0r (hT : zRules T) {D : Nat} {κ : Option zA → zM → Prop} {m : zM} 
    (o1 : κ (some (zi (wr (m 74 52)))) (zu (zu m 74 12 0) 74 52 0)) :
    T (D + 2) 274 (0, [(0, zr 74)], [], m) κ :=
  hT.1 [] 6 (D + 2) 274 _ κ (And.intro trivial (hT.1 [] 6 (D + 2) 274 (10, [(0, zr 74), (1, zi (m 74 52))], [], (zu m 74 12 0)) _ (And.intro trivial (o1))))
theorem zb274_0 (hT : zRules T) {D : Nat} {κ : Option zA → zM → Prop} {m : zM}  (hB : zB m) 
    (k1 : zB (zu (zu m 74 12 0) 74 52 0) → κ (some (zi (m 74 52))) (zu (zu m 74 12 0) 74 52 0)) :
    T (D + 2) 274 (0, [(0, zr 74)], [], m) κ := by
  have hb0 : 0 ≤ (m 74 52) ∧ (m 74 52) ≤ 12 := hB 74 52
  have he0 : wr (m 74 52) = (m 74 52) := wr_id (by omega) (by omega)
  have key := @zb274_0r T hT D κ m 
  simp only [he0, Int.toNat_natCast] at key
  exact key
    (k1  (zB_u (zB_u hB trivial) (show 0 ≤ 0 ∧ 0 ≤ 12 from ⟨by omega, by omega⟩)))
theorem zb279_0r (hT : zRules T) {D : Nat} {κ : Option zA → zM → Prop} {m : zM} 
    (o1 : κ (some (zi (wr (m 74 54)))) (zu (zu m 74 12 0) 74 54 0)) :
    T (D + 2) 279 (0, [(0, zr 74)], [], m) κ :=
  hT.1 [] 6 (D + 2) 279 _ κ (And.intro trivial (hT.1 [] 6 (D + 2) 279 (10, [(0, zr 74), (1, zi (m 74 54))], [], (zu m 74 12 0)) _ (And.intro trivial (o1))))
theorem zb279_0 (hT : zRules T) {D : Nat} {κ : Option zA → zM → Prop} {m : zM}  (hB : zB m) 
    (k1 : zB (zu (zu m 74 12 0) 74 54 0) → κ (some (zi (m 74 54))) (zu (zu m 74 12 0) 74 54 0)) :
    T (D + 2) 279 (0, [(0, zr 74)], [], m) κ := by
  have hb0 : 0 ≤ (m 74 54) ∧ (m 74 54) ≤ 7 := hB 74 54
  have he0 : wr (m 74 54) = (m 74 54) := wr_id (by omega) (by omega)
  have key := @zb279_0r T hT D κ m 
  simp only [he0, Int.toNat_natCast] at key
  exact key
    (k1  (zB_u (zB_u hB trivial) (show 0 ≤ 0 ∧ 0 ≤ 7 from ⟨by omega, by omega⟩)))
theorem zb153_0r (hT : zRules T) {D : Nat} {κ : Option zA → zM → Prop} {m : zM} {h : Int} {d : Int} 
    (o1 : wr h < 1 → κ (some (zi (-1))) m)
    (o2 : ¬ wr h < 1 → 20 < wr h → κ (some (zi (-1))) m)
    (o3 : ¬ wr h < 1 → ¬ 20 < wr h → wr d < 0 → κ (some (zi (-1))) m)
    (o4 : ¬ wr h < 1 → ¬ 20 < wr h → ¬ wr d < 0 → ¬ 99 < wr d → wr (m 64 2) < 7 → (0 ≤ wr (m 64 2) ∧ wr (m 64 2) < 7))
    (o5 : ¬ wr h < 1 → ¬ 20 < wr h → ¬ wr d < 0 → ¬ 99 < wr d → wr (m 64 2) < 7 → (0 ≤ wr (m 64 2) ∧ wr (m 64 2) < 7))
    (o6 : ¬ wr h < 1 → ¬ 20 < wr h → ¬ wr d < 0 → ¬ 99 < wr d → wr (m 64 2) < 7 → κ (some (zi (wr (wr ((m 64 2) + 1))))) (zu (zu (zu m 65 ((wr (m 64 2)).toNat) h) 66 ((wr (m 64 2)).toNat) d) 64 2 ((m 64 2) + 1)))
    (o7 : ¬ wr h < 1 → ¬ 20 < wr h → ¬ wr d < 0 → ¬ 99 < wr d → ¬ wr (m 64 2) < 7 → κ (some (zi (-2))) m)
    (o8 : ¬ wr h < 1 → ¬ 20 < wr h → ¬ wr d < 0 → 99 < wr d → κ (some (zi (-1))) m) :
    T (D + 2) 153 (0, [(0, zr 1), (1, zi h), (2, zi d)], [], m) κ :=
  hT.1 [] 6 (D + 2) 153 _ κ (hT.1 [] 6 (D + 1) 97 _ _ (And.intro (fun a1 => (hT.1 [] 6 (D + 2) 153 _ _ (o1 a1))) (fun a2 => (And.intro (fun a3 => (hT.1 [] 6 (D + 1) 97 (21, [(0, zr 64), (1, zi h), (2, zi d)], [], m) _ (hT.1 [] 6 (D + 2) 153 _ _ (o2 a2 a3)))) (fun a4 => (hT.1 [] 6 (D + 1) 97 (11, [(0, zr 64), (1, zi h), (2, zi d)], [], m) _ (And.intro (fun a5 => (hT.1 [] 6 (D + 2) 153 _ _ (o3 a2 a4 a5))) (fun a6 => (And.intro (fun a7 => (hT.1 [] 6 (D + 1) 97 (24, [(0, zr 64), (1, zi h), (2, zi d)], [zr 64], m) _ (And.intro (fun a9 => (hT.1 [] 6 (D + 1) 97 (40, [(0, zr 64), (1, zi h), (2, zi d)], [zr 64, zr 65], m) _ (And.intro (And.intro (o4 a2 a4 a6 a7 a9) trivial) (hT.1 [] 6 (D + 1) 97 (50, [(0, zr 64), (1, zi h), (2, zi d)], [zr 64, zr 66], (zu m 65 ((wr (m 64 2)).toNat) h)) _ (And.intro (And.intro (o5 a2 a4 a6 a7 a9) trivial) (hT.1 [] 6 (D + 1) 97 (60, [(0, zr 64), (1, zi h), (2, zi d)], [zi (m 64 2), zr 64], (zu (zu m 65 ((wr (m 64 2)).toNat) h) 66 ((wr (m 64 2)).toNat) d)) _ (And.intro trivial (hT.1 [] 6 (D + 2) 153 _ _ (o6 a2 a4 a6 a7 a9))))))))) (fun a10 => (hT.1 [] 6 (D + 2) 153 _ _ (o7 a2 a4 a6 a7 a10)))))) (fun a8 => (hT.1 [] 6 (D + 1) 97 (22, [(0, zr 64), (1, zi h), (2, zi d)], [zi (-1)], m) _ (hT.1 [] 6 (D + 2) 153 _ _ (o8 a2 a4 a6 (Classical.byContradiction a8))))))))))))))
theorem zb153_0 (hT : zRules T) {D : Nat} {κ : Option zA → zM → Prop} {m : zM} {h : Int} {d : Int}  (hB : zB m) (h_h : (-2147483648) ≤ h ∧ h ≤ 2147483647) (h_d : (-2147483648) ≤ d ∧ d ≤ 2147483647) 
    (k1 : h < 1 → κ (some (zi (-1))) m)
    (k2 : ¬ h < 1 → 20 < h → κ (some (zi (-1))) m)
    (k3 : ¬ h < 1 → ¬ 20 < h → d < 0 → κ (some (zi (-1))) m)
    (k4 : ¬ h < 1 → ¬ 20 < h → ¬ d < 0 → ¬ 99 < d → (m 64 2) < 7 → zB (zu (zu (zu m 65 ((m 64 2).toNat) h) 66 ((m 64 2).toNat) d) 64 2 ((m 64 2) + 1)) → κ (some (zi ((m 64 2) + 1))) (zu (zu (zu m 65 ((m 64 2).toNat) h) 66 ((m 64 2).toNat) d) 64 2 ((m 64 2) + 1)))
    (k5 : ¬ h < 1 → ¬ 20 < h → ¬ d < 0 → ¬ 99 < d → ¬ (m 64 2) < 7 → κ (some (zi (-2))) m)
    (k6 : ¬ h < 1 → ¬ 20 < h → ¬ d < 0 → 99 < d → κ (some (zi (-1))) m) :
    T (D + 2) 153 (0, [(0, zr 1), (1, zi h), (2, zi d)], [], m) κ := by
  have hb2 : 0 ≤ (m 64 2) ∧ (m 64 2) ≤ 7 := hB 64 2
  have he0 : wr h = h := wr_id (by omega) (by omega)
  have he1 : wr d = d := wr_id (by omega) (by omega)
  have he2 : wr (m 64 2) = (m 64 2) := wr_id (by omega) (by omega)
  have he3 : wr ((m 64 2) + 1) = ((m 64 2) + 1) := wr_id (by omega) (by omega)
  have key := @zb153_0r T hT D κ m h d
  simp only [he0, he1, he2, he3, Int.toNat_natCast] at key
  exact key
    k1
    k2
    k3
    (fun x0 x1 x2 x3 x4 => by refine ⟨?_, ?_⟩ <;> omega)
    (fun x0 x1 x2 x3 x4 => by refine ⟨?_, ?_⟩ <;> omega)
    (fun x0 x1 x2 x3 x4 => k4 x0 x1 x2 x3 x4 (zB_u (zB_u (zB_u hB (show 0 ≤ h ∧ h ≤ 20 from ⟨by omega, by omega⟩)) (show 0 ≤ d ∧ d ≤ 99 from ⟨by omega, by omega⟩)) (show 0 ≤ ((m 64 2) + 1) ∧ ((m 64 2) + 1) ≤ 7 from ⟨by omega, by omega⟩)))
    k5
    k6
theorem zb278_0r (hT : zRules T) {D : Nat} {κ : Option zA → zM → Prop} {m : zM} {h : Int} {d : Int} 
    (o1 : wr h < 1 → κ (some (zi (-1))) (zu m 74 12 0))
    (o2 : ¬ wr h < 1 → 20 < wr h → κ (some (zi (-1))) (zu m 74 12 0))
    (o3 : ¬ wr h < 1 → ¬ 20 < wr h → wr d < 0 → κ (some (zi (-1))) (zu m 74 12 0))
    (o4 : ¬ wr h < 1 → ¬ 20 < wr h → ¬ wr d < 0 → 99 < wr d → κ (some (zi (-1))) (zu m 74 12 0))
    (o5 : ¬ wr h < 1 → ¬ 20 < wr h → ¬ wr d < 0 → ¬ 99 < wr d → ¬ wr (m 74 54) = 7 → (0 ≤ wr (2 * (m 74 54)) ∧ wr (2 * (m 74 54)) < 14))
    (o6 : ¬ wr h < 1 → ¬ 20 < wr h → ¬ wr d < 0 → ¬ 99 < wr d → ¬ wr (m 74 54) = 7 → (0 ≤ wr ((2 * (m 74 54)) + 1) ∧ wr ((2 * (m 74 54)) + 1) < 14))
    (o7 : ¬ wr h < 1 → ¬ 20 < wr h → ¬ wr d < 0 → ¬ 99 < wr d → ¬ wr (m 74 54) = 7 → κ (some (zi (wr ((m 74 54) + 1)))) (zu (zu (zu (zu m 74 12 0) 100 ((wr (2 * (m 74 54))).toNat) h) 100 ((wr ((2 * (m 74 54)) + 1)).toNat) d) 74 54 ((m 74 54) + 1)))
    (o8 : ¬ wr h < 1 → ¬ 20 < wr h → ¬ wr d < 0 → ¬ 99 < wr d → wr (m 74 54) = 7 → κ (some (zi (-2))) (zu m 74 12 0)) :
    T (D + 2) 278 (0, [(0, zr 74), (1, zi h), (2, zi d)], [], m) κ :=
  hT.1 [] 6 (D + 2) 278 _ κ (And.intro trivial (hT.1 [] 6 (D + 2) 278 (9, [(0, zr 74), (1, zi h), (2, zi d)], [zi 20, zi 1, zi h], (zu m 74 12 0)) _ (hT.1 [] 6 (D + 1) 186 _ _ (And.intro (fun a1 => (And.intro (z_b01L rfl) (hT.1 [] 6 (D + 2) 278 _ _ (And.intro (fun _ => (o1 a1)) (fun a3 => (a3 (z_litT rfl)).elim))))) (fun a2 => (And.intro (fun a4 => (hT.1 [] 6 (D + 1) 186 (14, [(0, zi h), (1, zi 1), (2, zi 20)], [], (zu m 74 12 0)) _ (And.intro (z_b01L rfl) (hT.1 [] 6 (D + 2) 278 _ _ (And.intro (fun _ => (o2 a2 a4)) (fun a6 => (a6 (z_litT rfl)).elim)))))) (fun a5 => (hT.1 [] 6 (D + 1) 186 (10, [(0, zi h), (1, zi 1), (2, zi 20)], [], (zu m 74 12 0)) _ (And.intro (z_b01L rfl) (hT.1 [] 6 (D + 2) 278 _ _ (And.intro (fun a7 => (z_litF a7 rfl).elim) (fun _ => (hT.1 [] 6 (D + 1) 186 _ _ (And.intro (fun a8 => (And.intro (z_b01L rfl) (hT.1 [] 6 (D + 2) 278 _ _ (And.intro (fun a10 => (z_litF a10 rfl).elim) (fun _ => (o3 a2 a5 a8)))))) (fun a9 => (And.intro (fun a11 => (hT.1 [] 6 (D + 1) 186 (14, [(0, zi d), (1, zi 0), (2, zi 99)], [], (zu m 74 12 0)) _ (And.intro (z_b01L rfl) (hT.1 [] 6 (D + 2) 278 _ _ (And.intro (fun a13 => (z_litF a13 rfl).elim) (fun _ => (o4 a2 a5 a9 a11))))))) (fun a12 => (hT.1 [] 6 (D + 1) 186 (10, [(0, zi d), (1, zi 0), (2, zi 99)], [], (zu m 74 12 0)) _ (And.intro (z_b01L rfl) (hT.1 [] 6 (D + 2) 278 _ _ (And.intro (fun _ => (And.intro (fun a15 => (hT.1 [] 6 (D + 2) 278 (40, [(0, zr 74), (1, zi h), (2, zi d)], [zr 74], (zu m 74 12 0)) _ (hT.1 [] 6 (D + 2) 278 (50, [(0, zr 74), (1, zi h), (2, zi d)], [zi h, zi (2 * (m 74 54)), zr 100], (zu m 74 12 0)) _ (And.intro (And.intro (o5 a2 a5 a9 a12 a15) trivial) (hT.1 [] 6 (D + 2) 278 (60, [(0, zr 74), (1, zi h), (2, zi d)], [zi (m 74 54), zi 2, zr 100], (zu (zu m 74 12 0) 100 ((wr (2 * (m 74 54))).toNat) h)) _ (And.intro (And.intro (o6 a2 a5 a9 a12 a15) trivial) (hT.1 [] 6 (D + 2) 278 (66, [(0, zr 74), (1, zi h), (2, zi d)], [zr 74], (zu (zu (zu m 74 12 0) 100 ((wr (2 * (m 74 54))).toNat) h) 100 ((wr ((2 * (m 74 54)) + 1)).toNat) d)) _ (And.intro trivial (hT.1 [] 6 (D + 2) 278 (76, [(0, zr 74), (1, zi h), (2, zi d)], [zr 74], (zu (zu (zu (zu m 74 12 0) 100 ((wr (2 * (m 74 54))).toNat) h) 100 ((wr ((2 * (m 74 54)) + 1)).toNat) d) 74 54 ((m 74 54) + 1))) _ (o7 a2 a5 a9 a12 a15)))))))))) (fun a16 => (hT.1 [] 6 (D + 2) 278 (38, [(0, zr 74), (1, zi h), (2, zi d)], [zi (-2)], (zu m 74 12 0)) _ (o8 a2 a5 a9 a12 (Classical.byContradiction a16)))))) (fun a14 => (a14 (z_litT rfl)).elim))))))))))))))))))))))
theorem zb278_0 (hT : zRules T) {D : Nat} {κ : Option zA → zM → Prop} {m : zM} {h : Int} {d : Int}  (hB : zB m) (h_h : (-2147483648) ≤ h ∧ h ≤ 2147483647) (h_d : (-2147483648) ≤ d ∧ d ≤ 2147483647) 
    (k1 : h < 1 → zB (zu m 74 12 0) → κ (some (zi (-1))) (zu m 74 12 0))
    (k2 : ¬ h < 1 → 20 < h → zB (zu m 74 12 0) → κ (some (zi (-1))) (zu m 74 12 0))
    (k3 : ¬ h < 1 → ¬ 20 < h → d < 0 → zB (zu m 74 12 0) → κ (some (zi (-1))) (zu m 74 12 0))
    (k4 : ¬ h < 1 → ¬ 20 < h → ¬ d < 0 → 99 < d → zB (zu m 74 12 0) → κ (some (zi (-1))) (zu m 74 12 0))
    (k5 : ¬ h < 1 → ¬ 20 < h → ¬ d < 0 → ¬ 99 < d → ¬ (m 74 54) = 7 → zB (zu (zu (zu (zu m 74 12 0) 100 ((2 * (m 74 54)).toNat) h) 100 (((2 * (m 74 54)) + 1).toNat) d) 74 54 ((m 74 54) + 1)) → κ (some (zi ((m 74 54) + 1))) (zu (zu (zu (zu m 74 12 0) 100 ((2 * (m 74 54)).toNat) h) 100 (((2 * (m 74 54)) + 1).toNat) d) 74 54 ((m 74 54) + 1)))
    (k6 : ¬ h < 1 → ¬ 20 < h → ¬ d < 0 → ¬ 99 < d → (m 74 54) = 7 → zB (zu m 74 12 0) → κ (some (zi (-2))) (zu m 74 12 0)) :
    T (D + 2) 278 (0, [(0, zr 74), (1, zi h), (2, zi d)], [], m) κ := by
  have hb2 : 0 ≤ (m 74 54) ∧ (m 74 54) ≤ 7 := hB 74 54
  have he0 : wr h = h := wr_id (by omega) (by omega)
  have he1 : wr d = d := wr_id (by omega) (by omega)
  have he2 : wr (m 74 54) = (m 74 54) := wr_id (by omega) (by omega)
  have he3 : wr (2 * (m 74 54)) = (2 * (m 74 54)) := wr_id (by omega) (by omega)
  have he4 : wr ((2 * (m 74 54)) + 1) = ((2 * (m 74 54)) + 1) := wr_id (by omega) (by omega)
  have he5 : wr ((m 74 54) + 1) = ((m 74 54) + 1) := wr_id (by omega) (by omega)
  have key := @zb278_0r T hT D κ m h d
  simp only [he0, he1, he2, he3, he4, he5, Int.toNat_natCast] at key
  exact key
    (fun x0 => k1 x0 (zB_u hB trivial))
    (fun x0 x1 => k2 x0 x1 (zB_u hB trivial))
    (fun x0 x1 x2 => k3 x0 x1 x2 (zB_u hB trivial))
    (fun x0 x1 x2 x3 => k4 x0 x1 x2 x3 (zB_u hB trivial))
    (fun x0 x1 x2 x3 x4 => by refine ⟨?_, ?_⟩ <;> omega)
    (fun x0 x1 x2 x3 x4 => by refine ⟨?_, ?_⟩ <;> omega)
    (fun x0 x1 x2 x3 x4 => k5 x0 x1 x2 x3 x4 (zB_u (zB_u (zB_u (zB_u hB trivial) (show 0 ≤ h ∧ h ≤ 99 from ⟨by omega, by omega⟩)) (show 0 ≤ d ∧ d ≤ 99 from ⟨by omega, by omega⟩)) (show 0 ≤ ((m 74 54) + 1) ∧ ((m 74 54) + 1) ≤ 7 from ⟨by omega, by omega⟩)))
    (fun x0 x1 x2 x3 x4 => k6 x0 x1 x2 x3 x4 (zB_u hB trivial))
theorem zb119_0r (hT : zRules T) {D : Nat} {κ : Option zA → zM → Prop} {m : zM} {p : Int} {w : Int} 
    (o1 : wr w < 0 → κ (some (zi (-1))) m)
    (o2 : ¬ wr w < 0 → 9999 < wr w → κ (some (zi (-1))) m)
    (o3 : ¬ wr w < 0 → ¬ 9999 < wr w → wr p < 0 → κ (some (zi (-1))) m)
    (o4 : ¬ wr w < 0 → ¬ 9999 < wr w → ¬ wr p < 0 → ¬ wr p < wr (m 4 4) → κ (some (zi (-1))) m)
    (o5 : ¬ wr w < 0 → ¬ 9999 < wr w → ¬ wr p < 0 → wr p < wr (m 4 4) → wr w < 0 → False)
    (o6 : ¬ wr w < 0 → ¬ 9999 < wr w → ¬ wr p < 0 → wr p < wr (m 4 4) → ¬ wr w < 0 → (0 ≤ wr p ∧ wr p < 4))
    (o7 : ¬ wr w < 0 → ¬ 9999 < wr w → ¬ wr p < 0 → wr p < wr (m 4 4) → ¬ wr w < 0 → ¬ wr (m 6 ((wr p).toNat)) < 1 → (0 ≤ wr p ∧ wr p < 4))
    (o8 : ¬ wr w < 0 → ¬ 9999 < wr w → ¬ wr p < 0 → wr p < wr (m 4 4) → ¬ wr w < 0 → ¬ wr (m 6 ((wr p).toNat)) < 1 → ¬ wr (m 6 ((wr p).toNat)) = 0)
    (o9 : ¬ wr w < 0 → ¬ 9999 < wr w → ¬ wr p < 0 → wr p < wr (m 4 4) → ¬ wr w < 0 → ¬ wr (m 6 ((wr p).toNat)) < 1 → (0 ≤ wr ((p * 26) + (Int.tmod (wr w) (wr (m 6 ((wr p).toNat))))) ∧ wr ((p * 26) + (Int.tmod (wr w) (wr (m 6 ((wr p).toNat))))) < 104))
    (o10 : ¬ wr w < 0 → ¬ 9999 < wr w → ¬ wr p < 0 → wr p < wr (m 4 4) → ¬ wr w < 0 → ¬ wr (m 6 ((wr p).toNat)) < 1 → κ (some (zi (wr (wr (m 5 ((wr ((p * 26) + (Int.tmod (wr w) (wr (m 6 ((wr p).toNat)))))).toNat)))))) m)
    (o11 : ¬ wr w < 0 → ¬ 9999 < wr w → ¬ wr p < 0 → wr p < wr (m 4 4) → ¬ wr w < 0 → wr (m 6 ((wr p).toNat)) < 1 → κ (some (zi (-1))) m) :
    T (D + 2) 119 (0, [(0, zr 1), (1, zi p), (2, zi w)], [], m) κ :=
  hT.1 [] 6 (D + 2) 119 _ κ (hT.1 [] 6 (D + 1) 164 _ _ (And.intro (fun a1 => (And.intro (z_b01L rfl) (hT.1 [] 6 (D + 2) 119 _ _ (And.intro (fun _ => (o1 a1)) (fun a3 => (a3 (z_litT rfl)).elim))))) (fun a2 => (And.intro (fun a4 => (hT.1 [] 6 (D + 1) 164 (16, [(0, zi w)], [zi 0], m) _ (And.intro (z_b01L rfl) (hT.1 [] 6 (D + 2) 119 _ _ (And.intro (fun _ => (o2 a2 a4)) (fun a6 => (a6 (z_litT rfl)).elim)))))) (fun a5 => (hT.1 [] 6 (D + 1) 164 (12, [(0, zi w)], [zi 1], m) _ (And.intro (z_b01L rfl) (hT.1 [] 6 (D + 2) 119 _ _ (And.intro (fun a7 => (z_litF a7 rfl).elim) (fun _ => (hT.1 [] 6 (D + 1) 1 _ _ (And.intro (fun a8 => (hT.1 [] 6 (D + 2) 119 _ _ (o3 a2 a5 a8))) (fun a9 => (And.intro (fun a10 => (hT.1 [] 6 (D + 1) 1 (26, [(0, zr 4), (1, zi p), (2, zi w)], [], m) _ (hT.1 [] 6 (D + 2) 119 _ _ (o4 a2 a5 a9 a10)))) (fun a11 => (hT.1 [] 6 (D + 1) 1 (12, [(0, zr 4), (1, zi p), (2, zi w)], [], m) _ (And.intro (fun a12 => (o5 a2 a5 a9 (Classical.byContradiction a11) a12).elim) (fun a13 => (And.intro (o6 a2 a5 a9 (Classical.byContradiction a11) a13) (hT.1 [] 6 (D + 1) 1 (22, [(0, zr 4), (1, zi p), (2, zi w)], [zi (m 6 ((wr p).toNat))], m) _ (And.intro (fun a14 => (hT.1 [] 6 (D + 1) 1 (35, [(0, zr 4), (1, zi p), (2, zi w)], [zi 26, zi p, zr 5], m) _ (And.intro (o7 a2 a5 a9 (Classical.byContradiction a11) a13 a14) (hT.1 [] 6 (D + 1) 1 (43, [(0, zr 4), (1, zi p), (2, zi w)], [zi (m 6 ((wr p).toNat)), zi w, zi (p * 26), zr 5], m) _ (And.intro (o8 a2 a5 a9 (Classical.byContradiction a11) a13 a14) (And.intro (o9 a2 a5 a9 (Classical.byContradiction a11) a13 a14) (hT.1 [] 6 (D + 2) 119 _ _ (o10 a2 a5 a9 (Classical.byContradiction a11) a13 a14)))))))) (fun a15 => (hT.1 [] 6 (D + 2) 119 _ _ (o11 a2 a5 a9 (Classical.byContradiction a11) a13 (Classical.byContradiction a15)))))))))))))))))))))))))
theorem zb119_0 (hT : zRules T) {D : Nat} {κ : Option zA → zM → Prop} {m : zM} {p : Int} {w : Int}  (hB : zB m) (h_p : (-2147483648) ≤ p ∧ p ≤ 2147483647) (h_w : (-2147483648) ≤ w ∧ w ≤ 2147483647) 
    (k1 : w < 0 → κ (some (zi (-1))) m)
    (k2 : ¬ w < 0 → 9999 < w → κ (some (zi (-1))) m)
    (k3 : ¬ w < 0 → ¬ 9999 < w → p < 0 → κ (some (zi (-1))) m)
    (k4 : ¬ w < 0 → ¬ 9999 < w → ¬ p < 0 → ¬ p < (m 4 4) → κ (some (zi (-1))) m)
    (k5 : ¬ w < 0 → ¬ 9999 < w → ¬ p < 0 → p < (m 4 4) → ¬ (m 6 (p.toNat)) < 1 → (0 ≤ wr ((p * 26) + (Int.tmod w (m 6 (p.toNat)))) ∧ wr ((p * 26) + (Int.tmod w (m 6 (p.toNat)))) < 104))
    (k6 : ¬ w < 0 → ¬ 9999 < w → ¬ p < 0 → p < (m 4 4) → ¬ (m 6 (p.toNat)) < 1 → κ (some (zi (m 5 ((wr ((p * 26) + (Int.tmod w (m 6 (p.toNat))))).toNat)))) m)
    (k7 : ¬ w < 0 → ¬ 9999 < w → ¬ p < 0 → p < (m 4 4) → (m 6 (p.toNat)) < 1 → κ (some (zi (-1))) m) :
    T (D + 2) 119 (0, [(0, zr 1), (1, zi p), (2, zi w)], [], m) κ := by
  have hb2 : 0 ≤ (m 4 4) ∧ (m 4 4) ≤ 4 := hB 4 4
  have hb3 : 0 ≤ (m 6 (p.toNat)) ∧ (m 6 (p.toNat)) ≤ 26 := hB 6 (p.toNat)
  have hb4 : (-2147483648) ≤ wr ((p * 26) + (Int.tmod w (m 6 (p.toNat)))) ∧ wr ((p * 26) + (Int.tmod w (m 6 (p.toNat)))) ≤ 2147483647 := wrB ((p * 26) + (Int.tmod w (m 6 (p.toNat))))
  have hb5 : 0 ≤ (m 5 ((wr ((p * 26) + (Int.tmod w (m 6 (p.toNat))))).toNat)) ∧ (m 5 ((wr ((p * 26) + (Int.tmod w (m 6 (p.toNat))))).toNat)) ≤ 9 := hB 5 ((wr ((p * 26) + (Int.tmod w (m 6 (p.toNat))))).toNat)
  have he0 : wr w = w := wr_id (by omega) (by omega)
  have he1 : wr p = p := wr_id (by omega) (by omega)
  have he2 : wr (m 4 4) = (m 4 4) := wr_id (by omega) (by omega)
  have he3 : wr (m 6 (p.toNat)) = (m 6 (p.toNat)) := wr_id (by omega) (by omega)
  have he4 : wr (m 5 ((wr ((p * 26) + (Int.tmod w (m 6 (p.toNat))))).toNat)) = (m 5 ((wr ((p * 26) + (Int.tmod w (m 6 (p.toNat))))).toNat)) := wr_id (by omega) (by omega)
  have key := @zb119_0r T hT D κ m p w
  simp only [he0, he1, he2, he3, he4, Int.toNat_natCast] at key
  exact key
    k1
    k2
    k3
    k4
    (fun x0 x1 x2 x3 x4 => by omega)
    (fun x0 x1 x2 x3 x4 => by refine ⟨?_, ?_⟩ <;> omega)
    (fun x0 x1 x2 x3 x4 x5 => by refine ⟨?_, ?_⟩ <;> omega)
    (fun x0 x1 x2 x3 x4 x5 => by omega)
    (fun x0 x1 x2 x3 x4 x5 => k5 x0 x1 x2 x3 x5)
    (fun x0 x1 x2 x3 x4 x5 => k6 x0 x1 x2 x3 x5)
    (fun x0 x1 x2 x3 x4 x5 => k7 x0 x1 x2 x3 x5)
theorem zb220_0r (hT : zRules T) {D : Nat} {κ : Option zA → zM → Prop} {m : zM} {p : Int} {w : Int} 
    (o1 : wr p < 0 → κ (some (zi (-1))) (zu m 74 12 0))
    (o2 : ¬ wr p < 0 → wr ((m 74 1) - 1) < wr p → κ (some (zi (-1))) (zu m 74 12 0))
    (o3 : ¬ wr p < 0 → ¬ wr ((m 74 1) - 1) < wr p → wr w < 0 → κ (some (zi (-1))) (zu m 74 12 0))
    (o4 : ¬ wr p < 0 → ¬ wr ((m 74 1) - 1) < wr p → ¬ wr w < 0 → 9999 < wr w → κ (some (zi (-1))) (zu m 74 12 0))
    (o5 : ¬ wr p < 0 → ¬ wr ((m 74 1) - 1) < wr p → ¬ wr w < 0 → ¬ 9999 < wr w → T (D + 1) 213 (0, [(0, zr 74), (1, zi p), (2, zi w)], [], (zu m 74 12 0)) (fun r m1 => T (D + 2) 220 (32, [(0, zr 74), (1, zi p), (2, zi w)], r.toList ++ [], m1) κ)) :
    T (D + 2) 220 (0, [(0, zr 74), (1, zi p), (2, zi w)], [], m) κ :=
  hT.1 [] 6 (D + 2) 220 _ κ (And.intro trivial (hT.1 [] 6 (D + 2) 220 (8, [(0, zr 74), (1, zi p), (2, zi w)], [zr 74, zi 0, zi p], (zu m 74 12 0)) _ (hT.1 [] 6 (D + 1) 186 _ _ (And.intro (fun a1 => (And.intro (z_b01L rfl) (hT.1 [] 6 (D + 2) 220 _ _ (And.intro (fun _ => (o1 a1)) (fun a3 => (a3 (z_litT rfl)).elim))))) (fun a2 => (And.intro (fun a4 => (hT.1 [] 6 (D + 1) 186 (14, [(0, zi p), (1, zi 0), (2, zi ((m 74 1) - 1))], [], (zu m 74 12 0)) _ (And.intro (z_b01L rfl) (hT.1 [] 6 (D + 2) 220 _ _ (And.intro (fun _ => (o2 a2 a4)) (fun a6 => (a6 (z_litT rfl)).elim)))))) (fun a5 => (hT.1 [] 6 (D + 1) 186 (10, [(0, zi p), (1, zi 0), (2, zi ((m 74 1) - 1))], [], (zu m 74 12 0)) _ (And.intro (z_b01L rfl) (hT.1 [] 6 (D + 2) 220 _ _ (And.intro (fun a7 => (z_litF a7 rfl).elim) (fun _ => (hT.1 [] 6 (D + 1) 193 _ _ (hT.1 [] 6 D 186 _ _ (And.intro (fun a8 => (And.intro (z_b01L rfl) (hT.1 [] 6 (D + 1) 193 _ _ (And.intro (z_b01L rfl) (hT.1 [] 6 (D + 2) 220 _ _ (And.intro (fun _ => (o3 a2 a5 a8)) (fun a10 => (a10 (z_litT rfl)).elim))))))) (fun a9 => (And.intro (fun a11 => (hT.1 [] 6 D 186 (14, [(0, zi w), (1, zi 0), (2, zi 9999)], [], (zu m 74 12 0)) _ (And.intro (z_b01L rfl) (hT.1 [] 6 (D + 1) 193 _ _ (And.intro (z_b01L rfl) (hT.1 [] 6 (D + 2) 220 _ _ (And.intro (fun _ => (o4 a2 a5 a9 a11)) (fun a13 => (a13 (z_litT rfl)).elim)))))))) (fun a12 => (hT.1 [] 6 D 186 (10, [(0, zi w), (1, zi 0), (2, zi 9999)], [], (zu m 74 12 0)) _ (And.intro (z_b01L rfl) (hT.1 [] 6 (D + 1) 193 _ _ (And.intro (z_b01L rfl) (hT.1 [] 6 (D + 2) 220 _ _ (And.intro (fun a14 => (z_litF a14 rfl).elim) (fun _ => (o5 a2 a5 a9 a12))))))))))))))))))))))))))
theorem zb220_0 (hT : zRules T) {D : Nat} {κ : Option zA → zM → Prop} {m : zM} {p : Int} {w : Int}  (hB : zB m) (h_p : (-2147483648) ≤ p ∧ p ≤ 2147483647) (h_w : (-2147483648) ≤ w ∧ w ≤ 2147483647) 
    (k1 : p < 0 → zB (zu m 74 12 0) → κ (some (zi (-1))) (zu m 74 12 0))
    (k2 : ¬ p < 0 → ((m 74 1) - 1) < p → zB (zu m 74 12 0) → κ (some (zi (-1))) (zu m 74 12 0))
    (k3 : ¬ p < 0 → ¬ ((m 74 1) - 1) < p → w < 0 → zB (zu m 74 12 0) → κ (some (zi (-1))) (zu m 74 12 0))
    (k4 : ¬ p < 0 → ¬ ((m 74 1) - 1) < p → ¬ w < 0 → 9999 < w → zB (zu m 74 12 0) → κ (some (zi (-1))) (zu m 74 12 0))
    (k5 : ¬ p < 0 → ¬ ((m 74 1) - 1) < p → ¬ w < 0 → ¬ 9999 < w → zB (zu m 74 12 0) → T (D + 1) 213 (0, [(0, zr 74), (1, zi p), (2, zi w)], [], (zu m 74 12 0)) (fun r m1 => T (D + 2) 220 (32, [(0, zr 74), (1, zi p), (2, zi w)], r.toList ++ [], m1) κ)) :
    T (D + 2) 220 (0, [(0, zr 74), (1, zi p), (2, zi w)], [], m) κ := by
  have hb2 : 0 ≤ (m 74 1) ∧ (m 74 1) ≤ 4 := hB 74 1
  have he0 : wr p = p := wr_id (by omega) (by omega)
  have he1 : wr ((m 74 1) - 1) = ((m 74 1) - 1) := wr_id (by omega) (by omega)
  have he2 : wr w = w := wr_id (by omega) (by omega)
  have key := @zb220_0r T hT D κ m p w
  simp only [he0, he1, he2, Int.toNat_natCast] at key
  exact key
    (fun x0 => k1 x0 (zB_u hB trivial))
    (fun x0 x1 => k2 x0 x1 (zB_u hB trivial))
    (fun x0 x1 x2 => k3 x0 x1 x2 (zB_u hB trivial))
    (fun x0 x1 x2 x3 => k4 x0 x1 x2 x3 (zB_u hB trivial))
    (fun x0 x1 x2 x3 => k5 x0 x1 x2 x3 (zB_u hB trivial))
theorem zb120_0r (hT : zRules T) {D : Nat} {κ : Option zA → zM → Prop} {m : zM} {i : Int} {p : Int} {w : Int} 
    (o1 : wr i < 0 → κ (some (zi (-1))) m)
    (o2 : ¬ wr i < 0 → ¬ wr i < wr (m 17 0) → κ (some (zi (-1))) m)
    (o3 : ¬ wr i < 0 → wr i < wr (m 17 0) → wr p < 0 → κ (some (zi (-1))) m)
    (o4 : ¬ wr i < 0 → wr i < wr (m 17 0) → ¬ wr p < 0 → ¬ wr p < 4 → κ (some (zi (-1))) m)
    (o5 : ¬ wr i < 0 → wr i < wr (m 17 0) → ¬ wr p < 0 → wr p < 4 → wr w < 0 → κ (some (zi (-1))) m)
    (o6 : ¬ wr i < 0 → wr i < wr (m 17 0) → ¬ wr p < 0 → wr p < 4 → ¬ wr w < 0 → 9999 < wr w → κ (some (zi (-1))) m)
    (o7 : ¬ wr i < 0 → wr i < wr (m 17 0) → ¬ wr p < 0 → wr p < 4 → ¬ wr w < 0 → ¬ 9999 < wr w → T (D + 4) 169 (0, [(0, zr 1), (1, zi i), (2, zi p), (3, zi w)], [], m) (fun r m1 => T (D + 5) 120 (34, [(0, zr 1), (1, zi i), (2, zi p), (3, zi w)], r.toList ++ [], m1) κ)) :
    T (D + 5) 120 (0, [(0, zr 1), (1, zi i), (2, zi p), (3, zi w)], [], m) κ :=
  hT.1 [] 6 (D + 5) 120 _ κ (hT.1 [] 6 (D + 4) 25 _ _ (And.intro (fun a1 => (And.intro (z_b01L rfl) (hT.1 [] 6 (D + 5) 120 _ _ (And.intro (fun _ => (o1 a1)) (fun a3 => (a3 (z_litT rfl)).elim))))) (fun a2 => (And.intro (fun a4 => (hT.1 [] 6 (D + 4) 25 (16, [(0, zr 17), (1, zi i)], [], m) _ (And.intro (z_b01L rfl) (hT.1 [] 6 (D + 5) 120 _ _ (And.intro (fun _ => (o2 a2 a4)) (fun a6 => (a6 (z_litT rfl)).elim)))))) (fun a5 => (hT.1 [] 6 (D + 4) 25 (12, [(0, zr 17), (1, zi i)], [], m) _ (And.intro (z_b01L rfl) (hT.1 [] 6 (D + 5) 120 _ _ (And.intro (fun a7 => (z_litF a7 rfl).elim) (fun _ => (hT.1 [] 6 (D + 4) 163 _ _ (And.intro (fun a8 => (And.intro (z_b01L rfl) (hT.1 [] 6 (D + 5) 120 _ _ (And.intro (fun _ => (o3 a2 (Classical.byContradiction a5) a8)) (fun a10 => (a10 (z_litT rfl)).elim))))) (fun a9 => (And.intro (fun a11 => (hT.1 [] 6 (D + 4) 163 (14, [(0, zi p)], [zi 0], m) _ (And.intro (z_b01L rfl) (hT.1 [] 6 (D + 5) 120 _ _ (And.intro (fun _ => (o4 a2 (Classical.byContradiction a5) a9 a11)) (fun a13 => (a13 (z_litT rfl)).elim)))))) (fun a12 => (hT.1 [] 6 (D + 4) 163 (10, [(0, zi p)], [zi 1], m) _ (And.intro (z_b01L rfl) (hT.1 [] 6 (D + 5) 120 _ _ (And.intro (fun a14 => (z_litF a14 rfl).elim) (fun _ => (hT.1 [] 6 (D + 4) 164 _ _ (And.intro (fun a15 => (And.intro (z_b01L rfl) (hT.1 [] 6 (D + 5) 120 _ _ (And.intro (fun a17 => (z_litF a17 rfl).elim) (fun _ => (o5 a2 (Classical.byContradiction a5) a9 (Classical.byContradiction a12) a15)))))) (fun a16 => (And.intro (fun a18 => (hT.1 [] 6 (D + 4) 164 (16, [(0, zi w)], [zi 0], m) _ (And.intro (z_b01L rfl) (hT.1 [] 6 (D + 5) 120 _ _ (And.intro (fun a20 => (z_litF a20 rfl).elim) (fun _ => (o6 a2 (Classical.byContradiction a5) a9 (Classical.byContradiction a12) a16 a18))))))) (fun a19 => (hT.1 [] 6 (D + 4) 164 (12, [(0, zi w)], [zi 1], m) _ (And.intro (z_b01L rfl) (hT.1 [] 6 (D + 5) 120 _ _ (And.intro (fun _ => (o7 a2 (Classical.byContradiction a5) a9 (Classical.byContradiction a12) a16 a19)) (fun a21 => (a21 (z_litT rfl)).elim))))))))))))))))))))))))))))))
theorem zb120_0 (hT : zRules T) {D : Nat} {κ : Option zA → zM → Prop} {m : zM} {i : Int} {p : Int} {w : Int}  (hB : zB m) (h_i : (-2147483648) ≤ i ∧ i ≤ 2147483647) (h_p : (-2147483648) ≤ p ∧ p ≤ 2147483647) (h_w : (-2147483648) ≤ w ∧ w ≤ 2147483647) 
    (k1 : i < 0 → κ (some (zi (-1))) m)
    (k2 : ¬ i < 0 → ¬ i < (m 17 0) → κ (some (zi (-1))) m)
    (k3 : ¬ i < 0 → i < (m 17 0) → p < 0 → κ (some (zi (-1))) m)
    (k4 : ¬ i < 0 → i < (m 17 0) → ¬ p < 0 → ¬ p < 4 → κ (some (zi (-1))) m)
    (k5 : ¬ i < 0 → i < (m 17 0) → ¬ p < 0 → p < 4 → w < 0 → κ (some (zi (-1))) m)
    (k6 : ¬ i < 0 → i < (m 17 0) → ¬ p < 0 → p < 4 → ¬ w < 0 → 9999 < w → κ (some (zi (-1))) m)
    (k7 : ¬ i < 0 → i < (m 17 0) → ¬ p < 0 → p < 4 → ¬ w < 0 → ¬ 9999 < w → T (D + 4) 169 (0, [(0, zr 1), (1, zi i), (2, zi p), (3, zi w)], [], m) (fun r m1 => T (D + 5) 120 (34, [(0, zr 1), (1, zi i), (2, zi p), (3, zi w)], r.toList ++ [], m1) κ)) :
    T (D + 5) 120 (0, [(0, zr 1), (1, zi i), (2, zi p), (3, zi w)], [], m) κ := by
  have hb3 : 0 ≤ (m 17 0) ∧ (m 17 0) ≤ 6 := hB 17 0
  have he0 : wr i = i := wr_id (by omega) (by omega)
  have he1 : wr (m 17 0) = (m 17 0) := wr_id (by omega) (by omega)
  have he2 : wr p = p := wr_id (by omega) (by omega)
  have he3 : wr w = w := wr_id (by omega) (by omega)
  have key := @zb120_0r T hT D κ m i p w
  simp only [he0, he1, he2, he3, Int.toNat_natCast] at key
  exact key
    k1
    k2
    k3
    k4
    k5
    k6
    k7
theorem zb221_0r (hT : zRules T) {D : Nat} {κ : Option zA → zM → Prop} {m : zM} {i : Int} {p : Int} {w : Int} 
    (o1 : wr i < 0 → κ (some (zi (-1))) (zu m 74 12 0))
    (o2 : ¬ wr i < 0 → wr ((m 74 4) - 1) < wr i → κ (some (zi (-1))) (zu m 74 12 0))
    (o3 : ¬ wr i < 0 → ¬ wr ((m 74 4) - 1) < wr i → wr p < 0 → κ (some (zi (-1))) (zu m 74 12 0))
    (o4 : ¬ wr i < 0 → ¬ wr ((m 74 4) - 1) < wr i → ¬ wr p < 0 → 3 < wr p → κ (some (zi (-1))) (zu m 74 12 0))
    (o5 : ¬ wr i < 0 → ¬ wr ((m 74 4) - 1) < wr i → ¬ wr p < 0 → ¬ 3 < wr p → wr w < 0 → κ (some (zi (-1))) (zu m 74 12 0))
    (o6 : ¬ wr i < 0 → ¬ wr ((m 74 4) - 1) < wr i → ¬ wr p < 0 → ¬ 3 < wr p → ¬ wr w < 0 → 9999 < wr w → κ (some (zi (-1))) (zu m 74 12 0))
    (o7 : ¬ wr i < 0 → ¬ wr ((m 74 4) - 1) < wr i → ¬ wr p < 0 → ¬ 3 < wr p → ¬ wr w < 0 → ¬ 9999 < wr w → T (D + 3) 215 (0, [(0, zr 74), (1, zi i), (2, zi p), (3, zi w)], [], (zu m 74 12 0)) (fun r m1 => T (D + 4) 221 (34, [(0, zr 74), (1, zi i), (2, zi p), (3, zi w)], r.toList ++ [], m1) κ)) :
    T (D + 4) 221 (0, [(0, zr 74), (1, zi i), (2, zi p), (3, zi w)], [], m) κ :=
  hT.1 [] 6 (D + 4) 221 _ κ (And.intro trivial (hT.1 [] 6 (D + 3) 190 _ _ (hT.1 [] 6 (D + 3) 190 (8, [(0, zr 74), (1, zi i)], [zi ((m 74 4) - 1), zi 0, zi i], (zu m 74 12 0)) _ (hT.1 [] 6 (D + 2) 186 _ _ (And.intro (fun a1 => (And.intro (z_b01L rfl) (hT.1 [] 6 (D + 3) 190 _ _ (And.intro (z_b01L rfl) (hT.1 [] 6 (D + 4) 221 _ _ (And.intro (fun _ => (o1 a1)) (fun a3 => (a3 (z_litT rfl)).elim))))))) (fun a2 => (And.intro (fun a4 => (hT.1 [] 6 (D + 2) 186 (14, [(0, zi i), (1, zi 0), (2, zi ((m 74 4) - 1))], [], (zu m 74 12 0)) _ (And.intro (z_b01L rfl) (hT.1 [] 6 (D + 3) 190 _ _ (And.intro (z_b01L rfl) (hT.1 [] 6 (D + 4) 221 _ _ (And.intro (fun _ => (o2 a2 a4)) (fun a6 => (a6 (z_litT rfl)).elim)))))))) (fun a5 => (hT.1 [] 6 (D + 2) 186 (10, [(0, zi i), (1, zi 0), (2, zi ((m 74 4) - 1))], [], (zu m 74 12 0)) _ (And.intro (z_b01L rfl) (hT.1 [] 6 (D + 3) 190 _ _ (And.intro (z_b01L rfl) (hT.1 [] 6 (D + 4) 221 _ _ (And.intro (fun a7 => (z_litF a7 rfl).elim) (fun _ => (hT.1 [] 6 (D + 3) 192 _ _ (hT.1 [] 6 (D + 2) 186 _ _ (And.intro (fun a8 => (And.intro (z_b01L rfl) (hT.1 [] 6 (D + 3) 192 _ _ (And.intro (z_b01L rfl) (hT.1 [] 6 (D + 4) 221 _ _ (And.intro (fun _ => (o3 a2 a5 a8)) (fun a10 => (a10 (z_litT rfl)).elim))))))) (fun a9 => (And.intro (fun a11 => (hT.1 [] 6 (D + 2) 186 (14, [(0, zi p), (1, zi 0), (2, zi 3)], [], (zu m 74 12 0)) _ (And.intro (z_b01L rfl) (hT.1 [] 6 (D + 3) 192 _ _ (And.intro (z_b01L rfl) (hT.1 [] 6 (D + 4) 221 _ _ (And.intro (fun _ => (o4 a2 a5 a9 a11)) (fun a13 => (a13 (z_litT rfl)).elim)))))))) (fun a12 => (hT.1 [] 6 (D + 2) 186 (10, [(0, zi p), (1, zi 0), (2, zi 3)], [], (zu m 74 12 0)) _ (And.intro (z_b01L rfl) (hT.1 [] 6 (D + 3) 192 _ _ (And.intro (z_b01L rfl) (hT.1 [] 6 (D + 4) 221 _ _ (And.intro (fun a14 => (z_litF a14 rfl).elim) (fun _ => (hT.1 [] 6 (D + 3) 193 _ _ (hT.1 [] 6 (D + 2) 186 _ _ (And.intro (fun a15 => (And.intro (z_b01L rfl) (hT.1 [] 6 (D + 3) 193 _ _ (And.intro (z_b01L rfl) (hT.1 [] 6 (D + 4) 221 _ _ (And.intro (fun _ => (o5 a2 a5 a9 a12 a15)) (fun a17 => (a17 (z_litT rfl)).elim))))))) (fun a16 => (And.intro (fun a18 => (hT.1 [] 6 (D + 2) 186 (14, [(0, zi w), (1, zi 0), (2, zi 9999)], [], (zu m 74 12 0)) _ (And.intro (z_b01L rfl) (hT.1 [] 6 (D + 3) 193 _ _ (And.intro (z_b01L rfl) (hT.1 [] 6 (D + 4) 221 _ _ (And.intro (fun _ => (o6 a2 a5 a9 a12 a16 a18)) (fun a20 => (a20 (z_litT rfl)).elim)))))))) (fun a19 => (hT.1 [] 6 (D + 2) 186 (10, [(0, zi w), (1, zi 0), (2, zi 9999)], [], (zu m 74 12 0)) _ (And.intro (z_b01L rfl) (hT.1 [] 6 (D + 3) 193 _ _ (And.intro (z_b01L rfl) (hT.1 [] 6 (D + 4) 221 _ _ (And.intro (fun a21 => (z_litF a21 rfl).elim) (fun _ => (o7 a2 a5 a9 a12 a16 a19))))))))))))))))))))))))))))))))))))))))))
theorem zb221_0 (hT : zRules T) {D : Nat} {κ : Option zA → zM → Prop} {m : zM} {i : Int} {p : Int} {w : Int}  (hB : zB m) (h_i : (-2147483648) ≤ i ∧ i ≤ 2147483647) (h_p : (-2147483648) ≤ p ∧ p ≤ 2147483647) (h_w : (-2147483648) ≤ w ∧ w ≤ 2147483647) 
    (k1 : i < 0 → zB (zu m 74 12 0) → κ (some (zi (-1))) (zu m 74 12 0))
    (k2 : ¬ i < 0 → ((m 74 4) - 1) < i → zB (zu m 74 12 0) → κ (some (zi (-1))) (zu m 74 12 0))
    (k3 : ¬ i < 0 → ¬ ((m 74 4) - 1) < i → p < 0 → zB (zu m 74 12 0) → κ (some (zi (-1))) (zu m 74 12 0))
    (k4 : ¬ i < 0 → ¬ ((m 74 4) - 1) < i → ¬ p < 0 → 3 < p → zB (zu m 74 12 0) → κ (some (zi (-1))) (zu m 74 12 0))
    (k5 : ¬ i < 0 → ¬ ((m 74 4) - 1) < i → ¬ p < 0 → ¬ 3 < p → w < 0 → zB (zu m 74 12 0) → κ (some (zi (-1))) (zu m 74 12 0))
    (k6 : ¬ i < 0 → ¬ ((m 74 4) - 1) < i → ¬ p < 0 → ¬ 3 < p → ¬ w < 0 → 9999 < w → zB (zu m 74 12 0) → κ (some (zi (-1))) (zu m 74 12 0))
    (k7 : ¬ i < 0 → ¬ ((m 74 4) - 1) < i → ¬ p < 0 → ¬ 3 < p → ¬ w < 0 → ¬ 9999 < w → zB (zu m 74 12 0) → T (D + 3) 215 (0, [(0, zr 74), (1, zi i), (2, zi p), (3, zi w)], [], (zu m 74 12 0)) (fun r m1 => T (D + 4) 221 (34, [(0, zr 74), (1, zi i), (2, zi p), (3, zi w)], r.toList ++ [], m1) κ)) :
    T (D + 4) 221 (0, [(0, zr 74), (1, zi i), (2, zi p), (3, zi w)], [], m) κ := by
  have hb3 : 0 ≤ (m 74 4) ∧ (m 74 4) ≤ 6 := hB 74 4
  have he0 : wr i = i := wr_id (by omega) (by omega)
  have he1 : wr ((m 74 4) - 1) = ((m 74 4) - 1) := wr_id (by omega) (by omega)
  have he2 : wr p = p := wr_id (by omega) (by omega)
  have he3 : wr w = w := wr_id (by omega) (by omega)
  have key := @zb221_0r T hT D κ m i p w
  simp only [he0, he1, he2, he3, Int.toNat_natCast] at key
  exact key
    (fun x0 => k1 x0 (zB_u hB trivial))
    (fun x0 x1 => k2 x0 x1 (zB_u hB trivial))
    (fun x0 x1 x2 => k3 x0 x1 x2 (zB_u hB trivial))
    (fun x0 x1 x2 x3 => k4 x0 x1 x2 x3 (zB_u hB trivial))
    (fun x0 x1 x2 x3 x4 => k5 x0 x1 x2 x3 x4 (zB_u hB trivial))
    (fun x0 x1 x2 x3 x4 x5 => k6 x0 x1 x2 x3 x4 x5 (zB_u hB trivial))
    (fun x0 x1 x2 x3 x4 x5 => k7 x0 x1 x2 x3 x4 x5 (zB_u hB trivial))
theorem zb120_34r (hT : zRules T) {D : Nat} {κ : Option zA → zM → Prop} {m : zM} {v : Int} {lo : zL} (hlo : z_keep [] lo = []) 
    (o1 : κ (some (zi (wr v))) m) :
    T (D + 5) 120 (34, lo, [zi v], m) κ :=
  zkeep hT hlo (hT.1 [] 6 (D + 5) 120 _ κ (o1))
theorem zb120_34 (hT : zRules T) {D : Nat} {κ : Option zA → zM → Prop} {m : zM} {v : Int} {lo : zL} (hlo : z_keep [] lo = [])  (h_v : 0 ≤ v ∧ v ≤ 99) 
    (k1 : κ (some (zi v)) m) :
    T (D + 5) 120 (34, lo, [zi v], m) κ := by
  have he0 : wr v = v := wr_id (by omega) (by omega)
  have key := @zb120_34r T hT D κ m v lo hlo
  simp only [he0, Int.toNat_natCast] at key
  exact key
    k1
theorem zb221_34r (hT : zRules T) {D : Nat} {κ : Option zA → zM → Prop} {m : zM} {v : Int} {lo : zL} (hlo : z_keep [] lo = []) 
    (o1 : κ (some (zi (wr v))) m) :
    T (D + 4) 221 (34, lo, [zi v], m) κ :=
  zkeep hT hlo (hT.1 [] 6 (D + 4) 221 _ κ (o1))
theorem zb221_34 (hT : zRules T) {D : Nat} {κ : Option zA → zM → Prop} {m : zM} {v : Int} {lo : zL} (hlo : z_keep [] lo = [])  (h_v : 0 ≤ v ∧ v ≤ 99) 
    (k1 : κ (some (zi v)) m) :
    T (D + 4) 221 (34, lo, [zi v], m) κ := by
  have he0 : wr v = v := wr_id (by omega) (by omega)
  have key := @zb221_34r T hT D κ m v lo hlo
  simp only [he0, Int.toNat_natCast] at key
  exact key
    k1
theorem zb220_32r (hT : zRules T) {D : Nat} {κ : Option zA → zM → Prop} {m : zM} {v : Int} {lo : zL} (hlo : z_keep [] lo = []) 
    (o1 : κ (some (zi (wr v))) m) :
    T (D + 2) 220 (32, lo, [zi v], m) κ :=
  zkeep hT hlo (hT.1 [] 6 (D + 2) 220 _ κ (o1))
theorem zb220_32 (hT : zRules T) {D : Nat} {κ : Option zA → zM → Prop} {m : zM} {v : Int} {lo : zL} (hlo : z_keep [] lo = [])  (h_v : 0 ≤ v ∧ v ≤ 9) 
    (k1 : κ (some (zi v)) m) :
    T (D + 2) 220 (32, lo, [zi v], m) κ := by
  have he0 : wr v = v := wr_id (by omega) (by omega)
  have key := @zb220_32r T hT D κ m v lo hlo
  simp only [he0, Int.toNat_natCast] at key
  exact key
    k1
theorem zb158_0r (hT : zRules T) {D : Nat} {κ : Option zA → zM → Prop} {m : zM} {s : Int} {p : Int} {n : Int} 
    (o1 : T (D + 1) 5 (0, [(0, zr 4), (1, zi s), (2, zi p), (3, zi n)], [], m) (fun r m1 => T (D + 2) 158 (10, [(0, zr 1), (1, zi s), (2, zi p), (3, zi n)], r.toList ++ [], m1) κ)) :
    T (D + 2) 158 (0, [(0, zr 1), (1, zi s), (2, zi p), (3, zi n)], [], m) κ :=
  hT.1 [] 6 (D + 2) 158 _ κ (o1)
theorem zb158_0 (hT : zRules T) {D : Nat} {κ : Option zA → zM → Prop} {m : zM} {s : Int} {p : Int} {n : Int}  (hB : zB m) (h_s : (-2147483648) ≤ s ∧ s ≤ 2147483647) (h_p : (-2147483648) ≤ p ∧ p ≤ 2147483647) (h_n : (-2147483648) ≤ n ∧ n ≤ 2147483647) 
    (k1 : T (D + 1) 5 (0, [(0, zr 4), (1, zi s), (2, zi p), (3, zi n)], [], m) (fun r m1 => T (D + 2) 158 (10, [(0, zr 1), (1, zi s), (2, zi p), (3, zi n)], r.toList ++ [], m1) κ)) :
    T (D + 2) 158 (0, [(0, zr 1), (1, zi s), (2, zi p), (3, zi n)], [], m) κ := by
  exact zb158_0r hT
    k1
theorem zb158_10r (hT : zRules T) {D : Nat} {κ : Option zA → zM → Prop} {m : zM} {v : Int} {lo : zL} (hlo : z_keep [] lo = []) 
    (o1 : κ (some (zi (wr v))) m) :
    T (D + 2) 158 (10, lo, [zi v], m) κ :=
  zkeep hT hlo (hT.1 [] 6 (D + 2) 158 _ κ (o1))
theorem zb158_10 (hT : zRules T) {D : Nat} {κ : Option zA → zM → Prop} {m : zM} {v : Int} {lo : zL} (hlo : z_keep [] lo = [])  (h_v : (-1) ≤ v ∧ v ≤ 4) 
    (k1 : κ (some (zi v)) m) :
    T (D + 2) 158 (10, lo, [zi v], m) κ := by
  have he0 : wr v = v := wr_id (by omega) (by omega)
  have key := @zb158_10r T hT D κ m v lo hlo
  simp only [he0, Int.toNat_natCast] at key
  exact key
    k1
theorem zb5_0r (hT : zRules T) {D : Nat} {κ : Option zA → zM → Prop} {m : zM} {s : Int} {p : Int} {n : Int} 
    (o1 : wr p < 0 → κ (some (zi (-1))) m)
    (o2 : ¬ wr p < 0 → wr (m 4 4) < wr p → κ (some (zi (-1))) m)
    (o3 : ¬ wr p < 0 → ¬ wr (m 4 4) < wr p → ¬ wr p < 4 → κ (some (zi (-1))) m)
    (o4 : ¬ wr p < 0 → ¬ wr (m 4 4) < wr p → wr p < 4 → wr n < 1 → κ (some (zi (-1))) m)
    (o5 : ¬ wr p < 0 → ¬ wr (m 4 4) < wr p → wr p < 4 → ¬ wr n < 1 → ¬ 26 < wr n → T (D + 1) 5 (36, [(0, zr 4), (2, zi p), (3, zi n), (4, zi s), (5, zi 0)], [], m) κ)
    (o6 : ¬ wr p < 0 → ¬ wr (m 4 4) < wr p → wr p < 4 → ¬ wr n < 1 → 26 < wr n → κ (some (zi (-1))) m) :
    T (D + 1) 5 (0, [(0, zr 4), (1, zi s), (2, zi p), (3, zi n)], [], m) κ :=
  hT.1 [(36, [0, 2, 3, 4, 5])] 6 (D + 1) 5 _ κ (And.intro (fun a1 => (o1 a1)) (fun a2 => (And.intro (fun a3 => (hT.1 [(36, [0, 2, 3, 4, 5])] 6 (D + 1) 5 (28, [(0, zr 4), (1, zi s), (2, zi p), (3, zi n)], [], m) _ (o2 a2 a3))) (fun a4 => (hT.1 [(36, [0, 2, 3, 4, 5])] 6 (D + 1) 5 (12, [(0, zr 4), (1, zi s), (2, zi p), (3, zi n)], [], m) _ (And.intro (fun a5 => (o3 a2 a4 a5)) (fun a6 => (And.intro (fun a7 => (hT.1 [(36, [0, 2, 3, 4, 5])] 6 (D + 1) 5 (28, [(0, zr 4), (1, zi s), (2, zi p), (3, zi n)], [], m) _ (o4 a2 a4 (Classical.byContradiction a6) a7))) (fun a8 => (hT.1 [(36, [0, 2, 3, 4, 5])] 6 (D + 1) 5 (22, [(0, zr 4), (1, zi s), (2, zi p), (3, zi n)], [], m) _ (And.intro (fun a9 => (hT.1 [(36, [0, 2, 3, 4, 5])] 6 (D + 1) 5 (34, [(0, zr 4), (1, zi s), (2, zi p), (3, zi n), (4, zi s)], [zi 0], m) _ (o5 a2 a4 (Classical.byContradiction a6) a8 a9))) (fun a10 => (o6 a2 a4 (Classical.byContradiction a6) a8 (Classical.byContradiction a10))))))))))))))
theorem zb5_0 (hT : zRules T) {D : Nat} {κ : Option zA → zM → Prop} {m : zM} {s : Int} {p : Int} {n : Int}  (hB : zB m) (h_s : (-2147483648) ≤ s ∧ s ≤ 2147483647) (h_p : (-2147483648) ≤ p ∧ p ≤ 2147483647) (h_n : (-2147483648) ≤ n ∧ n ≤ 2147483647) 
    (k1 : p < 0 → κ (some (zi (-1))) m)
    (k2 : ¬ p < 0 → (m 4 4) < p → κ (some (zi (-1))) m)
    (k3 : ¬ p < 0 → ¬ (m 4 4) < p → ¬ p < 4 → κ (some (zi (-1))) m)
    (k4 : ¬ p < 0 → ¬ (m 4 4) < p → p < 4 → n < 1 → κ (some (zi (-1))) m)
    (k5 : ¬ p < 0 → ¬ (m 4 4) < p → p < 4 → ¬ n < 1 → ¬ 26 < n → T (D + 1) 5 (36, [(0, zr 4), (2, zi p), (3, zi n), (4, zi s), (5, zi 0)], [], m) κ)
    (k6 : ¬ p < 0 → ¬ (m 4 4) < p → p < 4 → ¬ n < 1 → 26 < n → κ (some (zi (-1))) m) :
    T (D + 1) 5 (0, [(0, zr 4), (1, zi s), (2, zi p), (3, zi n)], [], m) κ := by
  have hb3 : 0 ≤ (m 4 4) ∧ (m 4 4) ≤ 4 := hB 4 4
  have he0 : wr p = p := wr_id (by omega) (by omega)
  have he1 : wr (m 4 4) = (m 4 4) := wr_id (by omega) (by omega)
  have he2 : wr n = n := wr_id (by omega) (by omega)
  have key := @zb5_0r T hT D κ m s p n
  simp only [he0, he1, he2, Int.toNat_natCast] at key
  exact key
    k1
    k2
    k3
    k4
    k5
    k6
theorem zb286_0r (hT : zRules T) {D : Nat} {κ : Option zA → zM → Prop} {m : zM} {s : Int} {p : Int} {n : Int} 
    (o1 : wr p < 0 → κ (some (zi (-1))) (zu m 74 12 0))
    (o2 : ¬ wr p < 0 → 3 < wr p → κ (some (zi (-1))) (zu m 74 12 0))
    (o3 : ¬ wr p < 0 → ¬ 3 < wr p → wr (m 74 1) < wr p → κ (some (zi (-1))) (zu m 74 12 0))
    (o4 : ¬ wr p < 0 → ¬ 3 < wr p → ¬ wr (m 74 1) < wr p → wr n < 1 → κ (some (zi (-1))) (zu m 74 12 0))
    (o5 : ¬ wr p < 0 → ¬ 3 < wr p → ¬ wr (m 74 1) < wr p → ¬ wr n < 1 → 26 < wr n → κ (some (zi (-1))) (zu m 74 12 0))
    (o6 : ¬ wr p < 0 → ¬ 3 < wr p → ¬ wr (m 74 1) < wr p → ¬ wr n < 1 → ¬ 26 < wr n → T (D + 2) 286 (38, [(0, zr 74), (2, zi p), (3, zi n), (4, zi s), (5, zi 0)], [], (zu m 74 12 0)) κ) :
    T (D + 2) 286 (0, [(0, zr 74), (1, zi s), (2, zi p), (3, zi n)], [], m) κ :=
  hT.1 [(38, [0, 2, 3, 4, 5])] 6 (D + 2) 286 _ κ (And.intro trivial (hT.1 [] 6 (D + 1) 192 _ _ (hT.1 [] 6 D 186 _ _ (And.intro (fun a1 => (And.intro (z_b01L rfl) (hT.1 [] 6 (D + 1) 192 _ _ (And.intro (z_b01L rfl) (hT.1 [(38, [0, 2, 3, 4, 5])] 6 (D + 2) 286 _ _ (And.intro (fun _ => (o1 a1)) (fun a3 => (a3 (z_litT rfl)).elim))))))) (fun a2 => (And.intro (fun a4 => (hT.1 [] 6 D 186 (14, [(0, zi p), (1, zi 0), (2, zi 3)], [], (zu m 74 12 0)) _ (And.intro (z_b01L rfl) (hT.1 [] 6 (D + 1) 192 _ _ (And.intro (z_b01L rfl) (hT.1 [(38, [0, 2, 3, 4, 5])] 6 (D + 2) 286 _ _ (And.intro (fun _ => (o2 a2 a4)) (fun a6 => (a6 (z_litT rfl)).elim)))))))) (fun a5 => (hT.1 [] 6 D 186 (10, [(0, zi p), (1, zi 0), (2, zi 3)], [], (zu m 74 12 0)) _ (And.intro (z_b01L rfl) (hT.1 [] 6 (D + 1) 192 _ _ (And.intro (z_b01L rfl) (hT.1 [(38, [0, 2, 3, 4, 5])] 6 (D + 2) 286 _ _ (And.intro (fun a7 => (z_litF a7 rfl).elim) (fun _ => (And.intro (fun a8 => (hT.1 [(38, [0, 2, 3, 4, 5])] 6 (D + 2) 286 (31, [(0, zr 74), (1, zi s), (2, zi p), (3, zi n)], [zi (-1)], (zu m 74 12 0)) _ (o3 a2 a5 a8))) (fun a9 => (hT.1 [(38, [0, 2, 3, 4, 5])] 6 (D + 2) 286 (21, [(0, zr 74), (1, zi s), (2, zi p), (3, zi n)], [zi n], (zu m 74 12 0)) _ (hT.1 [] 6 (D + 1) 186 _ _ (And.intro (fun a10 => (And.intro (z_b01L rfl) (hT.1 [(38, [0, 2, 3, 4, 5])] 6 (D + 2) 286 _ _ (And.intro (fun a12 => (z_litF a12 rfl).elim) (fun _ => (o4 a2 a5 a9 a10)))))) (fun a11 => (And.intro (fun a13 => (hT.1 [] 6 (D + 1) 186 (14, [(0, zi n), (1, zi 1), (2, zi 26)], [], (zu m 74 12 0)) _ (And.intro (z_b01L rfl) (hT.1 [(38, [0, 2, 3, 4, 5])] 6 (D + 2) 286 _ _ (And.intro (fun a15 => (z_litF a15 rfl).elim) (fun _ => (o5 a2 a5 a9 a11 a13))))))) (fun a14 => (hT.1 [] 6 (D + 1) 186 (10, [(0, zi n), (1, zi 1), (2, zi 26)], [], (zu m 74 12 0)) _ (And.intro (z_b01L rfl) (hT.1 [(38, [0, 2, 3, 4, 5])] 6 (D + 2) 286 _ _ (And.intro (fun _ => (o6 a2 a5 a9 a11 a14)) (fun a16 => (a16 (z_litT rfl)).elim)))))))))))))))))))))))))))
theorem zb286_0 (hT : zRules T) {D : Nat} {κ : Option zA → zM → Prop} {m : zM} {s : Int} {p : Int} {n : Int}  (hB : zB m) (h_s : (-2147483648) ≤ s ∧ s ≤ 2147483647) (h_p : (-2147483648) ≤ p ∧ p ≤ 2147483647) (h_n : (-2147483648) ≤ n ∧ n ≤ 2147483647) 
    (k1 : p < 0 → zB (zu m 74 12 0) → κ (some (zi (-1))) (zu m 74 12 0))
    (k2 : ¬ p < 0 → 3 < p → zB (zu m 74 12 0) → κ (some (zi (-1))) (zu m 74 12 0))
    (k3 : ¬ p < 0 → ¬ 3 < p → (m 74 1) < p → zB (zu m 74 12 0) → κ (some (zi (-1))) (zu m 74 12 0))
    (k4 : ¬ p < 0 → ¬ 3 < p → ¬ (m 74 1) < p → n < 1 → zB (zu m 74 12 0) → κ (some (zi (-1))) (zu m 74 12 0))
    (k5 : ¬ p < 0 → ¬ 3 < p → ¬ (m 74 1) < p → ¬ n < 1 → 26 < n → zB (zu m 74 12 0) → κ (some (zi (-1))) (zu m 74 12 0))
    (k6 : ¬ p < 0 → ¬ 3 < p → ¬ (m 74 1) < p → ¬ n < 1 → ¬ 26 < n → zB (zu m 74 12 0) → T (D + 2) 286 (38, [(0, zr 74), (2, zi p), (3, zi n), (4, zi s), (5, zi 0)], [], (zu m 74 12 0)) κ) :
    T (D + 2) 286 (0, [(0, zr 74), (1, zi s), (2, zi p), (3, zi n)], [], m) κ := by
  have hb3 : 0 ≤ (m 74 1) ∧ (m 74 1) ≤ 4 := hB 74 1
  have he0 : wr p = p := wr_id (by omega) (by omega)
  have he1 : wr (m 74 1) = (m 74 1) := wr_id (by omega) (by omega)
  have he2 : wr n = n := wr_id (by omega) (by omega)
  have key := @zb286_0r T hT D κ m s p n
  simp only [he0, he1, he2, Int.toNat_natCast] at key
  exact key
    (fun x0 => k1 x0 (zB_u hB trivial))
    (fun x0 x1 => k2 x0 x1 (zB_u hB trivial))
    (fun x0 x1 x2 => k3 x0 x1 x2 (zB_u hB trivial))
    (fun x0 x1 x2 x3 => k4 x0 x1 x2 x3 (zB_u hB trivial))
    (fun x0 x1 x2 x3 x4 => k5 x0 x1 x2 x3 x4 (zB_u hB trivial))
    (fun x0 x1 x2 x3 x4 => k6 x0 x1 x2 x3 x4 (zB_u hB trivial))
end ZBlocks
