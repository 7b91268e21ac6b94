section ZBlocks
variable {T : Nat → Nat → zG → (Option zA → zM → Prop) → Prop}
theorem zb218_0nr (hT : zRules T) {D : Nat} {κ : Option zA → zM → Prop} {m : zM} {p : Nat} {w : Int} 
    (o1 : wr (p : Int) < 0 → False)
    (o2 : ¬ wr (p : Int) < 0 → wr ((m 74 4) - 1) < wr (p : Int) → κ (some (zi 0)) (zu (zu m 74 12 0) 74 12 1))
    (o3 : ¬ wr (p : Int) < 0 → ¬ wr ((m 74 4) - 1) < wr (p : Int) → wr w < 0 → κ (some (zi 0)) (zu (zu m 74 12 0) 74 12 1))
    (o4 : ¬ wr (p : Int) < 0 → ¬ wr ((m 74 4) - 1) < wr (p : Int) → ¬ wr w < 0 → 4 < wr w → κ (some (zi 0)) (zu (zu m 74 12 0) 74 12 1))
    (o5 : ¬ wr (p : Int) < 0 → ¬ wr ((m 74 4) - 1) < wr (p : Int) → ¬ wr w < 0 → ¬ 4 < wr w → (0 ≤ wr (6 + (p : Int)) ∧ wr (6 + (p : Int)) < 59))
    (o6 : ¬ wr (p : Int) < 0 → ¬ wr ((m 74 4) - 1) < wr (p : Int) → ¬ wr w < 0 → ¬ 4 < wr w → wr w = 0 → (0 ≤ wr (p : Int) ∧ wr (p : Int) < 6))
    (o7 : ¬ wr (p : Int) < 0 → ¬ wr ((m 74 4) - 1) < wr (p : Int) → ¬ wr w < 0 → ¬ 4 < wr w → wr w = 0 → κ (some (zi (wr (m 78 ((wr (p : Int)).toNat))))) (zu m 74 12 0))
    (o8 : ¬ wr (p : Int) < 0 → ¬ wr ((m 74 4) - 1) < wr (p : Int) → ¬ wr w < 0 → ¬ 4 < wr w → ¬ wr w = 0 → wr w = 1 → (0 ≤ wr (p : Int) ∧ wr (p : Int) < 59))
    (o9 : ¬ wr (p : Int) < 0 → ¬ wr ((m 74 4) - 1) < wr (p : Int) → ¬ wr w < 0 → ¬ 4 < wr w → ¬ wr w = 0 → wr w = 1 → κ (some (zi (wr (m 75 ((wr (p : Int)).toNat))))) (zu m 74 12 0))
    (o10 : ¬ wr (p : Int) < 0 → ¬ wr ((m 74 4) - 1) < wr (p : Int) → ¬ wr w < 0 → ¬ 4 < wr w → ¬ wr w = 0 → ¬ wr w = 1 → wr w = 2 → κ (some (zi (wr (m 75 ((wr (6 + (p : Int))).toNat))))) (zu m 74 12 0))
    (o11 : ¬ wr (p : Int) < 0 → ¬ wr ((m 74 4) - 1) < wr (p : Int) → ¬ wr w < 0 → ¬ 4 < wr w → ¬ wr w = 0 → ¬ wr w = 1 → ¬ wr w = 2 → wr w = 3 → T (D + 4) 216 (0, [(0, zr 74), (1, zi (p : Int)), (2, zi 0)], [], (zu m 74 12 0)) (fun r m1 => T (D + 5) 218 (90, [(0, zr 74), (1, zi (p : Int)), (2, zi w), (3, zi (m 75 ((wr (6 + (p : Int))).toNat)))], r.toList ++ [], m1) κ))
    (o12 : ¬ wr (p : Int) < 0 → ¬ wr ((m 74 4) - 1) < wr (p : Int) → ¬ wr w < 0 → ¬ 4 < wr w → ¬ wr w = 0 → ¬ wr w = 1 → ¬ wr w = 2 → ¬ wr w = 3 → wr (m 75 ((wr (6 + (p : Int))).toNat)) = (-1) → κ (some (zi 0)) (zu m 74 12 0))
    (o13 : ¬ wr (p : Int) < 0 → ¬ wr ((m 74 4) - 1) < wr (p : Int) → ¬ wr w < 0 → ¬ 4 < wr w → ¬ wr w = 0 → ¬ wr w = 1 → ¬ wr w = 2 → ¬ wr w = 3 → ¬ wr (m 75 ((wr (6 + (p : Int))).toNat)) = (-1) → (0 ≤ wr (12 + (m 75 ((wr (6 + (p : Int))).toNat))) ∧ wr (12 + (m 75 ((wr (6 + (p : Int))).toNat))) < 59))
    (o14 : ¬ wr (p : Int) < 0 → ¬ wr ((m 74 4) - 1) < wr (p : Int) → ¬ wr w < 0 → ¬ 4 < wr w → ¬ wr w = 0 → ¬ wr w = 1 → ¬ wr w = 2 → ¬ wr w = 3 → ¬ wr (m 75 ((wr (6 + (p : Int))).toNat)) = (-1) → T (D + 4) 216 (0, [(0, zr 74), (1, zi (p : Int)), (2, zi 0)], [], (zu m 74 12 0)) (fun r m1 => T (D + 5) 218 (111, [(0, zr 74), (1, zi (p : Int)), (2, zi w), (3, zi (m 75 ((wr (6 + (p : Int))).toNat)))], r.toList ++ [zi (m 75 ((wr (12 + (m 75 ((wr (6 + (p : Int))).toNat)))).toNat))], m1) κ)) :
    T (D + 5) 218 (0, [(0, zr 74), (1, zi (p : Int)), (2, zi w)], [], m) κ :=
  hT.1 [] 6 (D + 5) 218 _ κ (And.intro trivial (hT.1 [] 6 (D + 4) 190 _ _ (hT.1 [] 6 (D + 4) 190 (8, [(0, zr 74), (1, zi (p : Int))], [zi ((m 74 4) - 1), zi 0, zi (p : Int)], (zu m 74 12 0)) _ (hT.1 [] 6 (D + 3) 186 _ _ (And.intro (fun a1 => (o1 a1).elim) (fun a2 => (And.intro (fun a3 => (hT.1 [] 6 (D + 3) 186 (14, [(0, zi (p : Int)), (1, zi 0), (2, zi ((m 74 4) - 1))], [], (zu m 74 12 0)) _ (And.intro (z_b01L rfl) (hT.1 [] 6 (D + 4) 190 _ _ (And.intro (z_b01L rfl) (hT.1 [] 6 (D + 5) 218 _ _ (And.intro (fun _ => (hT.1 [] 6 (D + 4) 188 _ _ (And.intro trivial (hT.1 [] 6 (D + 5) 218 _ _ (o2 a2 a3))))) (fun a5 => (a5 (z_litT rfl)).elim)))))))) (fun a4 => (hT.1 [] 6 (D + 3) 186 (10, [(0, zi (p : Int)), (1, zi 0), (2, zi ((m 74 4) - 1))], [], (zu m 74 12 0)) _ (And.intro (z_b01L rfl) (hT.1 [] 6 (D + 4) 190 _ _ (And.intro (z_b01L rfl) (hT.1 [] 6 (D + 5) 218 _ _ (And.intro (fun a6 => (z_litF a6 rfl).elim) (fun _ => (hT.1 [] 6 (D + 4) 186 _ _ (And.intro (fun a7 => (And.intro (z_b01L rfl) (hT.1 [] 6 (D + 5) 218 _ _ (And.intro (fun a9 => (z_litF a9 rfl).elim) (fun _ => (hT.1 [] 6 (D + 4) 188 _ _ (And.intro trivial (hT.1 [] 6 (D + 5) 218 _ _ (o3 a2 a4 a7))))))))) (fun a8 => (And.intro (fun a10 => (hT.1 [] 6 (D + 4) 186 (14, [(0, zi w), (1, zi 0), (2, zi 4)], [], (zu m 74 12 0)) _ (And.intro (z_b01L rfl) (hT.1 [] 6 (D + 5) 218 _ _ (And.intro (fun a12 => (z_litF a12 rfl).elim) (fun _ => (hT.1 [] 6 (D + 4) 188 _ _ (And.intro trivial (hT.1 [] 6 (D + 5) 218 _ _ (o4 a2 a4 a8 a10)))))))))) (fun a11 => (hT.1 [] 6 (D + 4) 186 (10, [(0, zi w), (1, zi 0), (2, zi 4)], [], (zu m 74 12 0)) _ (And.intro (z_b01L rfl) (hT.1 [] 6 (D + 5) 218 _ _ (And.intro (fun _ => (hT.1 [] 6 (D + 5) 218 (35, [(0, zr 74), (1, zi (p : Int)), (2, zi w)], [zi (6 + (p : Int)), zr 75], (zu m 74 12 0)) _ (And.intro (o5 a2 a4 a8 a11) (And.intro (fun a14 => (hT.1 [] 6 (D + 5) 218 (72, [(0, zr 74), (1, zi (p : Int)), (2, zi w), (3, zi (m 75 ((wr (6 + (p : Int))).toNat)))], [zr 78], (zu m 74 12 0)) _ (And.intro (o6 a2 a4 a8 a11 a14) (o7 a2 a4 a8 a11 a14)))) (fun a15 => (And.intro (fun a16 => (hT.1 [] 6 (D + 5) 218 (79, [(0, zr 74), (1, zi (p : Int)), (2, zi w), (3, zi (m 75 ((wr (6 + (p : Int))).toNat)))], [zr 75], (zu m 74 12 0)) _ (And.intro (o8 a2 a4 a8 a11 a15 a16) (o9 a2 a4 a8 a11 a15 a16)))) (fun a17 => (And.intro (fun a18 => (o10 a2 a4 a8 a11 a15 a17 a18)) (fun a19 => (And.intro (fun a20 => (hT.1 [] 6 (D + 5) 218 (86, [(0, zr 74), (1, zi (p : Int)), (2, zi w), (3, zi (m 75 ((wr (6 + (p : Int))).toNat)))], [zi (p : Int), zr 74], (zu m 74 12 0)) _ (o11 a2 a4 a8 a11 a15 a17 a19 a20))) (fun a21 => (hT.1 [] 6 (D + 5) 218 (93, [(0, zr 74), (1, zi (p : Int)), (2, zi w), (3, zi (m 75 ((wr (6 + (p : Int))).toNat)))], [zi (-1), zi (m 75 ((wr (6 + (p : Int))).toNat))], (zu m 74 12 0)) _ (And.intro (fun a22 => (o12 a2 a4 a8 a11 a15 a17 a19 a21 a22)) (fun a23 => (hT.1 [] 6 (D + 5) 218 (104, [(0, zr 74), (1, zi (p : Int)), (2, zi w), (3, zi (m 75 ((wr (6 + (p : Int))).toNat)))], [zi (12 + (m 75 ((wr (6 + (p : Int))).toNat))), zr 75], (zu m 74 12 0)) _ (And.intro (o13 a2 a4 a8 a11 a15 a17 a19 a21 a23) (o14 a2 a4 a8 a11 a15 a17 a19 a21 a23))))))))))))))))) (fun a13 => (a13 (z_litT rfl)).elim)))))))))))))))))))))))))
theorem zb218_0n (hT : zRules T) {D : Nat} {κ : Option zA → zM → Prop} {m : zM} {p : Nat} {w : Int}  (hB : zB m) (h_p : p ≤ 5) (h_w : (-2147483648) ≤ w ∧ w ≤ 2147483647) 
    (k1 : ((m 74 4) - 1) < (p : Int) → zB (zu (zu m 74 12 0) 74 12 1) → κ (some (zi 0)) (zu (zu m 74 12 0) 74 12 1))
    (k2 : ¬ ((m 74 4) - 1) < (p : Int) → w < 0 → zB (zu (zu m 74 12 0) 74 12 1) → κ (some (zi 0)) (zu (zu m 74 12 0) 74 12 1))
    (k3 : ¬ ((m 74 4) - 1) < (p : Int) → ¬ w < 0 → 4 < w → zB (zu (zu m 74 12 0) 74 12 1) → κ (some (zi 0)) (zu (zu m 74 12 0) 74 12 1))
    (k4 : ¬ ((m 74 4) - 1) < (p : Int) → ¬ w < 0 → ¬ 4 < w → w = 0 → zB (zu m 74 12 0) → κ (some (zi (m 78 p))) (zu m 74 12 0))
    (k5 : ¬ ((m 74 4) - 1) < (p : Int) → ¬ w < 0 → ¬ 4 < w → ¬ w = 0 → w = 1 → zB (zu m 74 12 0) → κ (some (zi (m 75 p))) (zu m 74 12 0))
    (k6 : ¬ ((m 74 4) - 1) < (p : Int) → ¬ w < 0 → ¬ 4 < w → ¬ w = 0 → ¬ w = 1 → w = 2 → zB (zu m 74 12 0) → κ (some (zi (m 75 (p + 6)))) (zu m 74 12 0))
    (k7 : ¬ ((m 74 4) - 1) < (p : Int) → ¬ w < 0 → ¬ 4 < w → ¬ w = 0 → ¬ w = 1 → ¬ w = 2 → w = 3 → zB (zu m 74 12 0) → T (D + 4) 216 (0, [(0, zr 74), (1, zi (p : Int)), (2, zi 0)], [], (zu m 74 12 0)) (fun r m1 => T (D + 5) 218 (90, [(0, zr 74), (1, zi (p : Int)), (2, zi w), (3, zi (m 75 (p + 6)))], r.toList ++ [], m1) κ))
    (k8 : ¬ ((m 74 4) - 1) < (p : Int) → ¬ w < 0 → ¬ 4 < w → ¬ w = 0 → ¬ w = 1 → ¬ w = 2 → ¬ w = 3 → (m 75 (p + 6)) = (-1) → zB (zu m 74 12 0) → κ (some (zi 0)) (zu m 74 12 0))
    (k9 : ¬ ((m 74 4) - 1) < (p : Int) → ¬ w < 0 → ¬ 4 < w → ¬ w = 0 → ¬ w = 1 → ¬ w = 2 → ¬ w = 3 → ¬ (m 75 (p + 6)) = (-1) → zB (zu m 74 12 0) → T (D + 4) 216 (0, [(0, zr 74), (1, zi (p : Int)), (2, zi 0)], [], (zu m 74 12 0)) (fun r m1 => T (D + 5) 218 (111, [(0, zr 74), (1, zi (p : Int)), (2, zi w), (3, zi (m 75 (p + 6)))], r.toList ++ [zi (m 75 ((12 + (m 75 (p + 6))).toNat))], m1) κ)) :
    T (D + 5) 218 (0, [(0, zr 74), (1, zi (p : Int)), (2, zi w)], [], m) κ := by
  have hb2 : 0 ≤ (m 74 4) ∧ (m 74 4) ≤ 6 := hB 74 4
  have hb3 : (-1) ≤ (m 75 (p + 6)) ∧ (m 75 (p + 6)) ≤ 7 := zSg hB 75 6 12 (-1) 7 rfl (p + 6) (by omega) (by omega)
  have hb4 : 0 ≤ (m 78 p) ∧ (m 78 p) ≤ 99 := hB 78 p
  have hb5 : 0 ≤ (m 75 p) ∧ (m 75 p) ≤ 3 := zSg hB 75 0 6 0 3 rfl p (by omega) (by omega)
  have hb6 : (-1) ≤ (m 75 ((12 + (m 75 (p + 6))).toNat)) ∧ (m 75 ((12 + (m 75 (p + 6))).toNat)) ≤ 99 := zSg hB 75 6 20 (-1) 99 rfl ((12 + (m 75 (p + 6))).toNat) (by omega) (by omega)
  have he0 : wr (p : Int) = (p : Int) := wr_id (by omega) (by omega)
  have he1 : wr ((m 74 4) - 1) = ((m 74 4) - 1) := wr_id (by omega) (by omega)
  have he2 : wr w = w := wr_id (by omega) (by omega)
  have he3 : wr (6 + (p : Int)) = (6 + (p : Int)) := wr_id (by omega) (by omega)
  have he4 : (6 + (p : Int)).toNat = p + 6 := by omega
  have he5 : (p : Int).toNat = p := by omega
  have he6 : wr (m 78 p) = (m 78 p) := wr_id (by omega) (by omega)
  have he7 : wr (m 75 p) = (m 75 p) := wr_id (by omega) (by omega)
  have he8 : wr (m 75 (p + 6)) = (m 75 (p + 6)) := wr_id (by omega) (by omega)
  have he9 : wr (12 + (m 75 (p + 6))) = (12 + (m 75 (p + 6))) := wr_id (by omega) (by omega)
  have key := @zb218_0nr T hT D κ m p w
  simp only [he0, he1, he2, he3, he4, he5, he6, he7, he8, he9, Int.toNat_natCast] at key
  exact key
    (fun x0 => by omega)
    (fun x0 x1 => k1 x1 (zB_u (zB_u hB trivial) trivial))
    (fun x0 x1 x2 => k2 x1 x2 (zB_u (zB_u hB trivial) trivial))
    (fun x0 x1 x2 x3 => k3 x1 x2 x3 (zB_u (zB_u hB trivial) trivial))
    (fun x0 x1 x2 x3 => by refine ⟨?_, ?_⟩ <;> omega)
    (fun x0 x1 x2 x3 x4 => by refine ⟨?_, ?_⟩ <;> omega)
    (fun x0 x1 x2 x3 x4 => k4 x1 x2 x3 x4 (zB_u hB trivial))
    (fun x0 x1 x2 x3 x4 x5 => by refine ⟨?_, ?_⟩ <;> omega)
    (fun x0 x1 x2 x3 x4 x5 => k5 x1 x2 x3 x4 x5 (zB_u hB trivial))
    (fun x0 x1 x2 x3 x4 x5 x6 => k6 x1 x2 x3 x4 x5 x6 (zB_u hB trivial))
    (fun x0 x1 x2 x3 x4 x5 x6 x7 => k7 x1 x2 x3 x4 x5 x6 x7 (zB_u hB trivial))
    (fun x0 x1 x2 x3 x4 x5 x6 x7 x8 => k8 x1 x2 x3 x4 x5 x6 x7 x8 (zB_u hB trivial))
    (fun x0 x1 x2 x3 x4 x5 x6 x7 x8 => by refine ⟨?_, ?_⟩ <;> omega)
    (fun x0 x1 x2 x3 x4 x5 x6 x7 x8 => k9 x1 x2 x3 x4 x5 x6 x7 x8 (zB_u hB trivial))
theorem zb219_0nr (hT : zRules T) {D : Nat} {κ : Option zA → zM → Prop} {m : zM} {c : Nat} {w : Int} 
    (o1 : wr (c : Int) < 0 → False)
    (o2 : ¬ wr (c : Int) < 0 → wr ((m 74 6) - 1) < wr (c : Int) → κ (some (zi 0)) (zu (zu m 74 12 0) 74 12 1))
    (o3 : ¬ wr (c : Int) < 0 → ¬ wr ((m 74 6) - 1) < wr (c : Int) → wr w < 0 → κ (some (zi 0)) (zu (zu m 74 12 0) 74 12 1))
    (o4 : ¬ wr (c : Int) < 0 → ¬ wr ((m 74 6) - 1) < wr (c : Int) → ¬ wr w < 0 → 4 < wr w → κ (some (zi 0)) (zu (zu m 74 12 0) 74 12 1))
    (o5 : ¬ wr (c : Int) < 0 → ¬ wr ((m 74 6) - 1) < wr (c : Int) → ¬ wr w < 0 → ¬ 4 < wr w → wr w = 0 → (0 ≤ wr (12 + (c : Int)) ∧ wr (12 + (c : Int)) < 59))
    (o6 : ¬ wr (c : Int) < 0 → ¬ wr ((m 74 6) - 1) < wr (c : Int) → ¬ wr w < 0 → ¬ 4 < wr w → wr w = 0 → κ (some (zi (wr (m 75 ((wr (12 + (c : Int))).toNat))))) (zu m 74 12 0))
    (o7 : ¬ wr (c : Int) < 0 → ¬ wr ((m 74 6) - 1) < wr (c : Int) → ¬ wr w < 0 → ¬ 4 < wr w → ¬ wr w = 0 → wr w = 1 → (0 ≤ wr (20 + (c : Int)) ∧ wr (20 + (c : Int)) < 59))
    (o8 : ¬ wr (c : Int) < 0 → ¬ wr ((m 74 6) - 1) < wr (c : Int) → ¬ wr w < 0 → ¬ 4 < wr w → ¬ wr w = 0 → wr w = 1 → κ (some (zi (wr (m 75 ((wr (20 + (c : Int))).toNat))))) (zu m 74 12 0))
    (o9 : ¬ wr (c : Int) < 0 → ¬ wr ((m 74 6) - 1) < wr (c : Int) → ¬ wr w < 0 → ¬ 4 < wr w → ¬ wr w = 0 → ¬ wr w = 1 → wr w = 2 → (0 ≤ wr (12 + (c : Int)) ∧ wr (12 + (c : Int)) < 59))
    (o10 : ¬ wr (c : Int) < 0 → ¬ wr ((m 74 6) - 1) < wr (c : Int) → ¬ wr w < 0 → ¬ 4 < wr w → ¬ wr w = 0 → ¬ wr w = 1 → wr w = 2 → (0 ≤ wr (20 + (c : Int)) ∧ wr (20 + (c : Int)) < 59))
    (o11 : ¬ wr (c : Int) < 0 → ¬ wr ((m 74 6) - 1) < wr (c : Int) → ¬ wr w < 0 → ¬ 4 < wr w → ¬ wr w = 0 → ¬ wr w = 1 → wr w = 2 → κ (some (zi (wr ((m 75 ((wr (12 + (c : Int))).toNat)) + (m 75 ((wr (20 + (c : Int))).toNat)))))) (zu m 74 12 0))
    (o12 : ¬ wr (c : Int) < 0 → ¬ wr ((m 74 6) - 1) < wr (c : Int) → ¬ wr w < 0 → ¬ 4 < wr w → ¬ wr w = 0 → ¬ wr w = 1 → ¬ wr w = 2 → wr w = 3 → (0 ≤ wr (28 + (c : Int)) ∧ wr (28 + (c : Int)) < 59))
    (o13 : ¬ wr (c : Int) < 0 → ¬ wr ((m 74 6) - 1) < wr (c : Int) → ¬ wr w < 0 → ¬ 4 < wr w → ¬ wr w = 0 → ¬ wr w = 1 → ¬ wr w = 2 → wr w = 3 → κ (some (zi (wr (m 75 ((wr (28 + (c : Int))).toNat))))) (zu m 74 12 0))
    (o14 : ¬ wr (c : Int) < 0 → ¬ wr ((m 74 6) - 1) < wr (c : Int) → ¬ wr w < 0 → ¬ 4 < wr w → ¬ wr w = 0 → ¬ wr w = 1 → ¬ wr w = 2 → ¬ wr w = 3 → T (D + 2) 217 (0, [(0, zr 74), (1, zr 75), (2, zi (c : Int))], [], (zu m 74 12 0)) (fun r m1 => T (D + 3) 219 (119, [(0, zr 74), (1, zi (c : Int)), (2, zi w)], r.toList ++ [], m1) κ)) :
    T (D + 3) 219 (0, [(0, zr 74), (1, zi (c : Int)), (2, zi w)], [], m) κ :=
  hT.1 [] 6 (D + 3) 219 _ κ (And.intro trivial (hT.1 [] 6 (D + 2) 191 _ _ (hT.1 [] 6 (D + 2) 191 (8, [(0, zr 74), (1, zi (c : Int))], [zi ((m 74 6) - 1), zi 0, zi (c : Int)], (zu m 74 12 0)) _ (hT.1 [] 6 (D + 1) 186 _ _ (And.intro (fun a1 => (o1 a1).elim) (fun a2 => (And.intro (fun a3 => (hT.1 [] 6 (D + 1) 186 (14, [(0, zi (c : Int)), (1, zi 0), (2, zi ((m 74 6) - 1))], [], (zu m 74 12 0)) _ (And.intro (z_b01L rfl) (hT.1 [] 6 (D + 2) 191 _ _ (And.intro (z_b01L rfl) (hT.1 [] 6 (D + 3) 219 _ _ (And.intro (fun _ => (hT.1 [] 6 (D + 2) 188 _ _ (And.intro trivial (hT.1 [] 6 (D + 3) 219 _ _ (o2 a2 a3))))) (fun a5 => (a5 (z_litT rfl)).elim)))))))) (fun a4 => (hT.1 [] 6 (D + 1) 186 (10, [(0, zi (c : Int)), (1, zi 0), (2, zi ((m 74 6) - 1))], [], (zu m 74 12 0)) _ (And.intro (z_b01L rfl) (hT.1 [] 6 (D + 2) 191 _ _ (And.intro (z_b01L rfl) (hT.1 [] 6 (D + 3) 219 _ _ (And.intro (fun a6 => (z_litF a6 rfl).elim) (fun _ => (hT.1 [] 6 (D + 2) 186 _ _ (And.intro (fun a7 => (And.intro (z_b01L rfl) (hT.1 [] 6 (D + 3) 219 _ _ (And.intro (fun a9 => (z_litF a9 rfl).elim) (fun _ => (hT.1 [] 6 (D + 2) 188 _ _ (And.intro trivial (hT.1 [] 6 (D + 3) 219 _ _ (o3 a2 a4 a7))))))))) (fun a8 => (And.intro (fun a10 => (hT.1 [] 6 (D + 2) 186 (14, [(0, zi w), (1, zi 0), (2, zi 4)], [], (zu m 74 12 0)) _ (And.intro (z_b01L rfl) (hT.1 [] 6 (D + 3) 219 _ _ (And.intro (fun a12 => (z_litF a12 rfl).elim) (fun _ => (hT.1 [] 6 (D + 2) 188 _ _ (And.intro trivial (hT.1 [] 6 (D + 3) 219 _ _ (o4 a2 a4 a8 a10)))))))))) (fun a11 => (hT.1 [] 6 (D + 2) 186 (10, [(0, zi w), (1, zi 0), (2, zi 4)], [], (zu m 74 12 0)) _ (And.intro (z_b01L rfl) (hT.1 [] 6 (D + 3) 219 _ _ (And.intro (fun _ => (And.intro (fun a14 => (hT.1 [] 6 (D + 3) 219 (66, [(0, zr 74), (1, zi (c : Int)), (2, zi w)], [zi 12, zr 75], (zu m 74 12 0)) _ (And.intro (o5 a2 a4 a8 a11 a14) (o6 a2 a4 a8 a11 a14)))) (fun a15 => (And.intro (fun a16 => (hT.1 [] 6 (D + 3) 219 (76, [(0, zr 74), (1, zi (c : Int)), (2, zi w)], [zi 20, zr 75], (zu m 74 12 0)) _ (And.intro (o7 a2 a4 a8 a11 a15 a16) (o8 a2 a4 a8 a11 a15 a16)))) (fun a17 => (And.intro (fun a18 => (hT.1 [] 6 (D + 3) 219 (86, [(0, zr 74), (1, zi (c : Int)), (2, zi w)], [zi 12, zr 75], (zu m 74 12 0)) _ (And.intro (o9 a2 a4 a8 a11 a15 a17 a18) (hT.1 [] 6 (D + 3) 219 (95, [(0, zr 74), (1, zi (c : Int)), (2, zi w)], [zi 20, zr 75, zi (m 75 ((wr (12 + (c : Int))).toNat))], (zu m 74 12 0)) _ (And.intro (o10 a2 a4 a8 a11 a15 a17 a18) (o11 a2 a4 a8 a11 a15 a17 a18)))))) (fun a19 => (And.intro (fun a20 => (hT.1 [] 6 (D + 3) 219 (106, [(0, zr 74), (1, zi (c : Int)), (2, zi w)], [zi 28, zr 75], (zu m 74 12 0)) _ (And.intro (o12 a2 a4 a8 a11 a15 a17 a19 a20) (o13 a2 a4 a8 a11 a15 a17 a19 a20)))) (fun a21 => (hT.1 [] 6 (D + 3) 219 (115, [(0, zr 74), (1, zi (c : Int)), (2, zi w)], [zr 75, zr 74], (zu m 74 12 0)) _ (o14 a2 a4 a8 a11 a15 a17 a19 a21))))))))))) (fun a13 => (a13 (z_litT rfl)).elim)))))))))))))))))))))))))
theorem zb219_0n (hT : zRules T) {D : Nat} {κ : Option zA → zM → Prop} {m : zM} {c : Nat} {w : Int}  (hB : zB m) (h_c : c ≤ 7) (h_w : (-2147483648) ≤ w ∧ w ≤ 2147483647) 
    (k1 : ((m 74 6) - 1) < (c : Int) → zB (zu (zu m 74 12 0) 74 12 1) → κ (some (zi 0)) (zu (zu m 74 12 0) 74 12 1))
    (k2 : ¬ ((m 74 6) - 1) < (c : Int) → w < 0 → zB (zu (zu m 74 12 0) 74 12 1) → κ (some (zi 0)) (zu (zu m 74 12 0) 74 12 1))
    (k3 : ¬ ((m 74 6) - 1) < (c : Int) → ¬ w < 0 → 4 < w → zB (zu (zu m 74 12 0) 74 12 1) → κ (some (zi 0)) (zu (zu m 74 12 0) 74 12 1))
    (k4 : ¬ ((m 74 6) - 1) < (c : Int) → ¬ w < 0 → ¬ 4 < w → w = 0 → zB (zu m 74 12 0) → κ (some (zi (m 75 (c + 12)))) (zu m 74 12 0))
    (k5 : ¬ ((m 74 6) - 1) < (c : Int) → ¬ w < 0 → ¬ 4 < w → ¬ w = 0 → w = 1 → zB (zu m 74 12 0) → κ (some (zi (m 75 (c + 20)))) (zu m 74 12 0))
    (k6 : ¬ ((m 74 6) - 1) < (c : Int) → ¬ w < 0 → ¬ 4 < w → ¬ w = 0 → ¬ w = 1 → w = 2 → zB (zu m 74 12 0) → κ (some (zi ((m 75 (c + 12)) + (m 75 (c + 20))))) (zu m 74 12 0))
    (k7 : ¬ ((m 74 6) - 1) < (c : Int) → ¬ w < 0 → ¬ 4 < w → ¬ w = 0 → ¬ w = 1 → ¬ w = 2 → w = 3 → zB (zu m 74 12 0) → κ (some (zi (wr (m 75 (c + 28))))) (zu m 74 12 0))
    (k8 : ¬ ((m 74 6) - 1) < (c : Int) → ¬ w < 0 → ¬ 4 < w → ¬ w = 0 → ¬ w = 1 → ¬ w = 2 → ¬ w = 3 → zB (zu m 74 12 0) → T (D + 2) 217 (0, [(0, zr 74), (1, zr 75), (2, zi (c : Int))], [], (zu m 74 12 0)) (fun r m1 => T (D + 3) 219 (119, [(0, zr 74), (1, zi (c : Int)), (2, zi w)], r.toList ++ [], m1) κ)) :
    T (D + 3) 219 (0, [(0, zr 74), (1, zi (c : Int)), (2, zi w)], [], m) κ := by
  have hb2 : 0 ≤ (m 74 6) ∧ (m 74 6) ≤ 8 := hB 74 6
  have hb3 : (-1) ≤ (m 75 (c + 12)) ∧ (m 75 (c + 12)) ≤ 99 := zSg hB 75 12 20 (-1) 99 rfl (c + 12) (by omega) (by omega)
  have hb4 : (-1) ≤ (m 75 (c + 20)) ∧ (m 75 (c + 20)) ≤ 9 := zSg hB 75 20 28 (-1) 9 rfl (c + 20) (by omega) (by omega)
  have hb5 : (-2147483648) ≤ wr (m 75 (c + 28)) ∧ wr (m 75 (c + 28)) ≤ 2147483647 := wrB (m 75 (c + 28))
  have he0 : wr (c : Int) = (c : Int) := wr_id (by omega) (by omega)
  have he1 : wr ((m 74 6) - 1) = ((m 74 6) - 1) := wr_id (by omega) (by omega)
  have he2 : wr w = w := wr_id (by omega) (by omega)
  have he3 : wr (12 + (c : Int)) = (12 + (c : Int)) := wr_id (by omega) (by omega)
  have he4 : (12 + (c : Int)).toNat = c + 12 := by omega
  have he5 : wr (m 75 (c + 12)) = (m 75 (c + 12)) := wr_id (by omega) (by omega)
  have he6 : wr (20 + (c : Int)) = (20 + (c : Int)) := wr_id (by omega) (by omega)
  have he7 : (20 + (c : Int)).toNat = c + 20 := by omega
  have he8 : wr (m 75 (c + 20)) = (m 75 (c + 20)) := wr_id (by omega) (by omega)
  have he9 : wr ((m 75 (c + 12)) + (m 75 (c + 20))) = ((m 75 (c + 12)) + (m 75 (c + 20))) := wr_id (by omega) (by omega)
  have he10 : wr (28 + (c : Int)) = (28 + (c : Int)) := wr_id (by omega) (by omega)
  have he11 : (28 + (c : Int)).toNat = c + 28 := by omega
  have key := @zb219_0nr T hT D κ m c w
  simp only [he0, he1, he2, he3, he4, he5, he6, he7, he8, he9, he10, he11, Int.toNat_natCast] at key
  exact key
    (fun x0 => by omega)
    (fun x0 x1 => k1 x1 (zB_u (zB_u hB trivial) trivial))
    (fun x0 x1 x2 => k2 x1 x2 (zB_u (zB_u hB trivial) trivial))
    (fun x0 x1 x2 x3 => k3 x1 x2 x3 (zB_u (zB_u hB trivial) trivial))
    (fun x0 x1 x2 x3 x4 => by refine ⟨?_, ?_⟩ <;> omega)
    (fun x0 x1 x2 x3 x4 => k4 x1 x2 x3 x4 (zB_u hB trivial))
    (fun x0 x1 x2 x3 x4 x5 => by refine ⟨?_, ?_⟩ <;> omega)
    (fun x0 x1 x2 x3 x4 x5 => k5 x1 x2 x3 x4 x5 (zB_u hB trivial))
    (fun x0 x1 x2 x3 x4 x5 x6 => by refine ⟨?_, ?_⟩ <;> omega)
    (fun x0 x1 x2 x3 x4 x5 x6 => by refine ⟨?_, ?_⟩ <;> omega)
    (fun x0 x1 x2 x3 x4 x5 x6 => k6 x1 x2 x3 x4 x5 x6 (zB_u hB trivial))
    (fun x0 x1 x2 x3 x4 x5 x6 x7 => by refine ⟨?_, ?_⟩ <;> omega)
    (fun x0 x1 x2 x3 x4 x5 x6 x7 => k7 x1 x2 x3 x4 x5 x6 x7 (zB_u hB trivial))
    (fun x0 x1 x2 x3 x4 x5 x6 x7 => k8 x1 x2 x3 x4 x5 x6 x7 (zB_u hB trivial))
theorem zb242_0nr (hT : zRules T) {D : Nat} {κ : Option zA → zM → Prop} {m : zM} {i : Nat} 
    (o1 : wr (i : Int) < 0 → False)
    (o2 : ¬ wr (i : Int) < 0 → wr ((m 75 56) - 1) < wr (i : Int) → κ (some (zi 0)) (zu (zu m 74 12 0) 74 12 1))
    (o3 : ¬ wr (i : Int) < 0 → ¬ wr ((m 75 56) - 1) < wr (i : Int) → (0 ≤ wr (36 + (i : Int)) ∧ wr (36 + (i : Int)) < 59))
    (o4 : ¬ wr (i : Int) < 0 → ¬ wr ((m 75 56) - 1) < wr (i : Int) → κ (some (zi (wr (m 75 ((wr (36 + (i : Int))).toNat))))) (zu m 74 12 0)) :
    T (D + 2) 242 (0, [(0, zr 74), (1, zi (i : Int))], [], m) κ :=
  hT.1 [] 6 (D + 2) 242 _ κ (And.intro trivial (hT.1 [] 6 (D + 2) 242 (8, [(0, zr 74), (1, zi (i : Int))], [zr 74, zi 0, zi (i : Int)], (zu m 74 12 0)) _ (And.intro (z_ixL rfl) (hT.1 [] 6 (D + 1) 186 _ _ (And.intro (fun a1 => (o1 a1).elim) (fun a2 => (And.intro (fun a3 => (hT.1 [] 6 (D + 1) 186 (14, [(0, zi (i : Int)), (1, zi 0), (2, zi ((m 75 56) - 1))], [], (zu m 74 12 0)) _ (And.intro (z_b01L rfl) (hT.1 [] 6 (D + 2) 242 _ _ (And.intro (fun _ => (hT.1 [] 6 (D + 1) 188 _ _ (And.intro trivial (hT.1 [] 6 (D + 2) 242 _ _ (o2 a2 a3))))) (fun a5 => (a5 (z_litT rfl)).elim)))))) (fun a4 => (hT.1 [] 6 (D + 1) 186 (10, [(0, zi (i : Int)), (1, zi 0), (2, zi ((m 75 56) - 1))], [], (zu m 74 12 0)) _ (And.intro (z_b01L rfl) (hT.1 [] 6 (D + 2) 242 _ _ (And.intro (fun a6 => (z_litF a6 rfl).elim) (fun _ => (hT.1 [] 6 (D + 2) 242 (30, [(0, zr 74), (1, zi (i : Int))], [zi (36 + (i : Int)), zr 75], (zu m 74 12 0)) _ (And.intro (o3 a2 a4) (o4 a2 a4))))))))))))))))
theorem zb242_0n (hT : zRules T) {D : Nat} {κ : Option zA → zM → Prop} {m : zM} {i : Nat}  (hB : zB m) (h_i : i ≤ 19) 
    (k1 : ((m 75 56) - 1) < (i : Int) → zB (zu (zu m 74 12 0) 74 12 1) → κ (some (zi 0)) (zu (zu m 74 12 0) 74 12 1))
    (k2 : ¬ ((m 75 56) - 1) < (i : Int) → zB (zu m 74 12 0) → κ (some (zi (m 75 (i + 36)))) (zu m 74 12 0)) :
    T (D + 2) 242 (0, [(0, zr 74), (1, zi (i : Int))], [], m) κ := by
  have hb1 : 0 ≤ (m 75 56) ∧ (m 75 56) ≤ 20 := hB 75 56
  have hb2 : 0 ≤ (m 75 (i + 36)) ∧ (m 75 (i + 36)) ≤ 108 := zSg hB 75 36 56 0 108 rfl (i + 36) (by omega) (by omega)
  have he0 : wr (i : Int) = (i : Int) := wr_id (by omega) (by omega)
  have he1 : wr ((m 75 56) - 1) = ((m 75 56) - 1) := wr_id (by omega) (by omega)
  have he2 : wr (36 + (i : Int)) = (36 + (i : Int)) := wr_id (by omega) (by omega)
  have he3 : (36 + (i : Int)).toNat = i + 36 := by omega
  have he4 : wr (m 75 (i + 36)) = (m 75 (i + 36)) := wr_id (by omega) (by omega)
  have key := @zb242_0nr T hT D κ m i
  simp only [he0, he1, he2, he3, he4, Int.toNat_natCast] at key
  exact key
    (fun x0 => by omega)
    (fun x0 x1 => k1 x1 (zB_u (zB_u hB trivial) trivial))
    (fun x0 x1 => by refine ⟨?_, ?_⟩ <;> omega)
    (fun x0 x1 => k2 x1 (zB_u hB trivial))
theorem zb118_0nr (hT : zRules T) {D : Nat} {κ : Option zA → zM → Prop} {m : zM} {c : Nat} {w : Int} 
    (o1 : wr (c : Int) < 0 → False)
    (o2 : ¬ wr (c : Int) < 0 → ¬ wr (c : Int) < wr (m 17 1) → κ none m)
    (o3 : ¬ wr (c : Int) < 0 → wr (c : Int) < wr (m 17 1) → wr w = 0 → (0 ≤ wr (c : Int) ∧ wr (c : Int) < 8))
    (o4 : ¬ wr (c : Int) < 0 → wr (c : Int) < wr (m 17 1) → wr w = 0 → κ (some (zi (wr (m 21 ((wr (c : Int)).toNat))))) m)
    (o5 : ¬ wr (c : Int) < 0 → wr (c : Int) < wr (m 17 1) → ¬ wr w = 0 → wr w = 1 → (0 ≤ wr (c : Int) ∧ wr (c : Int) < 8))
    (o6 : ¬ wr (c : Int) < 0 → wr (c : Int) < wr (m 17 1) → ¬ wr w = 0 → wr w = 1 → κ (some (zi (wr (m 22 ((wr (c : Int)).toNat))))) m)
    (o7 : ¬ wr (c : Int) < 0 → wr (c : Int) < wr (m 17 1) → ¬ wr w = 0 → ¬ wr w = 1 → wr w = 2 → (0 ≤ wr (c : Int) ∧ wr (c : Int) < 8))
    (o8 : ¬ wr (c : Int) < 0 → wr (c : Int) < wr (m 17 1) → ¬ wr w = 0 → ¬ wr w = 1 → wr w = 2 → (0 ≤ wr (c : Int) ∧ wr (c : Int) < 8))
    (o9 : ¬ wr (c : Int) < 0 → wr (c : Int) < wr (m 17 1) → ¬ wr w = 0 → ¬ wr w = 1 → wr w = 2 → κ (some (zi (wr (wr ((m 21 ((wr (c : Int)).toNat)) + (m 22 ((wr (c : Int)).toNat))))))) m)
    (o10 : ¬ wr (c : Int) < 0 → wr (c : Int) < wr (m 17 1) → ¬ wr w = 0 → ¬ wr w = 1 → ¬ wr w = 2 → wr w = 3 → (0 ≤ wr (c : Int) ∧ wr (c : Int) < 8))
    (o11 : ¬ wr (c : Int) < 0 → wr (c : Int) < wr (m 17 1) → ¬ wr w = 0 → ¬ wr w = 1 → ¬ wr w = 2 → wr w = 3 → κ (some (zi (wr (m 23 ((wr (c : Int)).toNat))))) m)
    (o12 : ¬ wr (c : Int) < 0 → wr (c : Int) < wr (m 17 1) → ¬ wr w = 0 → ¬ wr w = 1 → ¬ wr w = 2 → ¬ wr w = 3 → wr w = 4 → T (D + 2) 29 (0, [(0, zr 17), (1, zi (c : Int))], [], m) (fun r m1 => T (D + 3) 118 (103, [(0, zr 1), (1, zi (c : Int)), (2, zi w)], r.toList ++ [], m1) κ))
    (o13 : ¬ wr (c : Int) < 0 → wr (c : Int) < wr (m 17 1) → ¬ wr w = 0 → ¬ wr w = 1 → ¬ wr w = 2 → ¬ wr w = 3 → ¬ wr w = 4 → κ none m) :
    T (D + 3) 118 (0, [(0, zr 1), (1, zi (c : Int)), (2, zi w)], [], m) κ :=
  hT.1 [] 6 (D + 3) 118 _ κ (hT.1 [] 6 (D + 2) 26 _ _ (And.intro (fun a1 => (o1 a1).elim) (fun a2 => (And.intro (fun a3 => (hT.1 [] 6 (D + 2) 26 (16, [(0, zr 17), (1, zi (c : Int))], [], m) _ (And.intro (z_b01L rfl) (hT.1 [] 6 (D + 3) 118 _ _ (And.intro (fun a5 => (z_litF a5 rfl).elim) (fun _ => (And.intro rfl (o2 a2 a3)))))))) (fun a4 => (hT.1 [] 6 (D + 2) 26 (12, [(0, zr 17), (1, zi (c : Int))], [], m) _ (And.intro (z_b01L rfl) (hT.1 [] 6 (D + 3) 118 _ _ (And.intro (fun _ => (And.intro (fun a7 => (hT.1 [] 6 (D + 3) 118 (63, [(0, zr 1), (1, zi (c : Int)), (2, zi w)], [zr 21], m) _ (And.intro (o3 a2 (Classical.byContradiction a4) a7) (o4 a2 (Classical.byContradiction a4) a7)))) (fun a8 => (And.intro (fun a9 => (hT.1 [] 6 (D + 3) 118 (73, [(0, zr 1), (1, zi (c : Int)), (2, zi w)], [zr 22], m) _ (And.intro (o5 a2 (Classical.byContradiction a4) a8 a9) (o6 a2 (Classical.byContradiction a4) a8 a9)))) (fun a10 => (And.intro (fun a11 => (hT.1 [] 6 (D + 3) 118 (81, [(0, zr 1), (1, zi (c : Int)), (2, zi w)], [zi (c : Int), zr 17], m) _ (hT.1 [] 6 (D + 2) 28 _ _ (And.intro (o7 a2 (Classical.byContradiction a4) a8 a10 a11) (hT.1 [] 6 (D + 2) 28 (10, [(0, zr 17), (1, zi (c : Int))], [zr 22, zi (m 21 ((wr (c : Int)).toNat))], m) _ (And.intro (o8 a2 (Classical.byContradiction a4) a8 a10 a11) (hT.1 [] 6 (D + 3) 118 _ _ (o9 a2 (Classical.byContradiction a4) a8 a10 a11)))))))) (fun a12 => (And.intro (fun a13 => (hT.1 [] 6 (D + 3) 118 (92, [(0, zr 1), (1, zi (c : Int)), (2, zi w)], [zr 23], m) _ (And.intro (o10 a2 (Classical.byContradiction a4) a8 a10 a12 a13) (o11 a2 (Classical.byContradiction a4) a8 a10 a12 a13)))) (fun a14 => (And.intro (fun a15 => (hT.1 [] 6 (D + 3) 118 (100, [(0, zr 1), (1, zi (c : Int)), (2, zi w)], [zi (c : Int), zr 17], m) _ (o12 a2 (Classical.byContradiction a4) a8 a10 a12 a14 a15))) (fun a16 => (And.intro rfl (o13 a2 (Classical.byContradiction a4) a8 a10 a12 a14 a16))))))))))))) (fun a6 => (a6 (z_litT rfl)).elim))))))))))
theorem zb118_0n (hT : zRules T) {D : Nat} {κ : Option zA → zM → Prop} {m : zM} {c : Nat} {w : Int}  (hB : zB m) (h_c : c ≤ 7) (h_w : (-2147483648) ≤ w ∧ w ≤ 2147483647) 
    (k1 : ¬ (c : Int) < (m 17 1) → κ none m)
    (k2 : (c : Int) < (m 17 1) → w = 0 → κ (some (zi (m 21 c))) m)
    (k3 : (c : Int) < (m 17 1) → ¬ w = 0 → w = 1 → κ (some (zi (m 22 c))) m)
    (k4 : (c : Int) < (m 17 1) → ¬ w = 0 → ¬ w = 1 → w = 2 → κ (some (zi ((m 21 c) + (m 22 c)))) m)
    (k5 : (c : Int) < (m 17 1) → ¬ w = 0 → ¬ w = 1 → ¬ w = 2 → w = 3 → κ (some (zi (wr (m 23 c)))) m)
    (k6 : (c : Int) < (m 17 1) → ¬ w = 0 → ¬ w = 1 → ¬ w = 2 → ¬ w = 3 → w = 4 → T (D + 2) 29 (0, [(0, zr 17), (1, zi (c : Int))], [], m) (fun r m1 => T (D + 3) 118 (103, [(0, zr 1), (1, zi (c : Int)), (2, zi w)], r.toList ++ [], m1) κ))
    (k7 : (c : Int) < (m 17 1) → ¬ w = 0 → ¬ w = 1 → ¬ w = 2 → ¬ w = 3 → ¬ w = 4 → κ none m) :
    T (D + 3) 118 (0, [(0, zr 1), (1, zi (c : Int)), (2, zi w)], [], m) κ := by
  have hb2 : 0 ≤ (m 17 1) ∧ (m 17 1) ≤ 8 := hB 17 1
  have hb3 : (-1) ≤ (m 21 c) ∧ (m 21 c) ≤ 99 := hB 21 c
  have hb4 : (-1) ≤ (m 22 c) ∧ (m 22 c) ≤ 9 := hB 22 c
  have hb5 : (-2147483648) ≤ wr (m 23 c) ∧ wr (m 23 c) ≤ 2147483647 := wrB (m 23 c)
  have he0 : wr (c : Int) = (c : Int) := wr_id (by omega) (by omega)
  have he1 : wr (m 17 1) = (m 17 1) := wr_id (by omega) (by omega)
  have he2 : wr w = w := wr_id (by omega) (by omega)
  have he3 : (c : Int).toNat = c := by omega
  have he4 : wr (m 21 c) = (m 21 c) := wr_id (by omega) (by omega)
  have he5 : wr (m 22 c) = (m 22 c) := wr_id (by omega) (by omega)
  have he6 : wr ((m 21 c) + (m 22 c)) = ((m 21 c) + (m 22 c)) := wr_id (by omega) (by omega)
  have key := @zb118_0nr T hT D κ m c w
  simp only [he0, he1, he2, he3, he4, he5, he6, Int.toNat_natCast] at key
  exact key
    (fun x0 => by omega)
    (fun x0 x1 => k1 x1)
    (fun x0 x1 x2 => by refine ⟨?_, ?_⟩ <;> omega)
    (fun x0 x1 x2 => k2 x1 x2)
    (fun x0 x1 x2 x3 => by refine ⟨?_, ?_⟩ <;> omega)
    (fun x0 x1 x2 x3 => k3 x1 x2 x3)
    (fun x0 x1 x2 x3 x4 => by refine ⟨?_, ?_⟩ <;> omega)
    (fun x0 x1 x2 x3 x4 => by refine ⟨?_, ?_⟩ <;> omega)
    (fun x0 x1 x2 x3 x4 => k4 x1 x2 x3 x4)
    (fun x0 x1 x2 x3 x4 x5 => by refine ⟨?_, ?_⟩ <;> omega)
    (fun x0 x1 x2 x3 x4 x5 => k5 x1 x2 x3 x4 x5)
    (fun x0 x1 x2 x3 x4 x5 x6 => k6 x1 x2 x3 x4 x5 x6)
    (fun x0 x1 x2 x3 x4 x5 x6 => k7 x1 x2 x3 x4 x5 x6)
theorem zb117_0nr (hT : zRules T) {D : Nat} {κ : Option zA → zM → Prop} {m : zM} {p : Nat} {w : Int} 
    (o1 : wr (p : Int) < 0 → False)
    (o2 : ¬ wr (p : Int) < 0 → ¬ wr (p : Int) < wr (m 17 0) → κ none m)
    (o3 : ¬ wr (p : Int) < 0 → wr (p : Int) < wr (m 17 0) → wr w = 0 → (0 ≤ wr (p : Int) ∧ wr (p : Int) < 6))
    (o4 : ¬ wr (p : Int) < 0 → wr (p : Int) < wr (m 17 0) → wr w = 0 → κ (some (zi (wr (m 18 ((wr (p : Int)).toNat))))) m)
    (o5 : ¬ wr (p : Int) < 0 → wr (p : Int) < wr (m 17 0) → ¬ wr w = 0 → wr w = 1 → (0 ≤ wr (p : Int) ∧ wr (p : Int) < 6))
    (o6 : ¬ wr (p : Int) < 0 → wr (p : Int) < wr (m 17 0) → ¬ wr w = 0 → wr w = 1 → κ (some (zi (wr (m 19 ((wr (p : Int)).toNat))))) m)
    (o7 : ¬ wr (p : Int) < 0 → wr (p : Int) < wr (m 17 0) → ¬ wr w = 0 → ¬ wr w = 1 → wr w = 2 → (0 ≤ wr (p : Int) ∧ wr (p : Int) < 6))
    (o8 : ¬ wr (p : Int) < 0 → wr (p : Int) < wr (m 17 0) → ¬ wr w = 0 → ¬ wr w = 1 → wr w = 2 → κ (some (zi (wr (m 20 ((wr (p : Int)).toNat))))) m)
    (o9 : ¬ wr (p : Int) < 0 → wr (p : Int) < wr (m 17 0) → ¬ wr w = 0 → ¬ wr w = 1 → ¬ wr w = 2 → wr w = 3 → T (D + 5) 171 (0, [(0, zr 1), (1, zi (p : Int))], [], m) (fun r m1 => T (D + 6) 117 (91, [(0, zr 1), (1, zi (p : Int)), (2, zi w)], r.toList ++ [], m1) κ))
    (o10 : ¬ wr (p : Int) < 0 → wr (p : Int) < wr (m 17 0) → ¬ wr w = 0 → ¬ wr w = 1 → ¬ wr w = 2 → ¬ wr w = 3 → wr w = 4 → T (D + 5) 172 (0, [(0, zr 1), (1, zi (p : Int))], [], m) (fun r m1 => T (D + 6) 117 (97, [(0, zr 1), (1, zi (p : Int)), (2, zi w)], r.toList ++ [], m1) κ))
    (o11 : ¬ wr (p : Int) < 0 → wr (p : Int) < wr (m 17 0) → ¬ wr w = 0 → ¬ wr w = 1 → ¬ wr w = 2 → ¬ wr w = 3 → ¬ wr w = 4 → κ none m) :
    T (D + 6) 117 (0, [(0, zr 1), (1, zi (p : Int)), (2, zi w)], [], m) κ :=
  hT.1 [] 6 (D + 6) 117 _ κ (hT.1 [] 6 (D + 5) 25 _ _ (And.intro (fun a1 => (o1 a1).elim) (fun a2 => (And.intro (fun a3 => (hT.1 [] 6 (D + 5) 25 (16, [(0, zr 17), (1, zi (p : Int))], [], m) _ (And.intro (z_b01L rfl) (hT.1 [] 6 (D + 6) 117 _ _ (And.intro (fun a5 => (z_litF a5 rfl).elim) (fun _ => (And.intro rfl (o2 a2 a3)))))))) (fun a4 => (hT.1 [] 6 (D + 5) 25 (12, [(0, zr 17), (1, zi (p : Int))], [], m) _ (And.intro (z_b01L rfl) (hT.1 [] 6 (D + 6) 117 _ _ (And.intro (fun _ => (And.intro (fun a7 => (hT.1 [] 6 (D + 6) 117 (63, [(0, zr 1), (1, zi (p : Int)), (2, zi w)], [zr 18], m) _ (And.intro (o3 a2 (Classical.byContradiction a4) a7) (o4 a2 (Classical.byContradiction a4) a7)))) (fun a8 => (And.intro (fun a9 => (hT.1 [] 6 (D + 6) 117 (73, [(0, zr 1), (1, zi (p : Int)), (2, zi w)], [zr 19], m) _ (And.intro (o5 a2 (Classical.byContradiction a4) a8 a9) (o6 a2 (Classical.byContradiction a4) a8 a9)))) (fun a10 => (And.intro (fun a11 => (hT.1 [] 6 (D + 6) 117 (83, [(0, zr 1), (1, zi (p : Int)), (2, zi w)], [zr 20], m) _ (And.intro (o7 a2 (Classical.byContradiction a4) a8 a10 a11) (o8 a2 (Classical.byContradiction a4) a8 a10 a11)))) (fun a12 => (And.intro (fun a13 => (o9 a2 (Classical.byContradiction a4) a8 a10 a12 a13)) (fun a14 => (And.intro (fun a15 => (o10 a2 (Classical.byContradiction a4) a8 a10 a12 a14 a15)) (fun a16 => (And.intro rfl (o11 a2 (Classical.byContradiction a4) a8 a10 a12 a14 a16))))))))))))) (fun a6 => (a6 (z_litT rfl)).elim))))))))))
theorem zb117_0n (hT : zRules T) {D : Nat} {κ : Option zA → zM → Prop} {m : zM} {p : Nat} {w : Int}  (hB : zB m) (h_p : p ≤ 5) (h_w : (-2147483648) ≤ w ∧ w ≤ 2147483647) 
    (k1 : ¬ (p : Int) < (m 17 0) → κ none m)
    (k2 : (p : Int) < (m 17 0) → w = 0 → κ (some (zi (m 18 p))) m)
    (k3 : (p : Int) < (m 17 0) → ¬ w = 0 → w = 1 → κ (some (zi (m 19 p))) m)
    (k4 : (p : Int) < (m 17 0) → ¬ w = 0 → ¬ w = 1 → w = 2 → κ (some (zi (m 20 p))) m)
    (k5 : (p : Int) < (m 17 0) → ¬ w = 0 → ¬ w = 1 → ¬ w = 2 → w = 3 → T (D + 5) 171 (0, [(0, zr 1), (1, zi (p : Int))], [], m) (fun r m1 => T (D + 6) 117 (91, [(0, zr 1), (1, zi (p : Int)), (2, zi w)], r.toList ++ [], m1) κ))
    (k6 : (p : Int) < (m 17 0) → ¬ w = 0 → ¬ w = 1 → ¬ w = 2 → ¬ w = 3 → w = 4 → T (D + 5) 172 (0, [(0, zr 1), (1, zi (p : Int))], [], m) (fun r m1 => T (D + 6) 117 (97, [(0, zr 1), (1, zi (p : Int)), (2, zi w)], r.toList ++ [], m1) κ))
    (k7 : (p : Int) < (m 17 0) → ¬ w = 0 → ¬ w = 1 → ¬ w = 2 → ¬ w = 3 → ¬ w = 4 → κ none m) :
    T (D + 6) 117 (0, [(0, zr 1), (1, zi (p : Int)), (2, zi w)], [], m) κ := by
  have hb2 : 0 ≤ (m 17 0) ∧ (m 17 0) ≤ 6 := hB 17 0
  have hb3 : (-1) ≤ (m 18 p) ∧ (m 18 p) ≤ 99 := hB 18 p
  have hb4 : (-1) ≤ (m 19 p) ∧ (m 19 p) ≤ 3 := hB 19 p
  have hb5 : (-1) ≤ (m 20 p) ∧ (m 20 p) ≤ 7 := hB 20 p
  have he0 : wr (p : Int) = (p : Int) := wr_id (by omega) (by omega)
  have he1 : wr (m 17 0) = (m 17 0) := wr_id (by omega) (by omega)
  have he2 : wr w = w := wr_id (by omega) (by omega)
  have he3 : (p : Int).toNat = p := by omega
  have he4 : wr (m 18 p) = (m 18 p) := wr_id (by omega) (by omega)
  have he5 : wr (m 19 p) = (m 19 p) := wr_id (by omega) (by omega)
  have he6 : wr (m 20 p) = (m 20 p) := wr_id (by omega) (by omega)
  have key := @zb117_0nr T hT D κ m p w
  simp only [he0, he1, he2, he3, he4, he5, he6, Int.toNat_natCast] at key
  exact key
    (fun x0 => by omega)
    (fun x0 x1 => k1 x1)
    (fun x0 x1 x2 => by refine ⟨?_, ?_⟩ <;> omega)
    (fun x0 x1 x2 => k2 x1 x2)
    (fun x0 x1 x2 x3 => by refine ⟨?_, ?_⟩ <;> omega)
    (fun x0 x1 x2 x3 => k3 x1 x2 x3)
    (fun x0 x1 x2 x3 x4 => by refine ⟨?_, ?_⟩ <;> omega)
    (fun x0 x1 x2 x3 x4 => k4 x1 x2 x3 x4)
    (fun x0 x1 x2 x3 x4 x5 => k5 x1 x2 x3 x4 x5)
    (fun x0 x1 x2 x3 x4 x5 x6 => k6 x1 x2 x3 x4 x5 x6)
    (fun x0 x1 x2 x3 x4 x5 x6 => k7 x1 x2 x3 x4 x5 x6)
end ZBlocks
